section
/-- a private method of a class that the tables say can be made, by its rows of tables_1 -/
def lw_okq (q : MethodName × Nat) : Prop := (q.1.cls ≠ "java/lang/invoke/MethodHandle" ∧ q.1.cls ≠ "java/lang/invoke/VarHandle") ∧ Cond.instantiable q.1.cls q.2 ∈ tables_1 ∧ Cond.privateMethod q.1 ∈ tables_1 ∧ Cond.instanceMethod q.1 ∈ tables_1
theorem lw_p0 : lw_okq (⟨"ParoleLedger", "readMonths", "()I"⟩, 10) := ⟨⟨by decide +kernel, by decide +kernel⟩, List.mem_of_getElem? (i := 16) (by decide +kernel), List.mem_of_getElem? (i := 341) (by decide +kernel), List.mem_of_getElem? (i := 342) (by decide +kernel)⟩
theorem lw_p1 : lw_okq (⟨"ParoleLedger$Months", "take", "(I)V"⟩, 8) := ⟨⟨by decide +kernel, by decide +kernel⟩, List.mem_of_getElem? (i := 83) (by decide +kernel), List.mem_of_getElem? (i := 356) (by decide +kernel), List.mem_of_getElem? (i := 357) (by decide +kernel)⟩
theorem lw_p2 : lw_okq (⟨"ParoleLedger$Months", "endExchange", "()V"⟩, 8) := ⟨⟨by decide +kernel, by decide +kernel⟩, List.mem_of_getElem? (i := 83) (by decide +kernel), List.mem_of_getElem? (i := 360) (by decide +kernel), List.mem_of_getElem? (i := 361) (by decide +kernel)⟩
theorem lw_p3 : lw_okq (⟨"ParoleLedger$Months", "gather", "(I)V"⟩, 8) := ⟨⟨by decide +kernel, by decide +kernel⟩, List.mem_of_getElem? (i := 83) (by decide +kernel), List.mem_of_getElem? (i := 388) (by decide +kernel), List.mem_of_getElem? (i := 389) (by decide +kernel)⟩
theorem lw_p4 : lw_okq (⟨"ParoleLedger$Months", "endDeed", "(I)V"⟩, 8) := ⟨⟨by decide +kernel, by decide +kernel⟩, List.mem_of_getElem? (i := 83) (by decide +kernel), List.mem_of_getElem? (i := 393) (by decide +kernel), List.mem_of_getElem? (i := 394) (by decide +kernel)⟩
theorem lw_p5 : lw_okq (⟨"ParoleLedger$Exchanges", "find", "(LParoleLedger$Books;IZ)V"⟩, 9) := ⟨⟨by decide +kernel, by decide +kernel⟩, List.mem_of_getElem? (i := 120) (by decide +kernel), List.mem_of_getElem? (i := 450) (by decide +kernel), List.mem_of_getElem? (i := 451) (by decide +kernel)⟩
theorem lw_p6 : lw_okq (⟨"ParoleLedger$Exchanges", "weighLots", "(LParoleLedger$Books;)V"⟩, 9) := ⟨⟨by decide +kernel, by decide +kernel⟩, List.mem_of_getElem? (i := 120) (by decide +kernel), List.mem_of_getElem? (i := 454) (by decide +kernel), List.mem_of_getElem? (i := 455) (by decide +kernel)⟩
theorem lw_p7 : lw_okq (⟨"ParoleLedger$Exchanges", "bestWith", "(IZ)I"⟩, 9) := ⟨⟨by decide +kernel, by decide +kernel⟩, List.mem_of_getElem? (i := 120) (by decide +kernel), List.mem_of_getElem? (i := 467) (by decide +kernel), List.mem_of_getElem? (i := 468) (by decide +kernel)⟩
theorem lw_p8 : lw_okq (⟨"ParoleLedger$Exchanges", "markEven", "()V"⟩, 9) := ⟨⟨by decide +kernel, by decide +kernel⟩, List.mem_of_getElem? (i := 120) (by decide +kernel), List.mem_of_getElem? (i := 496) (by decide +kernel), List.mem_of_getElem? (i := 497) (by decide +kernel)⟩
theorem lw_p9 : lw_okq (⟨"ParoleLedger$Exchanges", "lotsEvenWith", "(I)J"⟩, 9) := ⟨⟨by decide +kernel, by decide +kernel⟩, List.mem_of_getElem? (i := 120) (by decide +kernel), List.mem_of_getElem? (i := 500) (by decide +kernel), List.mem_of_getElem? (i := 501) (by decide +kernel)⟩
theorem lw_p10 : lw_okq (⟨"ParoleLedger$Exchanges", "makeRoomForOneMore", "()V"⟩, 9) := ⟨⟨by decide +kernel, by decide +kernel⟩, List.mem_of_getElem? (i := 120) (by decide +kernel), List.mem_of_getElem? (i := 508) (by decide +kernel), List.mem_of_getElem? (i := 509) (by decide +kernel)⟩
theorem lw_p11 : lw_okq (⟨"ParoleLedger", "bothSidesOpen", "()Z"⟩, 10) := ⟨⟨by decide +kernel, by decide +kernel⟩, List.mem_of_getElem? (i := 16) (by decide +kernel), List.mem_of_getElem? (i := 522) (by decide +kernel), List.mem_of_getElem? (i := 523) (by decide +kernel)⟩
theorem lw_p12 : lw_okq (⟨"ParoleLedger$Worlds", "addIfFits", "(LParoleLedger$Books;II)V"⟩, 6) := ⟨⟨by decide +kernel, by decide +kernel⟩, List.mem_of_getElem? (i := 157) (by decide +kernel), List.mem_of_getElem? (i := 560) (by decide +kernel), List.mem_of_getElem? (i := 561) (by decide +kernel)⟩
theorem lw_p13 : lw_okq (⟨"ParoleLedger$Worlds", "mostLeft", "(LParoleLedger$Books;II)I"⟩, 6) := ⟨⟨by decide +kernel, by decide +kernel⟩, List.mem_of_getElem? (i := 157) (by decide +kernel), List.mem_of_getElem? (i := 586) (by decide +kernel), List.mem_of_getElem? (i := 587) (by decide +kernel)⟩
theorem lw_p14 : lw_okq (⟨"ParoleLedger$Worlds", "worthIn", "(LParoleLedger$Books;II)I"⟩, 6) := ⟨⟨by decide +kernel, by decide +kernel⟩, List.mem_of_getElem? (i := 157) (by decide +kernel), List.mem_of_getElem? (i := 590) (by decide +kernel), List.mem_of_getElem? (i := 591) (by decide +kernel)⟩
theorem lw_p15 : lw_okq (⟨"ParoleLedger$Worlds", "offerPair", "(II)V"⟩, 6) := ⟨⟨by decide +kernel, by decide +kernel⟩, List.mem_of_getElem? (i := 157) (by decide +kernel), List.mem_of_getElem? (i := 595) (by decide +kernel), List.mem_of_getElem? (i := 596) (by decide +kernel)⟩
def lw_privs_1 : List (MethodName × Nat) := [(⟨"ParoleLedger", "readMonths", "()I"⟩, 10), (⟨"ParoleLedger$Months", "take", "(I)V"⟩, 8), (⟨"ParoleLedger$Months", "endExchange", "()V"⟩, 8), (⟨"ParoleLedger$Months", "gather", "(I)V"⟩, 8), (⟨"ParoleLedger$Months", "endDeed", "(I)V"⟩, 8), (⟨"ParoleLedger$Exchanges", "find", "(LParoleLedger$Books;IZ)V"⟩, 9), (⟨"ParoleLedger$Exchanges", "weighLots", "(LParoleLedger$Books;)V"⟩, 9), (⟨"ParoleLedger$Exchanges", "bestWith", "(IZ)I"⟩, 9), (⟨"ParoleLedger$Exchanges", "markEven", "()V"⟩, 9), (⟨"ParoleLedger$Exchanges", "lotsEvenWith", "(I)J"⟩, 9), (⟨"ParoleLedger$Exchanges", "makeRoomForOneMore", "()V"⟩, 9), (⟨"ParoleLedger", "bothSidesOpen", "()Z"⟩, 10), (⟨"ParoleLedger$Worlds", "addIfFits", "(LParoleLedger$Books;II)V"⟩, 6), (⟨"ParoleLedger$Worlds", "mostLeft", "(LParoleLedger$Books;II)I"⟩, 6), (⟨"ParoleLedger$Worlds", "worthIn", "(LParoleLedger$Books;II)I"⟩, 6), (⟨"ParoleLedger$Worlds", "offerPair", "(II)V"⟩, 6)]
theorem lw_r1 : ∀ q ∈ lw_privs_1, lw_okq q := List.forall_mem_cons.mpr ⟨lw_p0, List.forall_mem_cons.mpr ⟨lw_p1, List.forall_mem_cons.mpr ⟨lw_p2, List.forall_mem_cons.mpr ⟨lw_p3, List.forall_mem_cons.mpr ⟨lw_p4, List.forall_mem_cons.mpr ⟨lw_p5, List.forall_mem_cons.mpr ⟨lw_p6, List.forall_mem_cons.mpr ⟨lw_p7, List.forall_mem_cons.mpr ⟨lw_p8, List.forall_mem_cons.mpr ⟨lw_p9, List.forall_mem_cons.mpr ⟨lw_p10, List.forall_mem_cons.mpr ⟨lw_p11, List.forall_mem_cons.mpr ⟨lw_p12, List.forall_mem_cons.mpr ⟨lw_p13, List.forall_mem_cons.mpr ⟨lw_p14, List.forall_mem_cons.mpr ⟨lw_p15, fun _ h => absurd h List.not_mem_nil⟩⟩⟩⟩⟩⟩⟩⟩⟩⟩⟩⟩⟩⟩⟩⟩
theorem lw_p16 : lw_okq (⟨"ParoleLedger$Year", "draw", "(I)V"⟩, 3) := ⟨⟨by decide +kernel, by decide +kernel⟩, List.mem_of_getElem? (i := 220) (by decide +kernel), List.mem_of_getElem? (i := 645) (by decide +kernel), List.mem_of_getElem? (i := 646) (by decide +kernel)⟩
theorem lw_p17 : lw_okq (⟨"ParoleLedger$Year", "tryDeed", "(II)V"⟩, 3) := ⟨⟨by decide +kernel, by decide +kernel⟩, List.mem_of_getElem? (i := 220) (by decide +kernel), List.mem_of_getElem? (i := 649) (by decide +kernel), List.mem_of_getElem? (i := 650) (by decide +kernel)⟩
theorem lw_p18 : lw_okq (⟨"ParoleLedger$Year", "tryExchange", "(I)V"⟩, 3) := ⟨⟨by decide +kernel, by decide +kernel⟩, List.mem_of_getElem? (i := 220) (by decide +kernel), List.mem_of_getElem? (i := 655) (by decide +kernel), List.mem_of_getElem? (i := 656) (by decide +kernel)⟩
theorem lw_p19 : lw_okq (⟨"ParoleLedger", "toldCount", "(I)I"⟩, 10) := ⟨⟨by decide +kernel, by decide +kernel⟩, List.mem_of_getElem? (i := 16) (by decide +kernel), List.mem_of_getElem? (i := 673) (by decide +kernel), List.mem_of_getElem? (i := 674) (by decide +kernel)⟩
theorem lw_p20 : lw_okq (⟨"ParoleLedgerModel", "isOfficer", "(I)Z"⟩, 33) := ⟨⟨by decide +kernel, by decide +kernel⟩, List.mem_of_getElem? (i := 677) (by decide +kernel), List.mem_of_getElem? (i := 802) (by decide +kernel), List.mem_of_getElem? (i := 803) (by decide +kernel)⟩
theorem lw_p21 : lw_okq (⟨"ParoleLedgerModel", "begin", "(I)I"⟩, 33) := ⟨⟨by decide +kernel, by decide +kernel⟩, List.mem_of_getElem? (i := 677) (by decide +kernel), List.mem_of_getElem? (i := 830) (by decide +kernel), List.mem_of_getElem? (i := 831) (by decide +kernel)⟩
theorem lw_p22 : lw_okq (⟨"ParoleLedgerModel", "add", "(I)V"⟩, 33) := ⟨⟨by decide +kernel, by decide +kernel⟩, List.mem_of_getElem? (i := 677) (by decide +kernel), List.mem_of_getElem? (i := 844) (by decide +kernel), List.mem_of_getElem? (i := 845) (by decide +kernel)⟩
theorem lw_p23 : lw_okq (⟨"ParoleLedgerModel", "deed", "(I)I"⟩, 33) := ⟨⟨by decide +kernel, by decide +kernel⟩, List.mem_of_getElem? (i := 677) (by decide +kernel), List.mem_of_getElem? (i := 848) (by decide +kernel), List.mem_of_getElem? (i := 849) (by decide +kernel)⟩
theorem lw_p24 : lw_okq (⟨"ParoleLedgerModel", "inLots", "(II)I"⟩, 33) := ⟨⟨by decide +kernel, by decide +kernel⟩, List.mem_of_getElem? (i := 677) (by decide +kernel), List.mem_of_getElem? (i := 852) (by decide +kernel), List.mem_of_getElem? (i := 853) (by decide +kernel)⟩
theorem lw_p25 : lw_okq (⟨"ParoleLedgerModel", "refusal", "()I"⟩, 33) := ⟨⟨by decide +kernel, by decide +kernel⟩, List.mem_of_getElem? (i := 677) (by decide +kernel), List.mem_of_getElem? (i := 861) (by decide +kernel), List.mem_of_getElem? (i := 862) (by decide +kernel)⟩
theorem lw_p26 : lw_okq (⟨"ParoleLedgerModel", "store", "([I)V"⟩, 33) := ⟨⟨by decide +kernel, by decide +kernel⟩, List.mem_of_getElem? (i := 677) (by decide +kernel), List.mem_of_getElem? (i := 866) (by decide +kernel), List.mem_of_getElem? (i := 867) (by decide +kernel)⟩
theorem lw_p27 : lw_okq (⟨"ParoleLedgerModel", "goMonths", "()V"⟩, 33) := ⟨⟨by decide +kernel, by decide +kernel⟩, List.mem_of_getElem? (i := 677) (by decide +kernel), List.mem_of_getElem? (i := 870) (by decide +kernel), List.mem_of_getElem? (i := 871) (by decide +kernel)⟩
theorem lw_p28 : lw_okq (⟨"ParoleLedgerModel", "whyNot", "(III)I"⟩, 33) := ⟨⟨by decide +kernel, by decide +kernel⟩, List.mem_of_getElem? (i := 677) (by decide +kernel), List.mem_of_getElem? (i := 874) (by decide +kernel), List.mem_of_getElem? (i := 875) (by decide +kernel)⟩
theorem lw_p29 : lw_okq (⟨"ParoleLedgerModel", "areAllOpen", "(I)Z"⟩, 33) := ⟨⟨by decide +kernel, by decide +kernel⟩, List.mem_of_getElem? (i := 677) (by decide +kernel), List.mem_of_getElem? (i := 878) (by decide +kernel), List.mem_of_getElem? (i := 879) (by decide +kernel)⟩
theorem lw_p30 : lw_okq (⟨"ParoleLedgerModel", "isOpen", "(I)Z"⟩, 33) := ⟨⟨by decide +kernel, by decide +kernel⟩, List.mem_of_getElem? (i := 677) (by decide +kernel), List.mem_of_getElem? (i := 882) (by decide +kernel), List.mem_of_getElem? (i := 883) (by decide +kernel)⟩
theorem lw_p31 : lw_okq (⟨"ParoleLedgerModel", "worthOf", "(I)I"⟩, 33) := ⟨⟨by decide +kernel, by decide +kernel⟩, List.mem_of_getElem? (i := 677) (by decide +kernel), List.mem_of_getElem? (i := 886) (by decide +kernel), List.mem_of_getElem? (i := 887) (by decide +kernel)⟩
def lw_privs_2 : List (MethodName × Nat) := [(⟨"ParoleLedger$Year", "draw", "(I)V"⟩, 3), (⟨"ParoleLedger$Year", "tryDeed", "(II)V"⟩, 3), (⟨"ParoleLedger$Year", "tryExchange", "(I)V"⟩, 3), (⟨"ParoleLedger", "toldCount", "(I)I"⟩, 10), (⟨"ParoleLedgerModel", "isOfficer", "(I)Z"⟩, 33), (⟨"ParoleLedgerModel", "begin", "(I)I"⟩, 33), (⟨"ParoleLedgerModel", "add", "(I)V"⟩, 33), (⟨"ParoleLedgerModel", "deed", "(I)I"⟩, 33), (⟨"ParoleLedgerModel", "inLots", "(II)I"⟩, 33), (⟨"ParoleLedgerModel", "refusal", "()I"⟩, 33), (⟨"ParoleLedgerModel", "store", "([I)V"⟩, 33), (⟨"ParoleLedgerModel", "goMonths", "()V"⟩, 33), (⟨"ParoleLedgerModel", "whyNot", "(III)I"⟩, 33), (⟨"ParoleLedgerModel", "areAllOpen", "(I)Z"⟩, 33), (⟨"ParoleLedgerModel", "isOpen", "(I)Z"⟩, 33), (⟨"ParoleLedgerModel", "worthOf", "(I)I"⟩, 33)]
theorem lw_r2 : ∀ q ∈ lw_privs_2, lw_okq q := List.forall_mem_cons.mpr ⟨lw_p16, List.forall_mem_cons.mpr ⟨lw_p17, List.forall_mem_cons.mpr ⟨lw_p18, List.forall_mem_cons.mpr ⟨lw_p19, List.forall_mem_cons.mpr ⟨lw_p20, List.forall_mem_cons.mpr ⟨lw_p21, List.forall_mem_cons.mpr ⟨lw_p22, List.forall_mem_cons.mpr ⟨lw_p23, List.forall_mem_cons.mpr ⟨lw_p24, List.forall_mem_cons.mpr ⟨lw_p25, List.forall_mem_cons.mpr ⟨lw_p26, List.forall_mem_cons.mpr ⟨lw_p27, List.forall_mem_cons.mpr ⟨lw_p28, List.forall_mem_cons.mpr ⟨lw_p29, List.forall_mem_cons.mpr ⟨lw_p30, List.forall_mem_cons.mpr ⟨lw_p31, fun _ h => absurd h List.not_mem_nil⟩⟩⟩⟩⟩⟩⟩⟩⟩⟩⟩⟩⟩⟩⟩⟩
theorem lw_p32 : lw_okq (⟨"ParoleLedgerModel", "rateOf", "(I)I"⟩, 33) := ⟨⟨by decide +kernel, by decide +kernel⟩, List.mem_of_getElem? (i := 677) (by decide +kernel), List.mem_of_getElem? (i := 890) (by decide +kernel), List.mem_of_getElem? (i := 891) (by decide +kernel)⟩
theorem lw_p33 : lw_okq (⟨"ParoleLedgerModel", "canDeed", "(II)Z"⟩, 33) := ⟨⟨by decide +kernel, by decide +kernel⟩, List.mem_of_getElem? (i := 677) (by decide +kernel), List.mem_of_getElem? (i := 897) (by decide +kernel), List.mem_of_getElem? (i := 898) (by decide +kernel)⟩
theorem lw_p34 : lw_okq (⟨"ParoleLedgerModel", "isOut", "(I)Z"⟩, 33) := ⟨⟨by decide +kernel, by decide +kernel⟩, List.mem_of_getElem? (i := 677) (by decide +kernel), List.mem_of_getElem? (i := 901) (by decide +kernel), List.mem_of_getElem? (i := 902) (by decide +kernel)⟩
theorem lw_p35 : lw_okq (⟨"ParoleLedgerModel", "happen", "(II)V"⟩, 33) := ⟨⟨by decide +kernel, by decide +kernel⟩, List.mem_of_getElem? (i := 677) (by decide +kernel), List.mem_of_getElem? (i := 905) (by decide +kernel), List.mem_of_getElem? (i := 906) (by decide +kernel)⟩
theorem lw_p36 : lw_okq (⟨"ParoleLedgerModel", "breakWord", "(I)V"⟩, 33) := ⟨⟨by decide +kernel, by decide +kernel⟩, List.mem_of_getElem? (i := 677) (by decide +kernel), List.mem_of_getElem? (i := 909) (by decide +kernel), List.mem_of_getElem? (i := 910) (by decide +kernel)⟩
theorem lw_p37 : lw_okq (⟨"ParoleLedgerModel", "exchange", "(I)V"⟩, 33) := ⟨⟨by decide +kernel, by decide +kernel⟩, List.mem_of_getElem? (i := 677) (by decide +kernel), List.mem_of_getElem? (i := 913) (by decide +kernel), List.mem_of_getElem? (i := 914) (by decide +kernel)⟩
theorem lw_p38 : lw_okq (⟨"ParoleLedgerModel", "sumOpen", "(I)I"⟩, 33) := ⟨⟨by decide +kernel, by decide +kernel⟩, List.mem_of_getElem? (i := 677) (by decide +kernel), List.mem_of_getElem? (i := 917) (by decide +kernel), List.mem_of_getElem? (i := 918) (by decide +kernel)⟩
theorem lw_p39 : lw_okq (⟨"ParoleLedgerModel", "lay", "([I)V"⟩, 33) := ⟨⟨by decide +kernel, by decide +kernel⟩, List.mem_of_getElem? (i := 677) (by decide +kernel), List.mem_of_getElem? (i := 921) (by decide +kernel), List.mem_of_getElem? (i := 922) (by decide +kernel)⟩
theorem lw_p40 : lw_okq (⟨"ParoleLedgerModel", "findExchange", "(IZ)V"⟩, 33) := ⟨⟨by decide +kernel, by decide +kernel⟩, List.mem_of_getElem? (i := 677) (by decide +kernel), List.mem_of_getElem? (i := 945) (by decide +kernel), List.mem_of_getElem? (i := 946) (by decide +kernel)⟩
theorem lw_p41 : lw_okq (⟨"ParoleLedgerModel", "isBetter", "(IIZ)Z"⟩, 33) := ⟨⟨by decide +kernel, by decide +kernel⟩, List.mem_of_getElem? (i := 677) (by decide +kernel), List.mem_of_getElem? (i := 949) (by decide +kernel), List.mem_of_getElem? (i := 950) (by decide +kernel)⟩
theorem lw_p42 : lw_okq (⟨"ParoleLedgerModel", "canExchange", "(II)Z"⟩, 33) := ⟨⟨by decide +kernel, by decide +kernel⟩, List.mem_of_getElem? (i := 677) (by decide +kernel), List.mem_of_getElem? (i := 953) (by decide +kernel), List.mem_of_getElem? (i := 954) (by decide +kernel)⟩
theorem lw_p43 : lw_okq (⟨"ParoleLedgerModel", "isAllEven", "()Z"⟩, 33) := ⟨⟨by decide +kernel, by decide +kernel⟩, List.mem_of_getElem? (i := 677) (by decide +kernel), List.mem_of_getElem? (i := 969) (by decide +kernel), List.mem_of_getElem? (i := 970) (by decide +kernel)⟩
theorem lw_p44 : lw_okq (⟨"ParoleLedgerModel", "isNobodyOpen", "(I)Z"⟩, 33) := ⟨⟨by decide +kernel, by decide +kernel⟩, List.mem_of_getElem? (i := 677) (by decide +kernel), List.mem_of_getElem? (i := 973) (by decide +kernel), List.mem_of_getElem? (i := 974) (by decide +kernel)⟩
theorem lw_p45 : lw_okq (⟨"ParoleLedgerModel", "findWorlds", "()V"⟩, 33) := ⟨⟨by decide +kernel, by decide +kernel⟩, List.mem_of_getElem? (i := 677) (by decide +kernel), List.mem_of_getElem? (i := 994) (by decide +kernel), List.mem_of_getElem? (i := 995) (by decide +kernel)⟩
theorem lw_p46 : lw_okq (⟨"ParoleLedgerModel", "isWorld", "(I)Z"⟩, 33) := ⟨⟨by decide +kernel, by decide +kernel⟩, List.mem_of_getElem? (i := 677) (by decide +kernel), List.mem_of_getElem? (i := 998) (by decide +kernel), List.mem_of_getElem? (i := 999) (by decide +kernel)⟩
theorem lw_p47 : lw_okq (⟨"ParoleLedgerModel", "isEvenIn", "(III)Z"⟩, 33) := ⟨⟨by decide +kernel, by decide +kernel⟩, List.mem_of_getElem? (i := 677) (by decide +kernel), List.mem_of_getElem? (i := 1002) (by decide +kernel), List.mem_of_getElem? (i := 1003) (by decide +kernel)⟩
def lw_privs_3 : List (MethodName × Nat) := [(⟨"ParoleLedgerModel", "rateOf", "(I)I"⟩, 33), (⟨"ParoleLedgerModel", "canDeed", "(II)Z"⟩, 33), (⟨"ParoleLedgerModel", "isOut", "(I)Z"⟩, 33), (⟨"ParoleLedgerModel", "happen", "(II)V"⟩, 33), (⟨"ParoleLedgerModel", "breakWord", "(I)V"⟩, 33), (⟨"ParoleLedgerModel", "exchange", "(I)V"⟩, 33), (⟨"ParoleLedgerModel", "sumOpen", "(I)I"⟩, 33), (⟨"ParoleLedgerModel", "lay", "([I)V"⟩, 33), (⟨"ParoleLedgerModel", "findExchange", "(IZ)V"⟩, 33), (⟨"ParoleLedgerModel", "isBetter", "(IIZ)Z"⟩, 33), (⟨"ParoleLedgerModel", "canExchange", "(II)Z"⟩, 33), (⟨"ParoleLedgerModel", "isAllEven", "()Z"⟩, 33), (⟨"ParoleLedgerModel", "isNobodyOpen", "(I)Z"⟩, 33), (⟨"ParoleLedgerModel", "findWorlds", "()V"⟩, 33), (⟨"ParoleLedgerModel", "isWorld", "(I)Z"⟩, 33), (⟨"ParoleLedgerModel", "isEvenIn", "(III)Z"⟩, 33)]
theorem lw_r3 : ∀ q ∈ lw_privs_3, lw_okq q := List.forall_mem_cons.mpr ⟨lw_p32, List.forall_mem_cons.mpr ⟨lw_p33, List.forall_mem_cons.mpr ⟨lw_p34, List.forall_mem_cons.mpr ⟨lw_p35, List.forall_mem_cons.mpr ⟨lw_p36, List.forall_mem_cons.mpr ⟨lw_p37, List.forall_mem_cons.mpr ⟨lw_p38, List.forall_mem_cons.mpr ⟨lw_p39, List.forall_mem_cons.mpr ⟨lw_p40, List.forall_mem_cons.mpr ⟨lw_p41, List.forall_mem_cons.mpr ⟨lw_p42, List.forall_mem_cons.mpr ⟨lw_p43, List.forall_mem_cons.mpr ⟨lw_p44, List.forall_mem_cons.mpr ⟨lw_p45, List.forall_mem_cons.mpr ⟨lw_p46, List.forall_mem_cons.mpr ⟨lw_p47, fun _ h => absurd h List.not_mem_nil⟩⟩⟩⟩⟩⟩⟩⟩⟩⟩⟩⟩⟩⟩⟩⟩
theorem lw_p48 : lw_okq (⟨"ParoleLedgerModel", "rateIn", "(II)I"⟩, 33) := ⟨⟨by decide +kernel, by decide +kernel⟩, List.mem_of_getElem? (i := 677) (by decide +kernel), List.mem_of_getElem? (i := 1006) (by decide +kernel), List.mem_of_getElem? (i := 1007) (by decide +kernel)⟩
theorem lw_p49 : lw_okq (⟨"ParoleLedgerModel", "mostLeft", "(II)I"⟩, 33) := ⟨⟨by decide +kernel, by decide +kernel⟩, List.mem_of_getElem? (i := 677) (by decide +kernel), List.mem_of_getElem? (i := 1018) (by decide +kernel), List.mem_of_getElem? (i := 1019) (by decide +kernel)⟩
theorem lw_p50 : lw_okq (⟨"ParoleLedgerModel", "outOf", "(II)I"⟩, 33) := ⟨⟨by decide +kernel, by decide +kernel⟩, List.mem_of_getElem? (i := 677) (by decide +kernel), List.mem_of_getElem? (i := 1029) (by decide +kernel), List.mem_of_getElem? (i := 1030) (by decide +kernel)⟩
theorem lw_p51 : lw_okq (⟨"ParoleLedgerModel", "passAll", "()V"⟩, 33) := ⟨⟨by decide +kernel, by decide +kernel⟩, List.mem_of_getElem? (i := 677) (by decide +kernel), List.mem_of_getElem? (i := 1052) (by decide +kernel), List.mem_of_getElem? (i := 1053) (by decide +kernel)⟩
theorem lw_p52 : lw_okq (⟨"ParoleLedgerModel", "pass", "(I)I"⟩, 33) := ⟨⟨by decide +kernel, by decide +kernel⟩, List.mem_of_getElem? (i := 677) (by decide +kernel), List.mem_of_getElem? (i := 1056) (by decide +kernel), List.mem_of_getElem? (i := 1057) (by decide +kernel)⟩
def lw_privs_4 : List (MethodName × Nat) := [(⟨"ParoleLedgerModel", "rateIn", "(II)I"⟩, 33), (⟨"ParoleLedgerModel", "mostLeft", "(II)I"⟩, 33), (⟨"ParoleLedgerModel", "outOf", "(II)I"⟩, 33), (⟨"ParoleLedgerModel", "passAll", "()V"⟩, 33), (⟨"ParoleLedgerModel", "pass", "(I)I"⟩, 33)]
theorem lw_r4 : ∀ q ∈ lw_privs_4, lw_okq q := List.forall_mem_cons.mpr ⟨lw_p48, List.forall_mem_cons.mpr ⟨lw_p49, List.forall_mem_cons.mpr ⟨lw_p50, List.forall_mem_cons.mpr ⟨lw_p51, List.forall_mem_cons.mpr ⟨lw_p52, fun _ h => absurd h List.not_mem_nil⟩⟩⟩⟩⟩
def lw_privs : List (MethodName × Nat) := lw_privs_1 ++ (lw_privs_2 ++ (lw_privs_3 ++ (lw_privs_4)))
def lw_tbl : List Cond := k2_sels lw_privs ++ tables_1
theorem lw_privs_ok : ∀ q ∈ lw_privs, lw_okq q := by
  show ∀ q ∈ lw_privs_1 ++ (lw_privs_2 ++ (lw_privs_3 ++ (lw_privs_4))), lw_okq q
  exact List.forall_mem_append.mpr ⟨lw_r1, List.forall_mem_append.mpr ⟨lw_r2, List.forall_mem_append.mpr ⟨lw_r3, lw_r4⟩⟩⟩
def RX0 : String := "ParoleLedger$Books"
def TX0 : u_T := fun k => match k with
  | 0 => ("ParoleLedger$Books", "present", "I", false)
  | 1 => ("ParoleLedger$Books", "trust", "I", false)
  | 2 => ("ParoleLedger$Books", "sights", "I", false)
  | 3 => ("ParoleLedger$Books", "evenSights", "I", false)
  | 4 => ("ParoleLedger$Books", "ranks", "[I", true)
  | 5 => ("ParoleLedger$Books", "states", "[I", true)
  | 6 => ("ParoleLedger$Books", "rates", "[I", true)
  | _ => ("ParoleLedger$Books", "sightCrowds", "[I", true)
def tyX0 : Nat → FieldType := fun k => match k with
  | 0 => .int
  | 1 => .int
  | 2 => .int
  | 3 => .int
  | 4 => .array .int
  | 5 => .array .int
  | 6 => .array .int
  | _ => .array .int
abbrev wsX00 : List Cond := u_ws RX0 TX0 8
theorem nmX0 : ∀ a, a < 8 → ∀ b, b < 8 → a ≠ b → (TX0 a).2.1 ≠ (TX0 b).2.1 := by decide +kernel
theorem tyX0_ok : ∀ k, k < 8 → parseFieldDescriptor (TX0 k).2.2.1 = some (tyX0 k) := by decide +kernel
abbrev cX0_init : ByteArray := prog_2_method_1_code
def yX0_init : MethodName := ⟨RX0, "<init>", "()V"⟩
abbrev cX0_copyFrom : ByteArray := prog_2_method_2_code
def yX0_copyFrom : MethodName := ⟨RX0, "copyFrom", "(LParoleLedger$Books;)V"⟩
abbrev cX0_enter : ByteArray := prog_2_method_3_code
def yX0_enter : MethodName := ⟨RX0, "enter", "(II)V"⟩
abbrev cX0_isThere : ByteArray := prog_2_method_4_code
def yX0_isThere : MethodName := ⟨RX0, "isThere", "(I)Z"⟩
abbrev cX0_areThere : ByteArray := prog_2_method_5_code
def yX0_areThere : MethodName := ⟨RX0, "areThere", "(II)Z"⟩
abbrev cX0_crowdIn : ByteArray := prog_2_method_6_code
def yX0_crowdIn : MethodName := ⟨RX0, "crowdIn", "(I)I"⟩
abbrev cX0_lotIn : ByteArray := prog_2_method_7_code
def yX0_lotIn : MethodName := ⟨RX0, "lotIn", "(II)I"⟩
abbrev cX0_worth : ByteArray := prog_2_method_8_code
def yX0_worth : MethodName := ⟨RX0, "worth", "(I)I"⟩
abbrev cX0_lead : ByteArray := prog_2_method_9_code
def yX0_lead : MethodName := ⟨RX0, "lead", "(I)I"⟩
abbrev cX0_evenRate : ByteArray := prog_2_method_10_code
def yX0_evenRate : MethodName := ⟨RX0, "evenRate", "(I)I"⟩
abbrev cX0_addSight : ByteArray := prog_2_method_11_code
def yX0_addSight : MethodName := ⟨RX0, "addSight", "(IZ)V"⟩
abbrev cX0_whyNot : ByteArray := prog_2_method_12_code
def yX0_whyNot : MethodName := ⟨RX0, "whyNot", "(II)I"⟩
abbrev cX0_statesFor : ByteArray := prog_2_method_13_code
def yX0_statesFor : MethodName := ⟨RX0, "statesFor", "(I)I"⟩
abbrev cX0_whyNoExchange : ByteArray := prog_2_method_14_code
def yX0_whyNoExchange : MethodName := ⟨RX0, "whyNoExchange", "(IZ)I"⟩
abbrev cX0_carryOut : ByteArray := prog_2_method_15_code
def yX0_carryOut : MethodName := ⟨RX0, "carryOut", "(II)V"⟩
abbrev cX0_setFree : ByteArray := prog_2_method_16_code
def yX0_setFree : MethodName := ⟨RX0, "setFree", "(I)V"⟩
def RX1 : String := "ParoleLedger$Breaks"
def TX1 : u_T := fun k => match k with
  | 0 => ("ParoleLedger$Breaks", "ways", "[J", true)
  | 1 => ("ParoleLedger$Breaks", "officers", "I", false)
  | _ => ("ParoleLedger$Breaks", "allWays", "J", false)
def tyX1 : Nat → FieldType := fun k => match k with
  | 0 => .array .long
  | 1 => .int
  | _ => .long
abbrev wsX10 : List Cond := u_ws RX1 TX1 3
theorem nmX1 : ∀ a, a < 3 → ∀ b, b < 3 → a ≠ b → (TX1 a).2.1 ≠ (TX1 b).2.1 := by decide +kernel
theorem tyX1_ok : ∀ k, k < 3 → parseFieldDescriptor (TX1 k).2.2.1 = some (tyX1 k) := by decide +kernel
abbrev cX1_init : ByteArray := prog_3_method_1_code
def yX1_init : MethodName := ⟨RX1, "<init>", "()V"⟩
abbrev cX1_spread : ByteArray := prog_3_method_2_code
def yX1_spread : MethodName := ⟨RX1, "spread", "(II)V"⟩
abbrev cX1_waysToKeep : ByteArray := prog_3_method_3_code
def yX1_waysToKeep : MethodName := ⟨RX1, "waysToKeep", "(II)J"⟩
abbrev cX1_trustSum : ByteArray := prog_3_method_4_code
def yX1_trustSum : MethodName := ⟨RX1, "trustSum", "(I)J"⟩
abbrev cX1_lowestTerms : ByteArray := prog_3_method_5_code
def yX1_lowestTerms : MethodName := ⟨RX1, "lowestTerms", "(JI)J"⟩
abbrev cX1_commonDivisor : ByteArray := prog_3_method_6_code
def yX1_commonDivisor : MethodName := ⟨RX1, "commonDivisor", "(JJ)J"⟩
def RX2 : String := "ParoleLedger$Exchanges"
def TX2 : u_T := fun k => match k with
  | 0 => ("ParoleLedger$Exchanges", "bestOurs", "I", false)
  | 1 => ("ParoleLedger$Exchanges", "bestTheirs", "I", false)
  | 2 => ("ParoleLedger$Exchanges", "openOurs", "I", false)
  | 3 => ("ParoleLedger$Exchanges", "openTheirs", "I", false)
  | 4 => ("ParoleLedger$Exchanges", "oursWorth", "[I", true)
  | 5 => ("ParoleLedger$Exchanges", "theirsWorth", "[I", true)
  | 6 => ("ParoleLedger$Exchanges", "evenWith", "[J", true)
  | 7 => ("ParoleLedger$Exchanges", "room", "[J", true)
  | _ => ("ParoleLedger$Exchanges", "nextRoom", "[J", true)
def tyX2 : Nat → FieldType := fun k => match k with
  | 0 => .int
  | 1 => .int
  | 2 => .int
  | 3 => .int
  | 4 => .array .int
  | 5 => .array .int
  | 6 => .array .long
  | 7 => .array .long
  | _ => .array .long
abbrev wsX20 : List Cond := u_ws RX2 TX2 9
theorem nmX2 : ∀ a, a < 9 → ∀ b, b < 9 → a ≠ b → (TX2 a).2.1 ≠ (TX2 b).2.1 := by decide +kernel
theorem tyX2_ok : ∀ k, k < 9 → parseFieldDescriptor (TX2 k).2.2.1 = some (tyX2 k) := by decide +kernel
abbrev cX2_init : ByteArray := prog_4_method_1_code
def yX2_init : MethodName := ⟨RX2, "<init>", "()V"⟩
abbrev cX2_findForMost : ByteArray := prog_4_method_2_code
def yX2_findForMost : MethodName := ⟨RX2, "findForMost", "(LParoleLedger$Books;)V"⟩
abbrev cX2_findForOne : ByteArray := prog_4_method_3_code
def yX2_findForOne : MethodName := ⟨RX2, "findForOne", "(LParoleLedger$Books;I)V"⟩
abbrev cX2_answer : ByteArray := prog_4_method_4_code
def yX2_answer : MethodName := ⟨RX2, "answer", "(II)I"⟩
abbrev cX2_find : ByteArray := prog_4_method_5_code
def yX2_find : MethodName := ⟨RX2, "find", "(LParoleLedger$Books;IZ)V"⟩
abbrev cX2_bestWith : ByteArray := prog_4_method_6_code
def yX2_bestWith : MethodName := ⟨RX2, "bestWith", "(IZ)I"⟩
abbrev cX2_order : ByteArray := prog_4_method_7_code
def yX2_order : MethodName := ⟨RX2, "order", "(IIZ)I"⟩
abbrev cX2_weighLots : ByteArray := prog_4_method_8_code
def yX2_weighLots : MethodName := ⟨RX2, "weighLots", "(LParoleLedger$Books;)V"⟩
abbrev cX2_sumLots : ByteArray := prog_4_method_9_code
def yX2_sumLots : MethodName := ⟨RX2, "sumLots", "(LParoleLedger$Books;I[I)V"⟩
abbrev cX2_mostInARow : ByteArray := prog_4_method_10_code
def yX2_mostInARow : MethodName := ⟨RX2, "mostInARow", "(LParoleLedger$Books;)I"⟩
abbrev cX2_markEven : ByteArray := prog_4_method_11_code
def yX2_markEven : MethodName := ⟨RX2, "markEven", "()V"⟩
abbrev cX2_lotsEvenWith : ByteArray := prog_4_method_12_code
def yX2_lotsEvenWith : MethodName := ⟨RX2, "lotsEvenWith", "(I)J"⟩
abbrev cX2_makeRoomForOneMore : ByteArray := prog_4_method_13_code
def yX2_makeRoomForOneMore : MethodName := ⟨RX2, "makeRoomForOneMore", "()V"⟩
abbrev cX2_withGreaterLots : ByteArray := prog_4_method_14_code
def yX2_withGreaterLots : MethodName := ⟨RX2, "withGreaterLots", "(J)J"⟩
def RX3 : String := "ParoleLedger$Months"
def TX3 : u_T := fun k => match k with
  | 0 => ("ParoleLedger$Months", "books", "LParoleLedger$Books;", true)
  | 1 => ("ParoleLedger$Months", "acts", "I", false)
  | 2 => ("ParoleLedger$Months", "exchanged", "I", false)
  | 3 => ("ParoleLedger$Months", "why", "I", false)
  | 4 => ("ParoleLedger$Months", "named", "I", false)
  | 5 => ("ParoleLedger$Months", "inLots", "Z", false)
  | 6 => ("ParoleLedger$Months", "crowd", "I", false)
  | _ => ("ParoleLedger$Months", "toldTwice", "Z", false)
def tyX3 : Nat → FieldType := fun k => match k with
  | 0 => .object "ParoleLedger$Books"
  | 1 => .int
  | 2 => .int
  | 3 => .int
  | 4 => .int
  | 5 => .boolean
  | 6 => .int
  | _ => .boolean
abbrev wsX30 : List Cond := u_ws RX3 TX3 8
theorem nmX3 : ∀ a, a < 8 → ∀ b, b < 8 → a ≠ b → (TX3 a).2.1 ≠ (TX3 b).2.1 := by decide +kernel
theorem tyX3_ok : ∀ k, k < 8 → parseFieldDescriptor (TX3 k).2.2.1 = some (tyX3 k) := by decide +kernel
abbrev cX3_init : ByteArray := prog_5_method_1_code
def yX3_init : MethodName := ⟨RX3, "<init>", "()V"⟩
abbrev cX3_read : ByteArray := prog_5_method_2_code
def yX3_read : MethodName := ⟨RX3, "read", "(LParoleLedger$Books;LParoleLedger$Pad;)V"⟩
abbrev cX3_failedAct : ByteArray := prog_5_method_3_code
def yX3_failedAct : MethodName := ⟨RX3, "failedAct", "()I"⟩
abbrev cX3_failedWhy : ByteArray := prog_5_method_4_code
def yX3_failedWhy : MethodName := ⟨RX3, "failedWhy", "()I"⟩
abbrev cX3_take : ByteArray := prog_5_method_5_code
def yX3_take : MethodName := ⟨RX3, "take", "(I)V"⟩
abbrev cX3_gather : ByteArray := prog_5_method_6_code
def yX3_gather : MethodName := ⟨RX3, "gather", "(I)V"⟩
abbrev cX3_endExchange : ByteArray := prog_5_method_7_code
def yX3_endExchange : MethodName := ⟨RX3, "endExchange", "()V"⟩
abbrev cX3_endDeed : ByteArray := prog_5_method_8_code
def yX3_endDeed : MethodName := ⟨RX3, "endDeed", "(I)V"⟩
def RX4 : String := "ParoleLedger$Pad"
def TX4 : u_T := fun k => match k with
  | 0 => ("ParoleLedger$Pad", "signs", "[I", true)
  | _ => ("ParoleLedger$Pad", "count", "I", false)
def tyX4 : Nat → FieldType := fun k => match k with
  | 0 => .array .int
  | _ => .int
abbrev wsX40 : List Cond := u_ws RX4 TX4 2
theorem nmX4 : ∀ a, a < 2 → ∀ b, b < 2 → a ≠ b → (TX4 a).2.1 ≠ (TX4 b).2.1 := by decide +kernel
theorem tyX4_ok : ∀ k, k < 2 → parseFieldDescriptor (TX4 k).2.2.1 = some (tyX4 k) := by decide +kernel
abbrev cX4_init : ByteArray := prog_6_method_1_code
def yX4_init : MethodName := ⟨RX4, "<init>", "()V"⟩
abbrev cX4_write : ByteArray := prog_6_method_2_code
def yX4_write : MethodName := ⟨RX4, "write", "(I)V"⟩
abbrev cX4_firstFault : ByteArray := prog_6_method_3_code
def yX4_firstFault : MethodName := ⟨RX4, "firstFault", "()I"⟩
abbrev cX4_next : ByteArray := prog_6_method_4_code
def yX4_next : MethodName := ⟨RX4, "next", "(II)I"⟩
abbrev cX4_officerOf : ByteArray := prog_6_method_5_code
def yX4_officerOf : MethodName := ⟨RX4, "officerOf", "(I)I"⟩
abbrev cX4_deedOf : ByteArray := prog_6_method_6_code
def yX4_deedOf : MethodName := ⟨RX4, "deedOf", "(I)I"⟩
def RX5 : String := "ParoleLedger$Rests"
def TX5 : u_T := fun k => match k with
  | 0 => ("ParoleLedger$Rests", "sets", "I", false)
  | 1 => ("ParoleLedger$Rests", "fewest", "I", false)
  | _ => ("ParoleLedger$Rests", "most", "I", false)
def tyX5 : Nat → FieldType := fun k => match k with
  | 0 => .int
  | 1 => .int
  | _ => .int
abbrev wsX50 : List Cond := u_ws RX5 TX5 3
theorem nmX5 : ∀ a, a < 3 → ∀ b, b < 3 → a ≠ b → (TX5 a).2.1 ≠ (TX5 b).2.1 := by decide +kernel
theorem tyX5_ok : ∀ k, k < 3 → parseFieldDescriptor (TX5 k).2.2.1 = some (tyX5 k) := by decide +kernel
abbrev cX5_init : ByteArray := prog_7_method_1_code
def yX5_init : MethodName := ⟨RX5, "<init>", "()V"⟩
abbrev cX5_count : ByteArray := prog_7_method_2_code
def yX5_count : MethodName := ⟨RX5, "count", "(III)V"⟩
def RX6 : String := "ParoleLedger$Worlds"
def TX6 : u_T := fun k => match k with
  | 0 => ("ParoleLedger$Worlds", "count", "I", false)
  | 1 => ("ParoleLedger$Worlds", "bestPair", "I", false)
  | 2 => ("ParoleLedger$Worlds", "bestLeft", "I", false)
  | 3 => ("ParoleLedger$Worlds", "who", "[I", true)
  | 4 => ("ParoleLedger$Worlds", "had", "[I", true)
  | _ => ("ParoleLedger$Worlds", "leads", "[I", true)
def tyX6 : Nat → FieldType := fun k => match k with
  | 0 => .int
  | 1 => .int
  | 2 => .int
  | 3 => .array .int
  | 4 => .array .int
  | _ => .array .int
abbrev wsX60 : List Cond := u_ws RX6 TX6 6
theorem nmX6 : ∀ a, a < 6 → ∀ b, b < 6 → a ≠ b → (TX6 a).2.1 ≠ (TX6 b).2.1 := by decide +kernel
theorem tyX6_ok : ∀ k, k < 6 → parseFieldDescriptor (TX6 k).2.2.1 = some (tyX6 k) := by decide +kernel
abbrev cX6_init : ByteArray := prog_8_method_1_code
def yX6_init : MethodName := ⟨RX6, "<init>", "()V"⟩
abbrev cX6_find : ByteArray := prog_8_method_2_code
def yX6_find : MethodName := ⟨RX6, "find", "(LParoleLedger$Books;)V"⟩
abbrev cX6_addIfFits : ByteArray := prog_8_method_3_code
def yX6_addIfFits : MethodName := ⟨RX6, "addIfFits", "(LParoleLedger$Books;II)V"⟩
abbrev cX6_forgers : ByteArray := prog_8_method_4_code
def yX6_forgers : MethodName := ⟨RX6, "forgers", "()I"⟩
abbrev cX6_leastRank : ByteArray := prog_8_method_5_code
def yX6_leastRank : MethodName := ⟨RX6, "leastRank", "(I)I"⟩
abbrev cX6_choosePair : ByteArray := prog_8_method_6_code
def yX6_choosePair : MethodName := ⟨RX6, "choosePair", "(LParoleLedger$Books;)V"⟩
abbrev cX6_offerPair : ByteArray := prog_8_method_7_code
def yX6_offerPair : MethodName := ⟨RX6, "offerPair", "(II)V"⟩
abbrev cX6_mostLeft : ByteArray := prog_8_method_8_code
def yX6_mostLeft : MethodName := ⟨RX6, "mostLeft", "(LParoleLedger$Books;II)I"⟩
abbrev cX6_worthIn : ByteArray := prog_8_method_9_code
def yX6_worthIn : MethodName := ⟨RX6, "worthIn", "(LParoleLedger$Books;II)I"⟩
def RX7 : String := "ParoleLedger$Year"
def TX7 : u_T := fun k => match k with
  | 0 => ("ParoleLedger$Year", "books", "LParoleLedger$Books;", true)
  | 1 => ("ParoleLedger$Year", "exchanged", "I", false)
  | _ => ("ParoleLedger$Year", "brokenWords", "I", false)
def tyX7 : Nat → FieldType := fun k => match k with
  | 0 => .object "ParoleLedger$Books"
  | 1 => .int
  | _ => .int
abbrev wsX70 : List Cond := u_ws RX7 TX7 3
theorem nmX7 : ∀ a, a < 3 → ∀ b, b < 3 → a ≠ b → (TX7 a).2.1 ≠ (TX7 b).2.1 := by decide +kernel
theorem tyX7_ok : ∀ k, k < 3 → parseFieldDescriptor (TX7 k).2.2.1 = some (tyX7 k) := by decide +kernel
abbrev cX7_init : ByteArray := prog_9_method_1_code
def yX7_init : MethodName := ⟨RX7, "<init>", "()V"⟩
abbrev cX7_pass : ByteArray := prog_9_method_2_code
def yX7_pass : MethodName := ⟨RX7, "pass", "(LParoleLedger$Books;II)V"⟩
abbrev cX7_draw : ByteArray := prog_9_method_3_code
def yX7_draw : MethodName := ⟨RX7, "draw", "(I)V"⟩
abbrev cX7_tryDeed : ByteArray := prog_9_method_4_code
def yX7_tryDeed : MethodName := ⟨RX7, "tryDeed", "(II)V"⟩
abbrev cX7_tryExchange : ByteArray := prog_9_method_5_code
def yX7_tryExchange : MethodName := ⟨RX7, "tryExchange", "(I)V"⟩
def RX8 : String := "ParoleLedger"
def TX8 : u_T := fun k => match k with
  | 0 => ("ParoleLedger", "now", "LParoleLedger$Books;", true)
  | 1 => ("ParoleLedger", "pad", "LParoleLedger$Pad;", true)
  | 2 => ("ParoleLedger", "months", "LParoleLedger$Months;", true)
  | 3 => ("ParoleLedger", "exchanges", "LParoleLedger$Exchanges;", true)
  | 4 => ("ParoleLedger", "worlds", "LParoleLedger$Worlds;", true)
  | 5 => ("ParoleLedger", "breaks", "LParoleLedger$Breaks;", true)
  | 6 => ("ParoleLedger", "resting", "LParoleLedger$Rests;", true)
  | 7 => ("ParoleLedger", "course", "LParoleLedger$Year;", true)
  | 8 => ("ParoleLedger", "images", "[LParoleLedger$Books;", true)
  | _ => ("ParoleLedger", "kept", "[Z", true)
def tyX8 : Nat → FieldType := fun k => match k with
  | 0 => .object "ParoleLedger$Books"
  | 1 => .object "ParoleLedger$Pad"
  | 2 => .object "ParoleLedger$Months"
  | 3 => .object "ParoleLedger$Exchanges"
  | 4 => .object "ParoleLedger$Worlds"
  | 5 => .object "ParoleLedger$Breaks"
  | 6 => .object "ParoleLedger$Rests"
  | 7 => .object "ParoleLedger$Year"
  | 8 => .array (.object "ParoleLedger$Books")
  | _ => .array .boolean
abbrev wsX80 : List Cond := u_ws RX8 TX8 10
theorem nmX8 : ∀ a, a < 10 → ∀ b, b < 10 → a ≠ b → (TX8 a).2.1 ≠ (TX8 b).2.1 := by decide +kernel
theorem tyX8_ok : ∀ k, k < 10 → parseFieldDescriptor (TX8 k).2.2.1 = some (tyX8 k) := by decide +kernel
abbrev cX8_init : ByteArray := prog_1_method_1_code
def yX8_init : MethodName := ⟨RX8, "<init>", "()V"⟩
abbrev cX8_officer : ByteArray := prog_1_method_2_code
def yX8_officer : MethodName := ⟨RX8, "officer", "(II)I"⟩
abbrev cX8_leave : ByteArray := prog_1_method_3_code
def yX8_leave : MethodName := ⟨RX8, "leave", "(I)I"⟩
abbrev cX8_rate : ByteArray := prog_1_method_4_code
def yX8_rate : MethodName := ⟨RX8, "rate", "(II)I"⟩
abbrev cX8_trust : ByteArray := prog_1_method_5_code
def yX8_trust : MethodName := ⟨RX8, "trust", "(I)I"⟩
abbrev cX8_say : ByteArray := prog_1_method_6_code
def yX8_say : MethodName := ⟨RX8, "say", "(I)I"⟩
abbrev cX8_wipe : ByteArray := prog_1_method_7_code
def yX8_wipe : MethodName := ⟨RX8, "wipe", "()I"⟩
abbrev cX8_fault : ByteArray := prog_1_method_8_code
def yX8_fault : MethodName := ⟨RX8, "fault", "()I"⟩
abbrev cX8_judge : ByteArray := prog_1_method_9_code
def yX8_judge : MethodName := ⟨RX8, "judge", "(I)I"⟩
abbrev cX8_behind : ByteArray := prog_1_method_10_code
def yX8_behind : MethodName := ⟨RX8, "behind", "(II)I"⟩
abbrev cX8_ledger : ByteArray := prog_1_method_11_code
def yX8_ledger : MethodName := ⟨RX8, "ledger", "(I)I"⟩
abbrev cX8_done : ByteArray := prog_1_method_12_code
def yX8_done : MethodName := ⟨RX8, "done", "()I"⟩
abbrev cX8_owed : ByteArray := prog_1_method_13_code
def yX8_owed : MethodName := ⟨RX8, "owed", "()I"⟩
abbrev cX8_home : ByteArray := prog_1_method_14_code
def yX8_home : MethodName := ⟨RX8, "home", "(I)I"⟩
abbrev cX8_bring : ByteArray := prog_1_method_15_code
def yX8_bring : MethodName := ⟨RX8, "bring", "(II)I"⟩
abbrev cX8_lots : ByteArray := prog_1_method_16_code
def yX8_lots : MethodName := ⟨RX8, "lots", "()I"⟩
abbrev cX8_even : ByteArray := prog_1_method_17_code
def yX8_even : MethodName := ⟨RX8, "even", "()I"⟩
abbrev cX8_fair : ByteArray := prog_1_method_18_code
def yX8_fair : MethodName := ⟨RX8, "fair", "(I)I"⟩
abbrev cX8_seen : ByteArray := prog_1_method_19_code
def yX8_seen : MethodName := ⟨RX8, "seen", "(IIZ)I"⟩
abbrev cX8_forget : ByteArray := prog_1_method_20_code
def yX8_forget : MethodName := ⟨RX8, "forget", "()I"⟩
abbrev cX8_forged : ByteArray := prog_1_method_21_code
def yX8_forged : MethodName := ⟨RX8, "forged", "(I)I"⟩
abbrev cX8_rank : ByteArray := prog_1_method_22_code
def yX8_rank : MethodName := ⟨RX8, "rank", "(I)I"⟩
abbrev cX8_weigh : ByteArray := prog_1_method_23_code
def yX8_weigh : MethodName := ⟨RX8, "weigh", "(I)I"⟩
abbrev cX8_broken : ByteArray := prog_1_method_24_code
def yX8_broken : MethodName := ⟨RX8, "broken", "(III)J"⟩
abbrev cX8_rests : ByteArray := prog_1_method_25_code
def yX8_rests : MethodName := ⟨RX8, "rests", "(IIII)I"⟩
abbrev cX8_year : ByteArray := prog_1_method_26_code
def yX8_year : MethodName := ⟨RX8, "year", "(III)I"⟩
abbrev cX8_image : ByteArray := prog_1_method_27_code
def yX8_image : MethodName := ⟨RX8, "image", "(I)I"⟩
abbrev cX8_restore : ByteArray := prog_1_method_28_code
def yX8_restore : MethodName := ⟨RX8, "restore", "(I)I"⟩
abbrev cX8_told : ByteArray := prog_1_method_29_code
def yX8_told : MethodName := ⟨RX8, "told", "(I)I"⟩
abbrev cX8_toldCount : ByteArray := prog_1_method_30_code
def yX8_toldCount : MethodName := ⟨RX8, "toldCount", "(I)I"⟩
abbrev cX8_readMonths : ByteArray := prog_1_method_31_code
def yX8_readMonths : MethodName := ⟨RX8, "readMonths", "()I"⟩
abbrev cX8_bothSidesOpen : ByteArray := prog_1_method_32_code
def yX8_bothSidesOpen : MethodName := ⟨RX8, "bothSidesOpen", "()Z"⟩
abbrev cX8_isWithin : ByteArray := prog_1_method_33_code
def yX8_isWithin : MethodName := ⟨RX8, "isWithin", "(III)Z"⟩
def RX9 : String := "ParoleLedgerModel"
def TX9 : u_T := fun k => match k with
  | 0 => ("ParoleLedgerModel", "officers", "I", false)
  | 1 => ("ParoleLedgerModel", "trusted", "I", false)
  | 2 => ("ParoleLedgerModel", "ranks", "[I", true)
  | 3 => ("ParoleLedgerModel", "is", "[I", true)
  | 4 => ("ParoleLedgerModel", "rates", "[I", true)
  | 5 => ("ParoleLedgerModel", "sightOurs", "[I", true)
  | 6 => ("ParoleLedgerModel", "sightTheirs", "[I", true)
  | 7 => ("ParoleLedgerModel", "sightEven", "[I", true)
  | 8 => ("ParoleLedgerModel", "sights", "I", false)
  | 9 => ("ParoleLedgerModel", "pad", "[I", true)
  | 10 => ("ParoleLedgerModel", "padMany", "I", false)
  | 11 => ("ParoleLedgerModel", "act", "[I", true)
  | 12 => ("ParoleLedgerModel", "lot", "[I", true)
  | 13 => ("ParoleLedgerModel", "twice", "[I", true)
  | 14 => ("ParoleLedgerModel", "acts", "I", false)
  | 15 => ("ParoleLedgerModel", "exchanges", "I", false)
  | 16 => ("ParoleLedgerModel", "brokenWords", "I", false)
  | 17 => ("ParoleLedgerModel", "had", "[I", true)
  | 18 => ("ParoleLedgerModel", "leaves", "[I", true)
  | 19 => ("ParoleLedgerModel", "badAct", "I", false)
  | 20 => ("ParoleLedgerModel", "badWhy", "I", false)
  | 21 => ("ParoleLedgerModel", "oursThen", "I", false)
  | 22 => ("ParoleLedgerModel", "theirsThen", "I", false)
  | 23 => ("ParoleLedgerModel", "bestOurs", "I", false)
  | 24 => ("ParoleLedgerModel", "bestTheirs", "I", false)
  | 25 => ("ParoleLedgerModel", "evens", "[I", true)
  | 26 => ("ParoleLedgerModel", "worldAt", "[I", true)
  | 27 => ("ParoleLedgerModel", "worlds", "I", false)
  | 28 => ("ParoleLedgerModel", "parts", "[J", true)
  | 29 => ("ParoleLedgerModel", "kept", "[I", true)
  | 30 => ("ParoleLedgerModel", "isKept", "[Z", true)
  | 31 => ("ParoleLedgerModel", "keptAt", "I", false)
  | _ => ("ParoleLedgerModel", "isWriting", "Z", false)
def tyX9 : Nat → FieldType := fun k => match k with
  | 0 => .int
  | 1 => .int
  | 2 => .array .int
  | 3 => .array .int
  | 4 => .array .int
  | 5 => .array .int
  | 6 => .array .int
  | 7 => .array .int
  | 8 => .int
  | 9 => .array .int
  | 10 => .int
  | 11 => .array .int
  | 12 => .array .int
  | 13 => .array .int
  | 14 => .int
  | 15 => .int
  | 16 => .int
  | 17 => .array .int
  | 18 => .array .int
  | 19 => .int
  | 20 => .int
  | 21 => .int
  | 22 => .int
  | 23 => .int
  | 24 => .int
  | 25 => .array .int
  | 26 => .array .int
  | 27 => .int
  | 28 => .array .long
  | 29 => .array .int
  | 30 => .array .boolean
  | 31 => .int
  | _ => .boolean
abbrev wsX90 : List Cond := u_ws RX9 TX9 33
theorem nmX9 : ∀ a, a < 33 → ∀ b, b < 33 → a ≠ b → (TX9 a).2.1 ≠ (TX9 b).2.1 := by decide +kernel
theorem tyX9_ok : ∀ k, k < 33 → parseFieldDescriptor (TX9 k).2.2.1 = some (tyX9 k) := by decide +kernel
abbrev cX9_init : ByteArray := prog_11_method_1_code
def yX9_init : MethodName := ⟨RX9, "<init>", "()V"⟩
abbrev cX9_in : ByteArray := prog_11_method_3_code
def yX9_in : MethodName := ⟨RX9, "in", "(JJJ)Z"⟩
abbrev cX9_ones : ByteArray := prog_11_method_4_code
def yX9_ones : MethodName := ⟨RX9, "ones", "(I)I"⟩
abbrev cX9_isOfficer : ByteArray := prog_11_method_5_code
def yX9_isOfficer : MethodName := ⟨RX9, "isOfficer", "(I)Z"⟩
abbrev cX9_isRank : ByteArray := prog_11_method_6_code
def yX9_isRank : MethodName := ⟨RX9, "isRank", "(I)Z"⟩
abbrev cX9_officer : ByteArray := prog_11_method_7_code
def yX9_officer : MethodName := ⟨RX9, "officer", "(II)I"⟩
abbrev cX9_leave : ByteArray := prog_11_method_8_code
def yX9_leave : MethodName := ⟨RX9, "leave", "(I)I"⟩
abbrev cX9_rate : ByteArray := prog_11_method_9_code
def yX9_rate : MethodName := ⟨RX9, "rate", "(II)I"⟩
abbrev cX9_trust : ByteArray := prog_11_method_10_code
def yX9_trust : MethodName := ⟨RX9, "trust", "(I)I"⟩
abbrev cX9_say : ByteArray := prog_11_method_11_code
def yX9_say : MethodName := ⟨RX9, "say", "(I)I"⟩
abbrev cX9_wipe : ByteArray := prog_11_method_12_code
def yX9_wipe : MethodName := ⟨RX9, "wipe", "()I"⟩
abbrev cX9_ours : ByteArray := prog_11_method_13_code
def yX9_ours : MethodName := ⟨RX9, "ours", "(I)I"⟩
abbrev cX9_theirs : ByteArray := prog_11_method_14_code
def yX9_theirs : MethodName := ⟨RX9, "theirs", "(I)I"⟩
abbrev cX9_add : ByteArray := prog_11_method_15_code
def yX9_add : MethodName := ⟨RX9, "add", "(I)V"⟩
abbrev cX9_begin : ByteArray := prog_11_method_16_code
def yX9_begin : MethodName := ⟨RX9, "begin", "(I)I"⟩
abbrev cX9_deed : ByteArray := prog_11_method_17_code
def yX9_deed : MethodName := ⟨RX9, "deed", "(I)I"⟩
abbrev cX9_inLots : ByteArray := prog_11_method_18_code
def yX9_inLots : MethodName := ⟨RX9, "inLots", "(II)I"⟩
abbrev cX9_fault : ByteArray := prog_11_method_19_code
def yX9_fault : MethodName := ⟨RX9, "fault", "()I"⟩
abbrev cX9_rateOf : ByteArray := prog_11_method_20_code
def yX9_rateOf : MethodName := ⟨RX9, "rateOf", "(I)I"⟩
abbrev cX9_isOpen : ByteArray := prog_11_method_21_code
def yX9_isOpen : MethodName := ⟨RX9, "isOpen", "(I)Z"⟩
abbrev cX9_isOut : ByteArray := prog_11_method_22_code
def yX9_isOut : MethodName := ⟨RX9, "isOut", "(I)Z"⟩
abbrev cX9_worthOf : ByteArray := prog_11_method_23_code
def yX9_worthOf : MethodName := ⟨RX9, "worthOf", "(I)I"⟩
abbrev cX9_areAllOpen : ByteArray := prog_11_method_24_code
def yX9_areAllOpen : MethodName := ⟨RX9, "areAllOpen", "(I)Z"⟩
abbrev cX9_only : ByteArray := prog_11_method_25_code
def yX9_only : MethodName := ⟨RX9, "only", "(I)I"⟩
abbrev cX9_canDeed : ByteArray := prog_11_method_26_code
def yX9_canDeed : MethodName := ⟨RX9, "canDeed", "(II)Z"⟩
abbrev cX9_whyNot : ByteArray := prog_11_method_27_code
def yX9_whyNot : MethodName := ⟨RX9, "whyNot", "(III)I"⟩
abbrev cX9_breakWord : ByteArray := prog_11_method_28_code
def yX9_breakWord : MethodName := ⟨RX9, "breakWord", "(I)V"⟩
abbrev cX9_exchange : ByteArray := prog_11_method_29_code
def yX9_exchange : MethodName := ⟨RX9, "exchange", "(I)V"⟩
abbrev cX9_happen : ByteArray := prog_11_method_30_code
def yX9_happen : MethodName := ⟨RX9, "happen", "(II)V"⟩
abbrev cX9_store : ByteArray := prog_11_method_31_code
def yX9_store : MethodName := ⟨RX9, "store", "([I)V"⟩
abbrev cX9_lay : ByteArray := prog_11_method_32_code
def yX9_lay : MethodName := ⟨RX9, "lay", "([I)V"⟩
abbrev cX9_goMonths : ByteArray := prog_11_method_33_code
def yX9_goMonths : MethodName := ⟨RX9, "goMonths", "()V"⟩
abbrev cX9_sumOpen : ByteArray := prog_11_method_34_code
def yX9_sumOpen : MethodName := ⟨RX9, "sumOpen", "(I)I"⟩
abbrev cX9_refusal : ByteArray := prog_11_method_35_code
def yX9_refusal : MethodName := ⟨RX9, "refusal", "()I"⟩
abbrev cX9_judge : ByteArray := prog_11_method_36_code
def yX9_judge : MethodName := ⟨RX9, "judge", "(I)I"⟩
abbrev cX9_behind : ByteArray := prog_11_method_37_code
def yX9_behind : MethodName := ⟨RX9, "behind", "(II)I"⟩
abbrev cX9_ledger : ByteArray := prog_11_method_38_code
def yX9_ledger : MethodName := ⟨RX9, "ledger", "(I)I"⟩
abbrev cX9_done : ByteArray := prog_11_method_39_code
def yX9_done : MethodName := ⟨RX9, "done", "()I"⟩
abbrev cX9_owed : ByteArray := prog_11_method_40_code
def yX9_owed : MethodName := ⟨RX9, "owed", "()I"⟩
abbrev cX9_canExchange : ByteArray := prog_11_method_41_code
def yX9_canExchange : MethodName := ⟨RX9, "canExchange", "(II)Z"⟩
abbrev cX9_isBetter : ByteArray := prog_11_method_42_code
def yX9_isBetter : MethodName := ⟨RX9, "isBetter", "(IIZ)Z"⟩
abbrev cX9_findExchange : ByteArray := prog_11_method_43_code
def yX9_findExchange : MethodName := ⟨RX9, "findExchange", "(IZ)V"⟩
abbrev cX9_home : ByteArray := prog_11_method_44_code
def yX9_home : MethodName := ⟨RX9, "home", "(I)I"⟩
abbrev cX9_bring : ByteArray := prog_11_method_45_code
def yX9_bring : MethodName := ⟨RX9, "bring", "(II)I"⟩
abbrev cX9_lots : ByteArray := prog_11_method_46_code
def yX9_lots : MethodName := ⟨RX9, "lots", "()I"⟩
abbrev cX9_isNobodyOpen : ByteArray := prog_11_method_47_code
def yX9_isNobodyOpen : MethodName := ⟨RX9, "isNobodyOpen", "(I)Z"⟩
abbrev cX9_isAllEven : ByteArray := prog_11_method_48_code
def yX9_isAllEven : MethodName := ⟨RX9, "isAllEven", "()Z"⟩
abbrev cX9_even : ByteArray := prog_11_method_49_code
def yX9_even : MethodName := ⟨RX9, "even", "()I"⟩
abbrev cX9_fair : ByteArray := prog_11_method_50_code
def yX9_fair : MethodName := ⟨RX9, "fair", "(I)I"⟩
abbrev cX9_seen : ByteArray := prog_11_method_51_code
def yX9_seen : MethodName := ⟨RX9, "seen", "(IIZ)I"⟩
abbrev cX9_forget : ByteArray := prog_11_method_52_code
def yX9_forget : MethodName := ⟨RX9, "forget", "()I"⟩
abbrev cX9_rateIn : ByteArray := prog_11_method_53_code
def yX9_rateIn : MethodName := ⟨RX9, "rateIn", "(II)I"⟩
abbrev cX9_isEvenIn : ByteArray := prog_11_method_54_code
def yX9_isEvenIn : MethodName := ⟨RX9, "isEvenIn", "(III)Z"⟩
abbrev cX9_isWorld : ByteArray := prog_11_method_55_code
def yX9_isWorld : MethodName := ⟨RX9, "isWorld", "(I)Z"⟩
abbrev cX9_findWorlds : ByteArray := prog_11_method_56_code
def yX9_findWorlds : MethodName := ⟨RX9, "findWorlds", "()V"⟩
abbrev cX9_forged : ByteArray := prog_11_method_57_code
def yX9_forged : MethodName := ⟨RX9, "forged", "(I)I"⟩
abbrev cX9_rank : ByteArray := prog_11_method_58_code
def yX9_rank : MethodName := ⟨RX9, "rank", "(I)I"⟩
abbrev cX9_mostLeft : ByteArray := prog_11_method_59_code
def yX9_mostLeft : MethodName := ⟨RX9, "mostLeft", "(II)I"⟩
abbrev cX9_weigh : ByteArray := prog_11_method_60_code
def yX9_weigh : MethodName := ⟨RX9, "weigh", "(I)I"⟩
abbrev cX9_outOf : ByteArray := prog_11_method_61_code
def yX9_outOf : MethodName := ⟨RX9, "outOf", "(II)I"⟩
abbrev cX9_lowest : ByteArray := prog_11_method_62_code
def yX9_lowest : MethodName := ⟨RX9, "lowest", "(JJI)J"⟩
abbrev cX9_broken : ByteArray := prog_11_method_63_code
def yX9_broken : MethodName := ⟨RX9, "broken", "(III)J"⟩
abbrev cX9_rests : ByteArray := prog_11_method_64_code
def yX9_rests : MethodName := ⟨RX9, "rests", "(IIII)I"⟩
abbrev cX9_year : ByteArray := prog_11_method_65_code
def yX9_year : MethodName := ⟨RX9, "year", "(III)I"⟩
abbrev cX9_pass : ByteArray := prog_11_method_66_code
def yX9_pass : MethodName := ⟨RX9, "pass", "(I)I"⟩
abbrev cX9_passAll : ByteArray := prog_11_method_67_code
def yX9_passAll : MethodName := ⟨RX9, "passAll", "()V"⟩
abbrev cX9_image : ByteArray := prog_11_method_68_code
def yX9_image : MethodName := ⟨RX9, "image", "(I)I"⟩
abbrev cX9_restore : ByteArray := prog_11_method_69_code
def yX9_restore : MethodName := ⟨RX9, "restore", "(I)I"⟩
abbrev cX9_told : ByteArray := prog_11_method_70_code
def yX9_told : MethodName := ⟨RX9, "told", "(I)I"⟩
def RJ6 : String := "java/lang/Integer"
def TJ6 : u_T := fun k => match k with
  | _ => ("", "", "", false)
def tyJ6 : Nat → FieldType := fun k => match k with
  | _ => .int
abbrev wsJ60 : List Cond := u_ws RJ6 TJ6 0
theorem nmJ6 : ∀ a, a < 0 → ∀ b, b < 0 → a ≠ b → (TJ6 a).2.1 ≠ (TJ6 b).2.1 := by decide +kernel
theorem tyJ6_ok : ∀ k, k < 0 → parseFieldDescriptor (TJ6 k).2.2.1 = some (tyJ6 k) := by decide +kernel
abbrev cJ6_bitCount_0f7a4 : ByteArray := prog_12_method_49_code
def yJ6_bitCount_0f7a4 : MethodName := ⟨RJ6, "bitCount", "(I)I"⟩
def RJ9 : String := "java/lang/Math"
def TJ9 : u_T := fun k => match k with
  | _ => ("", "", "", false)
def tyJ9 : Nat → FieldType := fun k => match k with
  | _ => .int
abbrev wsJ90 : List Cond := u_ws RJ9 TJ9 0
theorem nmJ9 : ∀ a, a < 0 → ∀ b, b < 0 → a ≠ b → (TJ9 a).2.1 ≠ (TJ9 b).2.1 := by decide +kernel
theorem tyJ9_ok : ∀ k, k < 0 → parseFieldDescriptor (TJ9 k).2.2.1 = some (tyJ9 k) := by decide +kernel
abbrev cJ9_abs_0f7a4 : ByteArray := prog_13_method_59_code
def yJ9_abs_0f7a4 : MethodName := ⟨RJ9, "abs", "(I)I"⟩
abbrev cJ9_max_7cf53 : ByteArray := prog_13_method_65_code
def yJ9_max_7cf53 : MethodName := ⟨RJ9, "max", "(II)I"⟩
abbrev cJ9_min_7cf53 : ByteArray := prog_13_method_69_code
def yJ9_min_7cf53 : MethodName := ⟨RJ9, "min", "(II)I"⟩
def RJ10 : String := "java/lang/System"
def TJ10 : u_T := fun k => match k with
  | _ => ("", "", "", false)
def tyJ10 : Nat → FieldType := fun k => match k with
  | _ => .int
abbrev wsJ100 : List Cond := u_ws RJ10 TJ10 0
theorem nmJ10 : ∀ a, a < 0 → ∀ b, b < 0 → a ≠ b → (TJ10 a).2.1 ≠ (TJ10 b).2.1 := by decide +kernel
theorem tyJ10_ok : ∀ k, k < 0 → parseFieldDescriptor (TJ10 k).2.2.1 = some (tyJ10 k) := by decide +kernel
def RJ7 : String := "java/util/Arrays"
def TJ7 : u_T := fun k => match k with
  | _ => ("", "", "", false)
def tyJ7 : Nat → FieldType := fun k => match k with
  | _ => .int
abbrev wsJ70 : List Cond := u_ws RJ7 TJ7 0
theorem nmJ7 : ∀ a, a < 0 → ∀ b, b < 0 → a ≠ b → (TJ7 a).2.1 ≠ (TJ7 b).2.1 := by decide +kernel
theorem tyJ7_ok : ∀ k, k < 0 → parseFieldDescriptor (TJ7 k).2.2.1 = some (tyJ7 k) := by decide +kernel
abbrev cJ7_fill_d0a16 : ByteArray := prog_15_method_101_code
def yJ7_fill_d0a16 : MethodName := ⟨RJ7, "fill", "([JJ)V"⟩
def RL : String := "ParoleLedgerLaw"
abbrev cL_law : ByteArray := code
def yL_law : MethodName := ⟨RL, "law", "([I)Z"⟩
abbrev vwCl : List vw_C := [(RX0, TX0, 8), (RX1, TX1, 3), (RX2, TX2, 9), (RX3, TX3, 8), (RX4, TX4, 2), (RX5, TX5, 3), (RX6, TX6, 6), (RX7, TX7, 3), (RX8, TX8, 10), (RX9, TX9, 33)]
theorem in_ix {big ws : List Cond} (ps : List Nat) (hp : ws = ps.filterMap (fun i => big[i]?)) : ∀ w ∈ ws, w ∈ big := by
  intro w hw
  rw [hp] at hw
  obtain ⟨i, -, hi⟩ := List.mem_filterMap.mp hw
  exact List.mem_of_getElem? hi
set_option maxRecDepth 20000 in
theorem inX0 : ∀ w ∈ wsX00, w ∈ lw_tbl := in_ix [101, 103, 105, 107, 109, 111, 113, 115] (by decide +kernel)
set_option maxRecDepth 20000 in
theorem inX1 : ∀ w ∈ wsX10, w ∈ lw_tbl := in_ix [246, 248, 250] (by decide +kernel)
set_option maxRecDepth 20000 in
theorem inX2 : ∀ w ∈ wsX20, w ∈ lw_tbl := in_ix [189, 191, 193, 195, 197, 199, 201, 203, 205] (by decide +kernel)
set_option maxRecDepth 20000 in
theorem inX3 : ∀ w ∈ wsX30, w ∈ lw_tbl := in_ix [155, 157, 159, 161, 163, 165, 167, 169] (by decide +kernel)
set_option maxRecDepth 20000 in
theorem inX4 : ∀ w ∈ wsX40, w ∈ lw_tbl := in_ix [130, 132] (by decide +kernel)
set_option maxRecDepth 20000 in
theorem inX5 : ∀ w ∈ wsX50, w ∈ lw_tbl := in_ix [265, 267, 269] (by decide +kernel)
set_option maxRecDepth 20000 in
theorem inX6 : ∀ w ∈ wsX60, w ∈ lw_tbl := in_ix [224, 226, 228, 230, 232, 234] (by decide +kernel)
set_option maxRecDepth 20000 in
theorem inX7 : ∀ w ∈ wsX70, w ∈ lw_tbl := in_ix [286, 288, 290] (by decide +kernel)
set_option maxRecDepth 20000 in
theorem inX8 : ∀ w ∈ wsX80, w ∈ lw_tbl := in_ix [304, 306, 308, 310, 312, 314, 316, 318, 320, 322] (by decide +kernel)
set_option maxRecDepth 20000 in
theorem inX9 : ∀ w ∈ wsX90, w ∈ lw_tbl := in_ix [768, 770, 772, 774, 776, 778, 780, 782, 784, 786, 788, 790, 792, 794, 796, 798, 800, 802, 804, 806, 808, 810, 812, 814, 816, 818, 820, 822, 824, 826, 828, 830, 832] (by decide +kernel)
end
section
/-! memory, shapes, the region's picture -/
abbrev Mm : Type := (Nat → Nat → Int32) × (Nat → Nat → Int64)
def sI (M : Mm) (c k : Nat) (v : Int32) : Mm := (fun a b => if a = c ∧ b = k then v else M.1 a b, M.2)
def sL (M : Mm) (c k : Nat) (v : Int64) : Mm := (M.1, fun a b => if a = c ∧ b = k then v else M.2 a b)
def cpI (M : Mm) (c d n : Nat) : Mm := (fun a b => if a = d ∧ b < n then M.1 c b else M.1 a b, M.2)
def cpL (M : Mm) (c d n : Nat) : Mm := (M.1, fun a b => if a = d ∧ b < n then M.2 c b else M.2 a b)
abbrev Fk : Type := Option (Option Nat)
abbrev Sh : Type := (Nat × Nat) ⊕ ((Nat × List Fk) ⊕ List Nat)
abbrev Rg : Type := va_G × (ClassId × ClassId × ClassId × ClassId) × List Sh × (Nat → Nat) × Nat
abbrev gD (G : Rg) : va_G := G.1
abbrev gI (G : Rg) : ClassId := G.2.1.1
abbrev gJ (G : Rg) : ClassId := G.2.1.2.1
abbrev gZ (G : Rg) : ClassId := G.2.1.2.2.1
abbrev gB (G : Rg) : ClassId := G.2.1.2.2.2
abbrev gS (G : Rg) : List Sh := G.2.2.1
abbrev gA (G : Rg) : Nat → Nat := G.2.2.2.1
abbrev gL (G : Rg) : Nat := G.2.2.2.2
def fv (G : Rg) (M : Mm) (c k : Nat) : Fk → Value
  | none => .int (M.1 c k)
  | some none => .long (M.2 c k)
  | some (some r) => .ref (gA G r)
def en (G : Rg) (M : Mm) (c : Nat) : Sh → va_E
  | .inl (0, n) => .inl (gI G, n, .inl (M.1 c))
  | .inl (1, n) => .inl (gJ G, n, .inr (.inl (M.2 c)))
  | .inl (_, n) => .inl (gZ G, n, .inl (M.1 c))
  | .inr (.inl (ci, fl)) => .inr (ci, fl.mapIdx (fun k f => fv G M c k f))
  | .inr (.inr rs) => .inl (gB G, rs.length, .inr (.inr (.inr (.inr (fun k => rs[k]?.map (gA G))))))
def wl (G : Rg) (M : Mm) : va_W := (gS G).mapIdx (fun c x => (gA G c, en G M c x))
theorem wl_at {G : Rg} {c : Nat} {x : Sh} (M : Mm) (h : (gS G)[c]? = some x) : (wl G M)[c]? = some (gA G c, en G M c x) := by
  simp [wl, List.getElem?_mapIdx, h]
def Ar (G : Rg) : Nat → Prop := fun q => ∃ c, c < (gS G).length ∧ q = gA G c
def Rp (G : Rg) (M : Mm) (H : Heap) : Prop := va_P (gD G) vwCl (wl G M) H
abbrev ty4 (G : Rg) : List (ClassId × FieldType) := [(gI G, .int), (gJ G, .long), (gZ G, .boolean), (gB G, .object RX0)]
theorem wl_len (G : Rg) (M : Mm) : (wl G M).length = (gS G).length := by simp [wl]
theorem wl_inv {G : Rg} {M : Mm} {k : Nat} {q : Nat × va_E} (h : (wl G M)[k]? = some q) : k < (gS G).length ∧ q.1 = gA G k := by
  have h1 : k < (wl G M).length := (List.getElem?_eq_some_iff.mp h).1
  rw [wl_len] at h1
  refine ⟨h1, ?_⟩
  have h2 : (gS G)[k]? = some (gS G)[k] := List.getElem?_eq_getElem h1
  rw [wl_at M h2] at h
  cases h; rfl
def Inj (G : Rg) : Prop := ∀ i j, i < (gS G).length → j < (gS G).length → gA G i = gA G j → i = j
theorem wl_D {G : Rg} (M : Mm) (hI : Inj G) : va_D (Ar G) (wl G M) := by
  refine ⟨fun i j p q hp hq e => ?_, fun k q hq => ?_⟩
  · obtain ⟨a1, a2⟩ := wl_inv hp
    obtain ⟨b1, b2⟩ := wl_inv hq
    exact hI i j a1 b1 (by rw [← a2, ← b2]; exact e)
  · obtain ⟨a1, a2⟩ := wl_inv hq
    exact ⟨k, a1, a2⟩
theorem sI_ne {M : Mm} {c k a : Nat} {v : Int32} (h : a ≠ c) : (sI M c k v).1 a = M.1 a := by
  funext b; simp [sI, h]
theorem sI_at {M : Mm} {c k : Nat} {v : Int32} : (sI M c k v).1 c = upd (M.1 c) k v := by
  funext b; simp [sI, upd]
theorem sL_ne {M : Mm} {c k a : Nat} {v : Int64} (h : a ≠ c) : (sL M c k v).2 a = M.2 a := by
  funext b; simp [sL, h]
theorem sL_at {M : Mm} {c k : Nat} {v : Int64} : (sL M c k v).2 c = vp_updL (M.2 c) k v := by
  funext b; simp [sL, vp_updL]
theorem en_sI_ne {G : Rg} {M : Mm} {c k a : Nat} {v : Int32} (h : a ≠ c) (x : Sh) : en G (sI M c k v) a x = en G M a x := by
  rcases x with ⟨t, n⟩ | ⟨ci, fl⟩ | rs
  · match t with
    | 0 => simp only [en, sI_ne h]
    | 1 => rfl
    | t + 2 => simp only [en, sI_ne h]
  · have e : (fun (j : Nat) (f : Fk) => fv G (sI M c k v) a j f) = fun j f => fv G M a j f := by
      funext j f
      rcases f with _ | _ | r <;> simp only [fv, sI_ne h] <;> rfl
    simp only [en, e]
  · rfl
theorem en_sL_ne {G : Rg} {M : Mm} {c k a : Nat} {v : Int64} (h : a ≠ c) (x : Sh) : en G (sL M c k v) a x = en G M a x := by
  rcases x with ⟨t, n⟩ | ⟨ci, fl⟩ | rs
  · match t with
    | 0 => rfl
    | 1 => simp only [en, sL_ne h]
    | t + 2 => rfl
  · have e : (fun (j : Nat) (f : Fk) => fv G (sL M c k v) a j f) = fun j f => fv G M a j f := by
      funext j f
      rcases f with _ | _ | r <;> simp only [fv, sL_ne h] <;> rfl
    simp only [en, e]
  · rfl
/-- the picture with one cell anew -/
theorem wl_set {G : Rg} {M M' : Mm} {c : Nat} {x : Sh} (hc : (gS G)[c]? = some x) (h : ∀ a y, a ≠ c → en G M' a y = en G M a y) : (wl G M).set c (gA G c, en G M' c x) = wl G M' := by
  apply List.ext_getElem?
  intro i
  rw [List.getElem?_set]
  by_cases e : c = i
  · subst e
    have hl : c < (wl G M).length := by rw [wl_len]; exact (List.getElem?_eq_some_iff.mp hc).1
    rw [if_pos rfl, if_pos hl, wl_at M' hc]
  · rw [if_neg e]
    simp only [wl, List.getElem?_mapIdx]
    cases hy : (gS G)[i]? with
    | none => rfl
    | some y => simp only [Option.map_some]; rw [h i y (fun q => e q.symm)]
theorem en_obI {G : Rg} {M : Mm} {c k ci : Nat} {fl : List Fk} {v : Int32} (hf : fl[k]? = some none) : en G (sI M c k v) c (.inr (.inl (ci, fl))) = .inr (ci, (fl.mapIdx (fun j f => fv G M c j f)).set k (.int v)) := by
  simp only [en]
  congr 2
  apply List.ext_getElem?
  intro i
  rw [List.getElem?_set, List.getElem?_mapIdx, List.getElem?_mapIdx]
  by_cases e : k = i
  · subst e
    have hl : k < fl.length := (List.getElem?_eq_some_iff.mp hf).1
    rw [if_pos rfl, List.length_mapIdx, if_pos hl, hf]
    simp [fv, sI]
  · rw [if_neg e]
    cases hy : fl[i]? with
    | none => rfl
    | some y =>
      simp only [Option.map_some]
      rcases y with _ | _ | r
      · simp [fv, sI, Ne.symm e]
      · rfl
      · rfl
theorem en_obL {G : Rg} {M : Mm} {c k ci : Nat} {fl : List Fk} {v : Int64} (hf : fl[k]? = some (some none)) : en G (sL M c k v) c (.inr (.inl (ci, fl))) = .inr (ci, (fl.mapIdx (fun j f => fv G M c j f)).set k (.long v)) := by
  simp only [en]
  congr 2
  apply List.ext_getElem?
  intro i
  rw [List.getElem?_set, List.getElem?_mapIdx, List.getElem?_mapIdx]
  by_cases e : k = i
  · subst e
    have hl : k < fl.length := (List.getElem?_eq_some_iff.mp hf).1
    rw [if_pos rfl, List.length_mapIdx, if_pos hl, hf]
    simp [fv, sL]
  · rw [if_neg e]
    cases hy : fl[i]? with
    | none => rfl
    | some y =>
      simp only [Option.map_some]
      rcases y with _ | _ | r
      · rfl
      · simp [fv, sL, Ne.symm e]
      · rfl
/-! the words: good ones of the tables -/
def bg : List Cond := lw_tbl.filter goodWord
theorem bg_of {w : Cond} (h : w ∈ lw_tbl) (g : goodWord w = true) : w ∈ bg := List.mem_filter.mpr ⟨h, g⟩
theorem bg_good {w : Cond} (h : w ∈ bg) : (w.onTables && w.keeps) = true ∨ ∃ ty, w = .arrayClass ty := good_of_word (List.mem_filter.mp h).2
theorem bg_GoodIn {y : MethodName} {cc : ByteArray} {n : Nat} {r : Option FieldType} {c0 : Cond} (hc : Cond.code y cc n r ∈ lw_tbl) (xs : List Cond) (hx : ∀ w ∈ xs, w ∈ bg) : GoodIn (c0 :: bg) (xs ++ (Cond.code y cc n r :: bg)) := by
  intro w hw
  rcases List.mem_append.mp hw with h | h
  · exact ⟨List.mem_cons_of_mem _ (hx w h), bg_good (hx w h)⟩
  · rcases List.mem_cons.mp h with h | h
    · subst h
      exact ⟨List.mem_cons_of_mem _ (bg_of hc rfl), Or.inl rfl⟩
    · exact ⟨List.mem_cons_of_mem _ h, bg_good h⟩
/-! the static row of masks, the one nest link -/
def lkF : Nat → Int64 := fun k => match k with
  | 0 => 6148914691236517205
  | 1 => 3689348814741910323
  | 2 => 1085102592571150095
  | 3 => 71777214294589695
  | 4 => 281470681808895
  | _ => 4294967295
def Lk (G : Rg) (U : State) (H : Heap) : Prop := va_Z RX2 "LACKING" "[J" (.ref (gL G)) (Ar G) U H ∧ (∃ cell : Cell, H[gL G]? = some cell ∧ U.isArrayOf cell .long ∧ cell.vm ≠ .unknown ∧ cell.slots.size = 6 ∧ ∀ j : Nat, j < 6 → cell.slots[j]? = some (.long (lkF j))) ∧ ¬ Ar G (gL G)
abbrev nst : Cond := .methodLinkNest RX4 30 yX8_isWithin RX8
def Kn (G : Rg) (U : State) (H : Heap) : Prop := va_K (gD G) vwCl (ty4 G) U ∧ Inj G ∧ va_Nw nst U ∧ Lk G U H
theorem Kn.moved {G : Rg} {s U : State} {H H' : Heap} {locs : List Loc} (h : Kn G s H) (hW : s.WarmedH U.vm) (hS : va_S (Ar G) H H' locs) : Kn G U H' := by
  obtain ⟨h1, h2, h3, h4, ⟨cell, c1, c2, c3⟩, h6⟩ := h
  refine ⟨va_K.moved hW.alike h1, h2, va_Nw.warmM hW h3, (h4.kept (fun a ha hn => hS.2.1 a ha hn)).moved hW.alike, ⟨cell, ?_, State.isArrayOf_alike hW.alike c2, c3⟩, h6⟩
  rw [hS.2.1 _ (Array.getElem?_eq_some_iff.mp c1).1 h6]
  exact c1
/-! the judgement -/
abbrev Ct : Type := Program × Launch × Env × Room × State × MethodId × Array Value × List Frame × Method × Code
def vQ (G : Rg) (ov : Option Value) (M : Mm) : Array Value → State → Outcome → State → Prop := fun _ st oc t => oc = .returned ov ∧ Rp G M t.heap ∧ va_F (Ar G) st t
def V (G : Rg) (X : Ct) (nL : Nat) (ov : Option Value) (Mf : Mm) (pc : Nat) (lv : List (Nat × Value)) (st : List Value) (M : Mm) : Prop :=
  match X with
  | (p, l, e, R, s, m, args, below, meth, c) => ∀ (H : Heap) (locs : List Loc) (ls : Array Slot), Rp G M H → va_S (Ar G) s.heap H locs → lv_has ls nL lv → W p l e R s m args below meth c H locs 0 0 (MQ below (vQ G ov Mf) args s 0 0 (Ar G)) (F0 m pc ls st)
def Cx (G : Rg) (X : Ct) (cc : ByteArray) (nL : Nat) (own : String) (ret : Option FieldType) (fr lo : Nat) (cw : Cond) : Prop :=
  match X with
  | (p, l, e, R, s, m, args, below, meth, c) => p.tables.exec = Jvm.exec ∧ c.code = cc ∧ c.maxLocals = nL ∧ meth.sig.returnType = ret ∧ meth.locks = false ∧ s.vm.findClass own = some m.cls ∧ (∀ w ∈ cw :: bg, w.before args s = true) ∧ Kn G s s.heap ∧ R = ({ frames := fr, cells := 0, slots := 0, locals := lo } : Room)
def vP (G : Rg) (av : List Value) (M : Mm) : Array Value → State → Prop := fun v U => v = av.toArray ∧ Rp G M U.heap ∧ Kn G U U.heap
/-- a method's contract: from memory M to memory M', answering ov -/
def Mt (l : Launch) (G : Rg) (y : MethodName) (cc : ByteArray) (nL : Nat) (ret : Option FieldType) (fr lo : Nat) (av : List Value) (M : Mm) (ov : Option Value) (M' : Mm) : Prop :=
  Met l y (Cond.code y cc nL ret :: bg) ({ frames := fr, cells := 0, slots := 0, locals := lo } : Room) (vP G av M) (vQ G ov M') 0 0 (Ar G)
theorem Mt.of {l : Launch} {G : Rg} {y : MethodName} {cc : ByteArray} {nL : Nat} {ret : Option FieldType} {fr lo : Nat} {av : List Value} {M : Mm} {ov : Option Value} {M' : Mm} (hy : plainName y.cls = true) (hn : (lg_sl av).length ≤ nL)
    (h : ∀ X : Ct, Cx G X cc nL y.cls ret fr lo (Cond.code y cc nL ret) → X.2.1 = l → V G X nL ov M' 0 (lv_args 0 av) [] M) : Mt l G y cc nL ret fr lo av M ov M' := by
  refine Met.ofW (cc := cc) (maxL := nL) (ret := ret) hy rfl ?_
  intro p e s m args below meth c s₁ B hml hv
  obtain ⟨rfl, hP, hK⟩ := hv
  have hown : s.vm.findClass y.cls = some m.cls := findClass_of_methodNamed B.named
  have hts := atoms_spec (ws := Cond.code y cc nL ret :: bg) B.pre
  have hl := lv_entry av (n := nL) hn
  have := h (p, l, e, ({ frames := fr, cells := 0, slots := 0, locals := lo } : Room), s, m, av.toArray, below, meth, c) ⟨B.exec, B.bytes, hml, B.returns, B.notSynchronized, hown, hts, hK, rfl⟩ rfl
  rw [lg_entry_eq]
  exact this s.heap [] _ hP va_S.rf hl
section VR
variable {G : Rg} {X : Ct} {cc : ByteArray} {nL fr lo : Nat} {own : String} {ret : Option FieldType} {cw : Cond} {ov : Option Value} {Mf M : Mm} {pc : Nat} {lv lv' : List (Nat × Value)} {st : List Value}
theorem V.sub (C : Cx G X cc nL own ret fr lo cw) (ks : List Nat) (h : lv_pick lv ks = lv') (k : V G X nL ov Mf pc lv' st M) : V G X nL ov Mf pc lv st M := by
  obtain ⟨p, l, e, R, s, m, args, below, meth, c⟩ := X
  intro H locs ls hP hS hl
  exact k H locs ls hP hS (lv_sub hl ks h)
theorem V.iconst (C : Cx G X cc nL own ret fr lo cw) {n : Int} (v : Int32) (hv : Int32.ofInt n = v) (hd : decode cc pc = .ok (.iconst n, 1)) (k : V G X nL ov Mf (pc + 1) lv (.int v :: st) M) : V G X nL ov Mf pc lv st M := by
  obtain ⟨p, l, e, R, s, m, args, below, meth, c⟩ := X
  intro H locs ls hP hS hl
  exact lv_iconst C.1 C.2.1 hd hv (k H locs ls hP hS hl)
theorem V.bipush (C : Cx G X cc nL own ret fr lo cw) {n : Int} (v : Int32) (hv : (Int8.ofInt n).toInt32 = v) (hd : decode cc pc = .ok (.bipush n, 2)) (k : V G X nL ov Mf (pc + 2) lv (.int v :: st) M) : V G X nL ov Mf pc lv st M := by
  obtain ⟨p, l, e, R, s, m, args, below, meth, c⟩ := X
  intro H locs ls hP hS hl
  exact lv_bipush C.1 C.2.1 hd hv (k H locs ls hP hS hl)
theorem V.sipush (C : Cx G X cc nL own ret fr lo cw) {n : Int} (v : Int32) (hv : (Int16.ofInt n).toInt32 = v) (hd : decode cc pc = .ok (.sipush n, 3)) (k : V G X nL ov Mf (pc + 3) lv (.int v :: st) M) : V G X nL ov Mf pc lv st M := by
  obtain ⟨p, l, e, R, s, m, args, below, meth, c⟩ := X
  intro H locs ls hP hS hl
  exact lv_sipush C.1 C.2.1 hd hv (k H locs ls hP hS hl)
theorem V.lconst (C : Cx G X cc nL own ret fr lo cw) {n : Fin 2} (v : Int64) (hv : Int64.ofNat (n : Nat) = v) (hd : decode cc pc = .ok (.lconst n, 1)) (k : V G X nL ov Mf (pc + 1) lv (.long v :: st) M) : V G X nL ov Mf pc lv st M := by
  obtain ⟨p, l, e, R, s, m, args, below, meth, c⟩ := X
  intro H locs ls hP hS hl
  exact lv_lconst C.1 C.2.1 hd hv (k H locs ls hP hS hl)
theorem V.ldc (C : Cx G X cc nL own ret fr lo cw) {i : Nat} {v : Int32} (hw : Cond.constant own i v ∈ lw_tbl) (hd : decode cc pc = .ok (.ldc i, 2)) (k : V G X nL ov Mf (pc + 2) lv (.int v :: st) M) : V G X nL ov Mf pc lv st M := by
  obtain ⟨p, l, e, R, s, m, args, below, meth, c⟩ := X
  obtain ⟨hx, hb, hml, hr, hlk, hown, hts, hK, hR⟩ := C
  intro H locs ls hP hS hl
  exact lv_ldc hx hb hown (hts _ (List.mem_cons_of_mem _ (bg_of hw rfl))) hd (k H locs ls hP hS hl)
theorem V.ldcw (C : Cx G X cc nL own ret fr lo cw) {i : Nat} {v : Int32} (hw : Cond.constant own i v ∈ lw_tbl) (hd : decode cc pc = .ok (.ldc_w i, 3)) (k : V G X nL ov Mf (pc + 3) lv (.int v :: st) M) : V G X nL ov Mf pc lv st M := by
  obtain ⟨p, l, e, R, s, m, args, below, meth, c⟩ := X
  obtain ⟨hx, hb, hml, hr, hlk, hown, hts, hK, hR⟩ := C
  intro H locs ls hP hS hl
  exact lv_ldcw hx hb hown (hts _ (List.mem_cons_of_mem _ (bg_of hw rfl))) hd (k H locs ls hP hS hl)
theorem V.ldc2 (C : Cx G X cc nL own ret fr lo cw) {i : Nat} {v : Int64} (hw : Cond.constantLong own i v ∈ lw_tbl) (hd : decode cc pc = .ok (.ldc2_w i, 3)) (k : V G X nL ov Mf (pc + 3) lv (.long v :: st) M) : V G X nL ov Mf pc lv st M := by
  obtain ⟨p, l, e, R, s, m, args, below, meth, c⟩ := X
  obtain ⟨hx, hb, hml, hr, hlk, hown, hts, hK, hR⟩ := C
  intro H locs ls hP hS hl
  exact lv_ldc2 hx hb hown (hts _ (List.mem_cons_of_mem _ (bg_of hw rfl))) hd (k H locs ls hP hS hl)
end VR
end
section
section VR2
variable {G : Rg} {X : Ct} {cc : ByteArray} {nL fr lo : Nat} {own : String} {ret : Option FieldType} {cw : Cond} {ov : Option Value} {Mf M : Mm} {pc : Nat} {lv lv' : List (Nat × Value)} {st : List Value}
def jshl (x y : Int32) : Int32 := x <<< (y &&& 31)
def jshr (x y : Int32) : Int32 := x >>> (y &&& 31)
def jrem (x y : Int32) : Int32 := x - x / y * y
def jlrem (x y : Int64) : Int64 := x - x / y * y
theorem V.iadd (C : Cx G X cc nL own ret fr lo cw) {x y : Int32} (hd : decode cc pc = .ok (.iadd, 1)) (k : V G X nL ov Mf (pc + 1) lv (.int (x + y) :: st) M) : V G X nL ov Mf pc lv (.int y :: .int x :: st) M := by
  obtain ⟨p, l, e, R, s, m, args, below, meth, cd⟩ := X
  obtain ⟨hx, hb, hml, hr, hlk, hown, hts, hK, hR⟩ := C
  intro H locs ls hP hS hl
  exact lv_iadd hx hb hd (k H locs ls hP hS hl)
theorem V.isub (C : Cx G X cc nL own ret fr lo cw) {x y : Int32} (hd : decode cc pc = .ok (.isub, 1)) (k : V G X nL ov Mf (pc + 1) lv (.int (x - y) :: st) M) : V G X nL ov Mf pc lv (.int y :: .int x :: st) M := by
  obtain ⟨p, l, e, R, s, m, args, below, meth, cd⟩ := X
  obtain ⟨hx, hb, hml, hr, hlk, hown, hts, hK, hR⟩ := C
  intro H locs ls hP hS hl
  exact lv_isub hx hb hd (k H locs ls hP hS hl)
theorem V.imul (C : Cx G X cc nL own ret fr lo cw) {x y : Int32} (hd : decode cc pc = .ok (.imul, 1)) (k : V G X nL ov Mf (pc + 1) lv (.int (x * y) :: st) M) : V G X nL ov Mf pc lv (.int y :: .int x :: st) M := by
  obtain ⟨p, l, e, R, s, m, args, below, meth, cd⟩ := X
  obtain ⟨hx, hb, hml, hr, hlk, hown, hts, hK, hR⟩ := C
  intro H locs ls hP hS hl
  exact lv_imul hx hb hd (k H locs ls hP hS hl)
theorem V.iand (C : Cx G X cc nL own ret fr lo cw) {x y : Int32} (hd : decode cc pc = .ok (.iand, 1)) (k : V G X nL ov Mf (pc + 1) lv (.int (x &&& y) :: st) M) : V G X nL ov Mf pc lv (.int y :: .int x :: st) M := by
  obtain ⟨p, l, e, R, s, m, args, below, meth, cd⟩ := X
  obtain ⟨hx, hb, hml, hr, hlk, hown, hts, hK, hR⟩ := C
  intro H locs ls hP hS hl
  exact lv_iand hx hb hd (k H locs ls hP hS hl)
theorem V.ior (C : Cx G X cc nL own ret fr lo cw) {x y : Int32} (hd : decode cc pc = .ok (.ior, 1)) (k : V G X nL ov Mf (pc + 1) lv (.int (x ||| y) :: st) M) : V G X nL ov Mf pc lv (.int y :: .int x :: st) M := by
  obtain ⟨p, l, e, R, s, m, args, below, meth, cd⟩ := X
  obtain ⟨hx, hb, hml, hr, hlk, hown, hts, hK, hR⟩ := C
  intro H locs ls hP hS hl
  exact lv_ior hx hb hd (k H locs ls hP hS hl)
theorem V.ixor (C : Cx G X cc nL own ret fr lo cw) {x y : Int32} (hd : decode cc pc = .ok (.ixor, 1)) (k : V G X nL ov Mf (pc + 1) lv (.int (x ^^^ y) :: st) M) : V G X nL ov Mf pc lv (.int y :: .int x :: st) M := by
  obtain ⟨p, l, e, R, s, m, args, below, meth, cd⟩ := X
  obtain ⟨hx, hb, hml, hr, hlk, hown, hts, hK, hR⟩ := C
  intro H locs ls hP hS hl
  exact lv_ixor hx hb hd (k H locs ls hP hS hl)
theorem V.ishl (C : Cx G X cc nL own ret fr lo cw) {x y : Int32} (hd : decode cc pc = .ok (.ishl, 1)) (k : V G X nL ov Mf (pc + 1) lv (.int (jshl x y) :: st) M) : V G X nL ov Mf pc lv (.int y :: .int x :: st) M := by
  obtain ⟨p, l, e, R, s, m, args, below, meth, cd⟩ := X
  obtain ⟨hx, hb, hml, hr, hlk, hown, hts, hK, hR⟩ := C
  intro H locs ls hP hS hl
  exact lv_ishl hx hb hd (k H locs ls hP hS hl)
theorem V.ishr (C : Cx G X cc nL own ret fr lo cw) {x y : Int32} (hd : decode cc pc = .ok (.ishr, 1)) (k : V G X nL ov Mf (pc + 1) lv (.int (jshr x y) :: st) M) : V G X nL ov Mf pc lv (.int y :: .int x :: st) M := by
  obtain ⟨p, l, e, R, s, m, args, below, meth, cd⟩ := X
  obtain ⟨hx, hb, hml, hr, hlk, hown, hts, hK, hR⟩ := C
  intro H locs ls hP hS hl
  exact lv_ishr hx hb hd (k H locs ls hP hS hl)
theorem V.ladd (C : Cx G X cc nL own ret fr lo cw) {x y : Int64} (hd : decode cc pc = .ok (.ladd, 1)) (k : V G X nL ov Mf (pc + 1) lv (.long (x + y) :: st) M) : V G X nL ov Mf pc lv (.long y :: .long x :: st) M := by
  obtain ⟨p, l, e, R, s, m, args, below, meth, cd⟩ := X
  obtain ⟨hx, hb, hml, hr, hlk, hown, hts, hK, hR⟩ := C
  intro H locs ls hP hS hl
  exact lv_ladd hx hb hd (k H locs ls hP hS hl)
theorem V.lsub (C : Cx G X cc nL own ret fr lo cw) {x y : Int64} (hd : decode cc pc = .ok (.lsub, 1)) (k : V G X nL ov Mf (pc + 1) lv (.long (x - y) :: st) M) : V G X nL ov Mf pc lv (.long y :: .long x :: st) M := by
  obtain ⟨p, l, e, R, s, m, args, below, meth, cd⟩ := X
  obtain ⟨hx, hb, hml, hr, hlk, hown, hts, hK, hR⟩ := C
  intro H locs ls hP hS hl
  exact lv_lsub hx hb hd (k H locs ls hP hS hl)
theorem V.lmul (C : Cx G X cc nL own ret fr lo cw) {x y : Int64} (hd : decode cc pc = .ok (.lmul, 1)) (k : V G X nL ov Mf (pc + 1) lv (.long (x * y) :: st) M) : V G X nL ov Mf pc lv (.long y :: .long x :: st) M := by
  obtain ⟨p, l, e, R, s, m, args, below, meth, cd⟩ := X
  obtain ⟨hx, hb, hml, hr, hlk, hown, hts, hK, hR⟩ := C
  intro H locs ls hP hS hl
  exact lv_lmul hx hb hd (k H locs ls hP hS hl)
theorem V.land (C : Cx G X cc nL own ret fr lo cw) {x y : Int64} (hd : decode cc pc = .ok (.land, 1)) (k : V G X nL ov Mf (pc + 1) lv (.long (x &&& y) :: st) M) : V G X nL ov Mf pc lv (.long y :: .long x :: st) M := by
  obtain ⟨p, l, e, R, s, m, args, below, meth, cd⟩ := X
  obtain ⟨hx, hb, hml, hr, hlk, hown, hts, hK, hR⟩ := C
  intro H locs ls hP hS hl
  exact lv_land hx hb hd (k H locs ls hP hS hl)
theorem V.lor (C : Cx G X cc nL own ret fr lo cw) {x y : Int64} (hd : decode cc pc = .ok (.lor, 1)) (k : V G X nL ov Mf (pc + 1) lv (.long (x ||| y) :: st) M) : V G X nL ov Mf pc lv (.long y :: .long x :: st) M := by
  obtain ⟨p, l, e, R, s, m, args, below, meth, cd⟩ := X
  obtain ⟨hx, hb, hml, hr, hlk, hown, hts, hK, hR⟩ := C
  intro H locs ls hP hS hl
  exact lv_lor hx hb hd (k H locs ls hP hS hl)
theorem V.idiv (C : Cx G X cc nL own ret fr lo cw) {x y : Int32} (hn : ¬ y = 0) (hd : decode cc pc = .ok (.idiv, 1)) (k : V G X nL ov Mf (pc + 1) lv (.int (x / y) :: st) M) : V G X nL ov Mf pc lv (.int y :: .int x :: st) M := by
  obtain ⟨p, l, e, R, s, m, args, below, meth, cd⟩ := X
  obtain ⟨hx, hb, hml, hr, hlk, hown, hts, hK, hR⟩ := C
  intro H locs ls hP hS hl
  exact lv_idiv hx hb hd hn (k H locs ls hP hS hl)
theorem V.irem (C : Cx G X cc nL own ret fr lo cw) {x y : Int32} (hn : ¬ y = 0) (hd : decode cc pc = .ok (.irem, 1)) (k : V G X nL ov Mf (pc + 1) lv (.int (jrem x y) :: st) M) : V G X nL ov Mf pc lv (.int y :: .int x :: st) M := by
  obtain ⟨p, l, e, R, s, m, args, below, meth, cd⟩ := X
  obtain ⟨hx, hb, hml, hr, hlk, hown, hts, hK, hR⟩ := C
  intro H locs ls hP hS hl
  exact lv_irem hx hb hd hn (k H locs ls hP hS hl)
theorem V.ldiv (C : Cx G X cc nL own ret fr lo cw) {x y : Int64} (hn : ¬ y = 0) (hd : decode cc pc = .ok (.ldiv, 1)) (k : V G X nL ov Mf (pc + 1) lv (.long (x / y) :: st) M) : V G X nL ov Mf pc lv (.long y :: .long x :: st) M := by
  obtain ⟨p, l, e, R, s, m, args, below, meth, cd⟩ := X
  obtain ⟨hx, hb, hml, hr, hlk, hown, hts, hK, hR⟩ := C
  intro H locs ls hP hS hl
  exact lv_ldiv hx hb hd hn (k H locs ls hP hS hl)
theorem V.lrem (C : Cx G X cc nL own ret fr lo cw) {x y : Int64} (hn : ¬ y = 0) (hd : decode cc pc = .ok (.lrem, 1)) (k : V G X nL ov Mf (pc + 1) lv (.long (jlrem x y) :: st) M) : V G X nL ov Mf pc lv (.long y :: .long x :: st) M := by
  obtain ⟨p, l, e, R, s, m, args, below, meth, cd⟩ := X
  obtain ⟨hx, hb, hml, hr, hlk, hown, hts, hK, hR⟩ := C
  intro H locs ls hP hS hl
  exact lv_lrem hx hb hd hn (k H locs ls hP hS hl)
theorem V.ineg (C : Cx G X cc nL own ret fr lo cw) {x : Int32} (hd : decode cc pc = .ok (.ineg, 1)) (k : V G X nL ov Mf (pc + 1) lv (.int (-x) :: st) M) : V G X nL ov Mf pc lv (.int x :: st) M := by
  obtain ⟨p, l, e, R, s, m, args, below, meth, cd⟩ := X
  obtain ⟨hx, hb, hml, hr, hlk, hown, hts, hK, hR⟩ := C
  intro H locs ls hP hS hl
  exact lv_ineg hx hb hd (k H locs ls hP hS hl)
theorem V.i2l (C : Cx G X cc nL own ret fr lo cw) {x : Int32} (hd : decode cc pc = .ok (.i2l, 1)) (k : V G X nL ov Mf (pc + 1) lv (.long x.toInt64 :: st) M) : V G X nL ov Mf pc lv (.int x :: st) M := by
  obtain ⟨p, l, e, R, s, m, args, below, meth, cd⟩ := X
  obtain ⟨hx, hb, hml, hr, hlk, hown, hts, hK, hR⟩ := C
  intro H locs ls hP hS hl
  exact lv_i2l hx hb hd rfl (k H locs ls hP hS hl)
theorem V.l2i (C : Cx G X cc nL own ret fr lo cw) {x : Int64} (hd : decode cc pc = .ok (.l2i, 1)) (k : V G X nL ov Mf (pc + 1) lv (.int x.toInt32 :: st) M) : V G X nL ov Mf pc lv (.long x :: st) M := by
  obtain ⟨p, l, e, R, s, m, args, below, meth, cd⟩ := X
  obtain ⟨hx, hb, hml, hr, hlk, hown, hts, hK, hR⟩ := C
  intro H locs ls hP hS hl
  exact lv_l2i hx hb hd rfl (k H locs ls hP hS hl)
def jushr (x y : Int32) : Int32 := (x.toUInt32 >>> (y.toUInt32 &&& Int32.toUInt32 31)).toInt32
def jlushr (x : Int64) (y : Int32) : Int64 := (x.toUInt64 >>> (y.toInt64.toUInt64 &&& Int64.toUInt64 63)).toInt64
def jlshl (x : Int64) (y : Int32) : Int64 := x <<< (y.toInt64 &&& 63)
theorem V.iushr (C : Cx G X cc nL own ret fr lo cw) {x y : Int32} (hd : decode cc pc = .ok (.iushr, 1)) (k : V G X nL ov Mf (pc + 1) lv (.int (jushr x y) :: st) M) : V G X nL ov Mf pc lv (.int y :: .int x :: st) M := by
  obtain ⟨p, l, e, R, s, m, args, below, meth, cd⟩ := X
  obtain ⟨hx, hb, hml, hr, hlk, hown, hts, hK, hR⟩ := C
  intro H locs ls hP hS hl
  exact lv_iushr hx hb hd rfl (k H locs ls hP hS hl)
theorem V.lushr (C : Cx G X cc nL own ret fr lo cw) {x : Int64} {y : Int32} (hd : decode cc pc = .ok (.lushr, 1)) (k : V G X nL ov Mf (pc + 1) lv (.long (jlushr x y) :: st) M) : V G X nL ov Mf pc lv (.int y :: .long x :: st) M := by
  obtain ⟨p, l, e, R, s, m, args, below, meth, cd⟩ := X
  obtain ⟨hx, hb, hml, hr, hlk, hown, hts, hK, hR⟩ := C
  intro H locs ls hP hS hl
  exact lv_lushr hx hb hd rfl (k H locs ls hP hS hl)
theorem V.lshl (C : Cx G X cc nL own ret fr lo cw) {x : Int64} {y : Int32} (hd : decode cc pc = .ok (.lshl, 1)) (k : V G X nL ov Mf (pc + 1) lv (.long (jlshl x y) :: st) M) : V G X nL ov Mf pc lv (.int y :: .long x :: st) M := by
  obtain ⟨p, l, e, R, s, m, args, below, meth, cd⟩ := X
  obtain ⟨hx, hb, hml, hr, hlk, hown, hts, hK, hR⟩ := C
  intro H locs ls hP hS hl
  exact lv_lshl hx hb hd rfl (k H locs ls hP hS hl)
theorem V.lcmp (C : Cx G X cc nL own ret fr lo cw) {x y : Int64} (hd : decode cc pc = .ok (.lcmp, 1)) (k : V G X nL ov Mf (pc + 1) lv (.int (lg_cmp x y) :: st) M) : V G X nL ov Mf pc lv (.long y :: .long x :: st) M := by
  obtain ⟨p, l, e, R, s, m, args, below, meth, cd⟩ := X
  obtain ⟨hx, hb, hml, hr, hlk, hown, hts, hK, hR⟩ := C
  intro H locs ls hP hS hl
  exact W.lcmp hx hb hd (k H locs ls hP hS hl)
theorem V.dup (C : Cx G X cc nL own ret fr lo cw) {v : Value} (hv : v.category = 1) (hd : decode cc pc = .ok (.dup, 1)) (k : V G X nL ov Mf (pc + 1) lv (v :: v :: st) M) : V G X nL ov Mf pc lv (v :: st) M := by
  obtain ⟨p, l, e, R, s, m, args, below, meth, cd⟩ := X
  obtain ⟨hx, hb, hml, hr, hlk, hown, hts, hK, hR⟩ := C
  intro H locs ls hP hS hl
  exact lv_dup hx hb hd hv (k H locs ls hP hS hl)
theorem V.dup2 (C : Cx G X cc nL own ret fr lo cw) {v w : Value} (hv : v.category = 1) (hw : w.category = 1) (hd : decode cc pc = .ok (.dup2, 1)) (k : V G X nL ov Mf (pc + 1) lv (v :: w :: v :: w :: st) M) : V G X nL ov Mf pc lv (v :: w :: st) M := by
  obtain ⟨p, l, e, R, s, m, args, below, meth, cd⟩ := X
  obtain ⟨hx, hb, hml, hr, hlk, hown, hts, hK, hR⟩ := C
  intro H locs ls hP hS hl
  exact lv_dup2_11 hx hb hd hv hw (k H locs ls hP hS hl)
theorem V.iload_n (C : Cx G X cc nL own ret fr lo cw) {i : Fin 4} {x : Int32} (q : Nat) (hq : lv[q]? = some ((i : Nat), .int x)) (hd : decode cc pc = .ok (.iload_n i, 1)) (k : V G X nL ov Mf (pc + 1) lv (.int x :: st) M) : V G X nL ov Mf pc lv st M := by
  obtain ⟨p, l, e, R, s, m, args, below, meth, cd⟩ := X
  obtain ⟨hx, hb, hml, hr, hlk, hown, hts, hK, hR⟩ := C
  intro H locs ls hP hS hl
  exact lv_iload_n hx hb hd rfl (lv_at hl q hq) (k H locs ls hP hS hl)
theorem V.iload (C : Cx G X cc nL own ret fr lo cw) {i : Nat} {x : Int32} (q : Nat) (hq : lv[q]? = some (i, .int x)) (hd : decode cc pc = .ok (.iload i, 2)) (k : V G X nL ov Mf (pc + 2) lv (.int x :: st) M) : V G X nL ov Mf pc lv st M := by
  obtain ⟨p, l, e, R, s, m, args, below, meth, cd⟩ := X
  obtain ⟨hx, hb, hml, hr, hlk, hown, hts, hK, hR⟩ := C
  intro H locs ls hP hS hl
  exact lv_iload hx hb hd (lv_at hl q hq) (k H locs ls hP hS hl)
theorem V.lload_n (C : Cx G X cc nL own ret fr lo cw) {i : Fin 4} {x : Int64} (q : Nat) (hq : lv[q]? = some ((i : Nat), .long x)) (hd : decode cc pc = .ok (.lload_n i, 1)) (k : V G X nL ov Mf (pc + 1) lv (.long x :: st) M) : V G X nL ov Mf pc lv st M := by
  obtain ⟨p, l, e, R, s, m, args, below, meth, cd⟩ := X
  obtain ⟨hx, hb, hml, hr, hlk, hown, hts, hK, hR⟩ := C
  intro H locs ls hP hS hl
  exact lv_lload_n hx hb hd rfl (lv_at hl q hq) (k H locs ls hP hS hl)
theorem V.lload (C : Cx G X cc nL own ret fr lo cw) {i : Nat} {x : Int64} (q : Nat) (hq : lv[q]? = some (i, .long x)) (hd : decode cc pc = .ok (.lload i, 2)) (k : V G X nL ov Mf (pc + 2) lv (.long x :: st) M) : V G X nL ov Mf pc lv st M := by
  obtain ⟨p, l, e, R, s, m, args, below, meth, cd⟩ := X
  obtain ⟨hx, hb, hml, hr, hlk, hown, hts, hK, hR⟩ := C
  intro H locs ls hP hS hl
  exact lv_lload hx hb hd (lv_at hl q hq) (k H locs ls hP hS hl)
theorem V.aload_n (C : Cx G X cc nL own ret fr lo cw) {i : Fin 4} {x : Nat} (q : Nat) (hq : lv[q]? = some ((i : Nat), .ref x)) (hd : decode cc pc = .ok (.aload_n i, 1)) (k : V G X nL ov Mf (pc + 1) lv (.ref x :: st) M) : V G X nL ov Mf pc lv st M := by
  obtain ⟨p, l, e, R, s, m, args, below, meth, cd⟩ := X
  obtain ⟨hx, hb, hml, hr, hlk, hown, hts, hK, hR⟩ := C
  intro H locs ls hP hS hl
  exact lv_aload_n hx hb hd rfl (lv_at hl q hq) (k H locs ls hP hS hl)
theorem V.aload (C : Cx G X cc nL own ret fr lo cw) {i : Nat} {x : Nat} (q : Nat) (hq : lv[q]? = some (i, .ref x)) (hd : decode cc pc = .ok (.aload i, 2)) (k : V G X nL ov Mf (pc + 2) lv (.ref x :: st) M) : V G X nL ov Mf pc lv st M := by
  obtain ⟨p, l, e, R, s, m, args, below, meth, cd⟩ := X
  obtain ⟨hx, hb, hml, hr, hlk, hown, hts, hK, hR⟩ := C
  intro H locs ls hP hS hl
  exact lv_aload hx hb hd (lv_at hl q hq) (k H locs ls hP hS hl)
theorem V.istore_n (C : Cx G X cc nL own ret fr lo cw) {i : Fin 4} {x : Int32} (hn : (i : Nat) < nL) (hl' : ((i : Nat), Value.int x) :: lv.filter (fun q => !(q.1 == i) && !(q.1 + 1 == i && q.2.category == 2)) = lv') (hd : decode cc pc = .ok (.istore_n i, 1)) (k : V G X nL ov Mf (pc + 1) lv' st M) : V G X nL ov Mf pc lv (.int x :: st) M := by
  obtain ⟨p, l, e, R, s, m, args, below, meth, cd⟩ := X
  obtain ⟨hx, hb, hml, hr, hlk, hown, hts, hK, hR⟩ := C
  intro H locs ls hP hS hl
  exact lv_istore_n hx hb hd rfl hl hn hl' (fun ls hl => k H locs ls hP hS hl)
theorem V.istore (C : Cx G X cc nL own ret fr lo cw) {i : Nat} {x : Int32} (hn : i < nL) (hl' : (i, Value.int x) :: lv.filter (fun q => !(q.1 == i) && !(q.1 + 1 == i && q.2.category == 2)) = lv') (hd : decode cc pc = .ok (.istore i, 2)) (k : V G X nL ov Mf (pc + 2) lv' st M) : V G X nL ov Mf pc lv (.int x :: st) M := by
  obtain ⟨p, l, e, R, s, m, args, below, meth, cd⟩ := X
  obtain ⟨hx, hb, hml, hr, hlk, hown, hts, hK, hR⟩ := C
  intro H locs ls hP hS hl
  exact lv_istore hx hb hd hl hn hl' (fun ls hl => k H locs ls hP hS hl)
theorem V.lstore_n (C : Cx G X cc nL own ret fr lo cw) {i : Fin 4} {x : Int64} (hn : (i : Nat) + 1 < nL) (hl' : ((i : Nat), Value.long x) :: lv.filter (fun q => !(q.1 == i) && (!(q.1 == i + 1) && !(q.1 + 1 == i && q.2.category == 2))) = lv') (hd : decode cc pc = .ok (.lstore_n i, 1)) (k : V G X nL ov Mf (pc + 1) lv' st M) : V G X nL ov Mf pc lv (.long x :: st) M := by
  obtain ⟨p, l, e, R, s, m, args, below, meth, cd⟩ := X
  obtain ⟨hx, hb, hml, hr, hlk, hown, hts, hK, hR⟩ := C
  intro H locs ls hP hS hl
  exact lv_lstore_n hx hb hd rfl hl hn hl' (fun ls hl => k H locs ls hP hS hl)
theorem V.lstore (C : Cx G X cc nL own ret fr lo cw) {i : Nat} {x : Int64} (hn : i + 1 < nL) (hl' : (i, Value.long x) :: lv.filter (fun q => !(q.1 == i) && (!(q.1 == i + 1) && !(q.1 + 1 == i && q.2.category == 2))) = lv') (hd : decode cc pc = .ok (.lstore i, 2)) (k : V G X nL ov Mf (pc + 2) lv' st M) : V G X nL ov Mf pc lv (.long x :: st) M := by
  obtain ⟨p, l, e, R, s, m, args, below, meth, cd⟩ := X
  obtain ⟨hx, hb, hml, hr, hlk, hown, hts, hK, hR⟩ := C
  intro H locs ls hP hS hl
  exact lv_lstore hx hb hd hl hn hl' (fun ls hl => k H locs ls hP hS hl)
theorem V.iinc (C : Cx G X cc nL own ret fr lo cw) {i : Nat} {n : Int} {x : Int32} (v : Int32) (q : Nat) (hq : lv[q]? = some (i, .int x)) (hv : x + Int32.ofInt n = v) (hn : i < nL) (hl' : (i, Value.int v) :: lv.filter (fun q => !(q.1 == i) && !(q.1 + 1 == i && q.2.category == 2)) = lv') (hd : decode cc pc = .ok (.iinc i n, 3)) (k : V G X nL ov Mf (pc + 3) lv' st M) : V G X nL ov Mf pc lv st M := by
  obtain ⟨p, l, e, R, s, m, args, below, meth, cd⟩ := X
  obtain ⟨hx, hb, hml, hr, hlk, hown, hts, hK, hR⟩ := C
  intro H locs ls hP hS hl
  exact lv_iinc hx hb hd hl hq hv hn hl' (fun ls hl => k H locs ls hP hS hl)
theorem V.if_eqT (C : Cx G X cc nL own ret fr lo cw) {x : Int32} {off : Int} (tgt : Nat) (h : x = 0) (ht : (pc : Int) + off = (tgt : Int)) (hd : decode cc pc = .ok (.ifCond .eq off, 3)) (k : V G X nL ov Mf tgt lv st M) : V G X nL ov Mf pc lv (.int x :: st) M := by
  obtain ⟨p, l, e, R, s, m, args, below, meth, cd⟩ := X
  obtain ⟨hx, hb, hml, hr, hlk, hown, hts, hK, hR⟩ := C
  intro H locs ls hP hS hl
  exact lv_if_eq hx hb hd ht (fun _ => k H locs ls hP hS hl) (fun z => absurd h z)
theorem V.if_eqF (C : Cx G X cc nL own ret fr lo cw) {x : Int32} {off : Int} (tgt : Nat) (h : ¬ x = 0) (ht : (pc : Int) + off = (tgt : Int)) (hd : decode cc pc = .ok (.ifCond .eq off, 3)) (k : V G X nL ov Mf (pc + 3) lv st M) : V G X nL ov Mf pc lv (.int x :: st) M := by
  obtain ⟨p, l, e, R, s, m, args, below, meth, cd⟩ := X
  obtain ⟨hx, hb, hml, hr, hlk, hown, hts, hK, hR⟩ := C
  intro H locs ls hP hS hl
  exact lv_if_eq hx hb hd ht (fun z => absurd z h) (fun _ => k H locs ls hP hS hl)
theorem V.ic_eqT (C : Cx G X cc nL own ret fr lo cw) {x y : Int32} {off : Int} (tgt : Nat) (h : x = y) (ht : (pc : Int) + off = (tgt : Int)) (hd : decode cc pc = .ok (.if_icmp .eq off, 3)) (k : V G X nL ov Mf tgt lv st M) : V G X nL ov Mf pc lv (.int y :: .int x :: st) M := by
  obtain ⟨p, l, e, R, s, m, args, below, meth, cd⟩ := X
  obtain ⟨hx, hb, hml, hr, hlk, hown, hts, hK, hR⟩ := C
  intro H locs ls hP hS hl
  exact lv_icmp_eq hx hb hd ht (fun _ => k H locs ls hP hS hl) (fun z => absurd h z)
theorem V.ic_eqF (C : Cx G X cc nL own ret fr lo cw) {x y : Int32} {off : Int} (tgt : Nat) (h : ¬ x = y) (ht : (pc : Int) + off = (tgt : Int)) (hd : decode cc pc = .ok (.if_icmp .eq off, 3)) (k : V G X nL ov Mf (pc + 3) lv st M) : V G X nL ov Mf pc lv (.int y :: .int x :: st) M := by
  obtain ⟨p, l, e, R, s, m, args, below, meth, cd⟩ := X
  obtain ⟨hx, hb, hml, hr, hlk, hown, hts, hK, hR⟩ := C
  intro H locs ls hP hS hl
  exact lv_icmp_eq hx hb hd ht (fun z => absurd z h) (fun _ => k H locs ls hP hS hl)
theorem V.if_neT (C : Cx G X cc nL own ret fr lo cw) {x : Int32} {off : Int} (tgt : Nat) (h : ¬ x = 0) (ht : (pc : Int) + off = (tgt : Int)) (hd : decode cc pc = .ok (.ifCond .ne off, 3)) (k : V G X nL ov Mf tgt lv st M) : V G X nL ov Mf pc lv (.int x :: st) M := by
  obtain ⟨p, l, e, R, s, m, args, below, meth, cd⟩ := X
  obtain ⟨hx, hb, hml, hr, hlk, hown, hts, hK, hR⟩ := C
  intro H locs ls hP hS hl
  exact lv_if_ne hx hb hd ht (fun _ => k H locs ls hP hS hl) (fun z => absurd z h)
theorem V.if_neF (C : Cx G X cc nL own ret fr lo cw) {x : Int32} {off : Int} (tgt : Nat) (h : x = 0) (ht : (pc : Int) + off = (tgt : Int)) (hd : decode cc pc = .ok (.ifCond .ne off, 3)) (k : V G X nL ov Mf (pc + 3) lv st M) : V G X nL ov Mf pc lv (.int x :: st) M := by
  obtain ⟨p, l, e, R, s, m, args, below, meth, cd⟩ := X
  obtain ⟨hx, hb, hml, hr, hlk, hown, hts, hK, hR⟩ := C
  intro H locs ls hP hS hl
  exact lv_if_ne hx hb hd ht (fun z => absurd h z) (fun _ => k H locs ls hP hS hl)
theorem V.ic_neT (C : Cx G X cc nL own ret fr lo cw) {x y : Int32} {off : Int} (tgt : Nat) (h : ¬ x = y) (ht : (pc : Int) + off = (tgt : Int)) (hd : decode cc pc = .ok (.if_icmp .ne off, 3)) (k : V G X nL ov Mf tgt lv st M) : V G X nL ov Mf pc lv (.int y :: .int x :: st) M := by
  obtain ⟨p, l, e, R, s, m, args, below, meth, cd⟩ := X
  obtain ⟨hx, hb, hml, hr, hlk, hown, hts, hK, hR⟩ := C
  intro H locs ls hP hS hl
  exact lv_icmp_ne hx hb hd ht (fun _ => k H locs ls hP hS hl) (fun z => absurd z h)
theorem V.ic_neF (C : Cx G X cc nL own ret fr lo cw) {x y : Int32} {off : Int} (tgt : Nat) (h : x = y) (ht : (pc : Int) + off = (tgt : Int)) (hd : decode cc pc = .ok (.if_icmp .ne off, 3)) (k : V G X nL ov Mf (pc + 3) lv st M) : V G X nL ov Mf pc lv (.int y :: .int x :: st) M := by
  obtain ⟨p, l, e, R, s, m, args, below, meth, cd⟩ := X
  obtain ⟨hx, hb, hml, hr, hlk, hown, hts, hK, hR⟩ := C
  intro H locs ls hP hS hl
  exact lv_icmp_ne hx hb hd ht (fun z => absurd h z) (fun _ => k H locs ls hP hS hl)
theorem V.if_ltT (C : Cx G X cc nL own ret fr lo cw) {x : Int32} {off : Int} (tgt : Nat) (h : x < 0) (ht : (pc : Int) + off = (tgt : Int)) (hd : decode cc pc = .ok (.ifCond .lt off, 3)) (k : V G X nL ov Mf tgt lv st M) : V G X nL ov Mf pc lv (.int x :: st) M := by
  obtain ⟨p, l, e, R, s, m, args, below, meth, cd⟩ := X
  obtain ⟨hx, hb, hml, hr, hlk, hown, hts, hK, hR⟩ := C
  intro H locs ls hP hS hl
  exact lv_if_lt hx hb hd ht (fun _ => k H locs ls hP hS hl) (fun z => absurd h z)
theorem V.if_ltF (C : Cx G X cc nL own ret fr lo cw) {x : Int32} {off : Int} (tgt : Nat) (h : ¬ x < 0) (ht : (pc : Int) + off = (tgt : Int)) (hd : decode cc pc = .ok (.ifCond .lt off, 3)) (k : V G X nL ov Mf (pc + 3) lv st M) : V G X nL ov Mf pc lv (.int x :: st) M := by
  obtain ⟨p, l, e, R, s, m, args, below, meth, cd⟩ := X
  obtain ⟨hx, hb, hml, hr, hlk, hown, hts, hK, hR⟩ := C
  intro H locs ls hP hS hl
  exact lv_if_lt hx hb hd ht (fun z => absurd z h) (fun _ => k H locs ls hP hS hl)
theorem V.ic_ltT (C : Cx G X cc nL own ret fr lo cw) {x y : Int32} {off : Int} (tgt : Nat) (h : x < y) (ht : (pc : Int) + off = (tgt : Int)) (hd : decode cc pc = .ok (.if_icmp .lt off, 3)) (k : V G X nL ov Mf tgt lv st M) : V G X nL ov Mf pc lv (.int y :: .int x :: st) M := by
  obtain ⟨p, l, e, R, s, m, args, below, meth, cd⟩ := X
  obtain ⟨hx, hb, hml, hr, hlk, hown, hts, hK, hR⟩ := C
  intro H locs ls hP hS hl
  exact lv_icmp_lt hx hb hd ht (fun _ => k H locs ls hP hS hl) (fun z => absurd h z)
theorem V.ic_ltF (C : Cx G X cc nL own ret fr lo cw) {x y : Int32} {off : Int} (tgt : Nat) (h : ¬ x < y) (ht : (pc : Int) + off = (tgt : Int)) (hd : decode cc pc = .ok (.if_icmp .lt off, 3)) (k : V G X nL ov Mf (pc + 3) lv st M) : V G X nL ov Mf pc lv (.int y :: .int x :: st) M := by
  obtain ⟨p, l, e, R, s, m, args, below, meth, cd⟩ := X
  obtain ⟨hx, hb, hml, hr, hlk, hown, hts, hK, hR⟩ := C
  intro H locs ls hP hS hl
  exact lv_icmp_lt hx hb hd ht (fun z => absurd z h) (fun _ => k H locs ls hP hS hl)
theorem V.if_geT (C : Cx G X cc nL own ret fr lo cw) {x : Int32} {off : Int} (tgt : Nat) (h : 0 ≤ x) (ht : (pc : Int) + off = (tgt : Int)) (hd : decode cc pc = .ok (.ifCond .ge off, 3)) (k : V G X nL ov Mf tgt lv st M) : V G X nL ov Mf pc lv (.int x :: st) M := by
  obtain ⟨p, l, e, R, s, m, args, below, meth, cd⟩ := X
  obtain ⟨hx, hb, hml, hr, hlk, hown, hts, hK, hR⟩ := C
  intro H locs ls hP hS hl
  exact lv_if_ge hx hb hd ht (fun _ => k H locs ls hP hS hl) (fun z => absurd h z)
theorem V.if_geF (C : Cx G X cc nL own ret fr lo cw) {x : Int32} {off : Int} (tgt : Nat) (h : ¬ 0 ≤ x) (ht : (pc : Int) + off = (tgt : Int)) (hd : decode cc pc = .ok (.ifCond .ge off, 3)) (k : V G X nL ov Mf (pc + 3) lv st M) : V G X nL ov Mf pc lv (.int x :: st) M := by
  obtain ⟨p, l, e, R, s, m, args, below, meth, cd⟩ := X
  obtain ⟨hx, hb, hml, hr, hlk, hown, hts, hK, hR⟩ := C
  intro H locs ls hP hS hl
  exact lv_if_ge hx hb hd ht (fun z => absurd z h) (fun _ => k H locs ls hP hS hl)
theorem V.ic_geT (C : Cx G X cc nL own ret fr lo cw) {x y : Int32} {off : Int} (tgt : Nat) (h : y ≤ x) (ht : (pc : Int) + off = (tgt : Int)) (hd : decode cc pc = .ok (.if_icmp .ge off, 3)) (k : V G X nL ov Mf tgt lv st M) : V G X nL ov Mf pc lv (.int y :: .int x :: st) M := by
  obtain ⟨p, l, e, R, s, m, args, below, meth, cd⟩ := X
  obtain ⟨hx, hb, hml, hr, hlk, hown, hts, hK, hR⟩ := C
  intro H locs ls hP hS hl
  exact lv_icmp_ge hx hb hd ht (fun _ => k H locs ls hP hS hl) (fun z => absurd h z)
theorem V.ic_geF (C : Cx G X cc nL own ret fr lo cw) {x y : Int32} {off : Int} (tgt : Nat) (h : ¬ y ≤ x) (ht : (pc : Int) + off = (tgt : Int)) (hd : decode cc pc = .ok (.if_icmp .ge off, 3)) (k : V G X nL ov Mf (pc + 3) lv st M) : V G X nL ov Mf pc lv (.int y :: .int x :: st) M := by
  obtain ⟨p, l, e, R, s, m, args, below, meth, cd⟩ := X
  obtain ⟨hx, hb, hml, hr, hlk, hown, hts, hK, hR⟩ := C
  intro H locs ls hP hS hl
  exact lv_icmp_ge hx hb hd ht (fun z => absurd z h) (fun _ => k H locs ls hP hS hl)
theorem V.if_gtT (C : Cx G X cc nL own ret fr lo cw) {x : Int32} {off : Int} (tgt : Nat) (h : 0 < x) (ht : (pc : Int) + off = (tgt : Int)) (hd : decode cc pc = .ok (.ifCond .gt off, 3)) (k : V G X nL ov Mf tgt lv st M) : V G X nL ov Mf pc lv (.int x :: st) M := by
  obtain ⟨p, l, e, R, s, m, args, below, meth, cd⟩ := X
  obtain ⟨hx, hb, hml, hr, hlk, hown, hts, hK, hR⟩ := C
  intro H locs ls hP hS hl
  exact lv_if_gt hx hb hd ht (fun _ => k H locs ls hP hS hl) (fun z => absurd h z)
theorem V.if_gtF (C : Cx G X cc nL own ret fr lo cw) {x : Int32} {off : Int} (tgt : Nat) (h : ¬ 0 < x) (ht : (pc : Int) + off = (tgt : Int)) (hd : decode cc pc = .ok (.ifCond .gt off, 3)) (k : V G X nL ov Mf (pc + 3) lv st M) : V G X nL ov Mf pc lv (.int x :: st) M := by
  obtain ⟨p, l, e, R, s, m, args, below, meth, cd⟩ := X
  obtain ⟨hx, hb, hml, hr, hlk, hown, hts, hK, hR⟩ := C
  intro H locs ls hP hS hl
  exact lv_if_gt hx hb hd ht (fun z => absurd z h) (fun _ => k H locs ls hP hS hl)
theorem V.ic_gtT (C : Cx G X cc nL own ret fr lo cw) {x y : Int32} {off : Int} (tgt : Nat) (h : y < x) (ht : (pc : Int) + off = (tgt : Int)) (hd : decode cc pc = .ok (.if_icmp .gt off, 3)) (k : V G X nL ov Mf tgt lv st M) : V G X nL ov Mf pc lv (.int y :: .int x :: st) M := by
  obtain ⟨p, l, e, R, s, m, args, below, meth, cd⟩ := X
  obtain ⟨hx, hb, hml, hr, hlk, hown, hts, hK, hR⟩ := C
  intro H locs ls hP hS hl
  exact lv_icmp_gt hx hb hd ht (fun _ => k H locs ls hP hS hl) (fun z => absurd h z)
theorem V.ic_gtF (C : Cx G X cc nL own ret fr lo cw) {x y : Int32} {off : Int} (tgt : Nat) (h : ¬ y < x) (ht : (pc : Int) + off = (tgt : Int)) (hd : decode cc pc = .ok (.if_icmp .gt off, 3)) (k : V G X nL ov Mf (pc + 3) lv st M) : V G X nL ov Mf pc lv (.int y :: .int x :: st) M := by
  obtain ⟨p, l, e, R, s, m, args, below, meth, cd⟩ := X
  obtain ⟨hx, hb, hml, hr, hlk, hown, hts, hK, hR⟩ := C
  intro H locs ls hP hS hl
  exact lv_icmp_gt hx hb hd ht (fun z => absurd z h) (fun _ => k H locs ls hP hS hl)
theorem V.if_leT (C : Cx G X cc nL own ret fr lo cw) {x : Int32} {off : Int} (tgt : Nat) (h : x ≤ 0) (ht : (pc : Int) + off = (tgt : Int)) (hd : decode cc pc = .ok (.ifCond .le off, 3)) (k : V G X nL ov Mf tgt lv st M) : V G X nL ov Mf pc lv (.int x :: st) M := by
  obtain ⟨p, l, e, R, s, m, args, below, meth, cd⟩ := X
  obtain ⟨hx, hb, hml, hr, hlk, hown, hts, hK, hR⟩ := C
  intro H locs ls hP hS hl
  exact lv_if_le hx hb hd ht (fun _ => k H locs ls hP hS hl) (fun z => absurd h z)
theorem V.if_leF (C : Cx G X cc nL own ret fr lo cw) {x : Int32} {off : Int} (tgt : Nat) (h : ¬ x ≤ 0) (ht : (pc : Int) + off = (tgt : Int)) (hd : decode cc pc = .ok (.ifCond .le off, 3)) (k : V G X nL ov Mf (pc + 3) lv st M) : V G X nL ov Mf pc lv (.int x :: st) M := by
  obtain ⟨p, l, e, R, s, m, args, below, meth, cd⟩ := X
  obtain ⟨hx, hb, hml, hr, hlk, hown, hts, hK, hR⟩ := C
  intro H locs ls hP hS hl
  exact lv_if_le hx hb hd ht (fun z => absurd z h) (fun _ => k H locs ls hP hS hl)
theorem V.ic_leT (C : Cx G X cc nL own ret fr lo cw) {x y : Int32} {off : Int} (tgt : Nat) (h : x ≤ y) (ht : (pc : Int) + off = (tgt : Int)) (hd : decode cc pc = .ok (.if_icmp .le off, 3)) (k : V G X nL ov Mf tgt lv st M) : V G X nL ov Mf pc lv (.int y :: .int x :: st) M := by
  obtain ⟨p, l, e, R, s, m, args, below, meth, cd⟩ := X
  obtain ⟨hx, hb, hml, hr, hlk, hown, hts, hK, hR⟩ := C
  intro H locs ls hP hS hl
  exact lv_icmp_le hx hb hd ht (fun _ => k H locs ls hP hS hl) (fun z => absurd h z)
theorem V.ic_leF (C : Cx G X cc nL own ret fr lo cw) {x y : Int32} {off : Int} (tgt : Nat) (h : ¬ x ≤ y) (ht : (pc : Int) + off = (tgt : Int)) (hd : decode cc pc = .ok (.if_icmp .le off, 3)) (k : V G X nL ov Mf (pc + 3) lv st M) : V G X nL ov Mf pc lv (.int y :: .int x :: st) M := by
  obtain ⟨p, l, e, R, s, m, args, below, meth, cd⟩ := X
  obtain ⟨hx, hb, hml, hr, hlk, hown, hts, hK, hR⟩ := C
  intro H locs ls hP hS hl
  exact lv_icmp_le hx hb hd ht (fun z => absurd z h) (fun _ => k H locs ls hP hS hl)
theorem V.goto (C : Cx G X cc nL own ret fr lo cw) {off : Int} (tgt : Nat) (ht : (pc : Int) + off = (tgt : Int)) (hd : decode cc pc = .ok (.goto off, 3)) (k : V G X nL ov Mf tgt lv st M) : V G X nL ov Mf pc lv st M := by
  obtain ⟨p, l, e, R, s, m, args, below, meth, cd⟩ := X
  obtain ⟨hx, hb, hml, hr, hlk, hown, hts, hK, hR⟩ := C
  intro H locs ls hP hS hl
  exact lv_goto hx hb hd ht (k H locs ls hP hS hl)
theorem V.tabIn (C : Cx G X cc nL own ret fr lo cw) {dflt lo' hi : Int} {offs : Array Int} {len : Nat} {x : Int32} (v : Int32) {off : Int} (tgt : Nat) (h : x = v) (h1 : ¬ v.toInt < lo') (h2 : ¬ hi < v.toInt) (ho : offs[(v.toInt - lo').toNat]? = some off) (ht : (pc : Int) + off = (tgt : Int)) (hd : decode cc pc = .ok (.tableswitch dflt lo' hi offs, len)) (k : V G X nL ov Mf tgt lv st M) : V G X nL ov Mf pc lv (.int x :: st) M := by
  subst h
  obtain ⟨p, l, e, R, s, m, args, below, meth, cd⟩ := X
  obtain ⟨hx, hb, hml, hr, hlk, hown, hts, hK, hR⟩ := C
  intro H locs ls hP hS hl
  exact lv_tableIn hx hb hd h1 h2 ho ht (k H locs ls hP hS hl)
theorem V.tabOut (C : Cx G X cc nL own ret fr lo cw) {dflt lo' hi : Int} {offs : Array Int} {len : Nat} {x : Int32} (tgt : Nat) (h : x.toInt < lo' ∨ hi < x.toInt) (ht : (pc : Int) + dflt = (tgt : Int)) (hd : decode cc pc = .ok (.tableswitch dflt lo' hi offs, len)) (k : V G X nL ov Mf tgt lv st M) : V G X nL ov Mf pc lv (.int x :: st) M := by
  obtain ⟨p, l, e, R, s, m, args, below, meth, cd⟩ := X
  obtain ⟨hx, hb, hml, hr, hlk, hown, hts, hK, hR⟩ := C
  intro H locs ls hP hS hl
  exact lv_tableOut hx hb hd h ht (k H locs ls hP hS hl)
theorem V.look (C : Cx G X cc nL own ret fr lo cw) {dflt : Int} {ps : Array (Int × Int)} {len : Nat} {x : Int32} {off : Int} (tgt : Nat) (hp : (ps.toList.zip (ps.toList.drop 1)).all (fun (a, next) => a.1 < next.1) = true) (ho : Op.lookupswitch.offset ps.toList dflt x.toInt = off) (ht : (pc : Int) + off = (tgt : Int)) (hd : decode cc pc = .ok (.lookupswitch dflt ps, len)) (k : V G X nL ov Mf tgt lv st M) : V G X nL ov Mf pc lv (.int x :: st) M := by
  obtain ⟨p, l, e, R, s, m, args, below, meth, cd⟩ := X
  obtain ⟨hx, hb, hml, hr, hlk, hown, hts, hK, hR⟩ := C
  intro H locs ls hP hS hl
  exact lv_lookup hx hb hd hp ho ht (k H locs ls hP hS hl)
theorem V.iret (C : Cx G X cc nL own (some .int) fr lo cw) {v : Int32} (ho : ov = some (.int v)) (hM : M = Mf) (hd : decode cc pc = .ok (.ireturn, 1)) : V G X nL ov Mf pc lv [.int v] M := by
  obtain ⟨p, l, e, R, s, m, args, below, meth, cd⟩ := X
  obtain ⟨hx, hb, hml, hr, hlk, hown, hts, hK, hR⟩ := C
  intro H locs ls hP hS hl
  subst ho; subst hM
  exact W.iret hx hb hr (fun t ht hW => ⟨rfl, by rw [ht]; exact hP, hS.F ht⟩) hS.2.2 hd hlk
theorem V.zret (C : Cx G X cc nL own (some .boolean) fr lo cw) {v : Int32} (hz : v = 0 ∨ v = 1) (ho : ov = some (.int v)) (hM : M = Mf) (hd : decode cc pc = .ok (.ireturn, 1)) : V G X nL ov Mf pc lv [.int v] M := by
  obtain ⟨p, l, e, R, s, m, args, below, meth, cd⟩ := X
  obtain ⟨hx, hb, hml, hr, hlk, hown, hts, hK, hR⟩ := C
  intro H locs ls hP hS hl
  subst ho; subst hM
  exact W.zret hx hb hr (by rcases hz with rfl | rfl <;> rfl) (fun t ht hW => ⟨rfl, by rw [ht]; exact hP, hS.F ht⟩) hS.2.2 hd hlk
theorem V.lret (C : Cx G X cc nL own (some .long) fr lo cw) {v : Int64} (ho : ov = some (.long v)) (hM : M = Mf) (hd : decode cc pc = .ok (.lreturn, 1)) : V G X nL ov Mf pc lv [.long v] M := by
  obtain ⟨p, l, e, R, s, m, args, below, meth, cd⟩ := X
  obtain ⟨hx, hb, hml, hr, hlk, hown, hts, hK, hR⟩ := C
  intro H locs ls hP hS hl
  subst ho; subst hM
  exact W.lret hx hb hr (fun t ht hW => ⟨rfl, by rw [ht]; exact hP, hS.F ht⟩) hS.2.2 hd hlk
theorem V.vret (C : Cx G X cc nL own none fr lo cw) (ho : ov = none) (hM : M = Mf) (hd : decode cc pc = .ok (.return_, 1)) : V G X nL ov Mf pc lv [] M := by
  obtain ⟨p, l, e, R, s, m, args, below, meth, cd⟩ := X
  obtain ⟨hx, hb, hml, hr, hlk, hown, hts, hK, hR⟩ := C
  intro H locs ls hP hS hl
  subst ho; subst hM
  exact W.vret hx hb hr (fun t ht hW => ⟨rfl, by rw [ht]; exact hP, hS.F ht⟩) hS.2.2 hd hlk
theorem u_good {C : String} {T : u_T} {N : Nat} {w : Cond} (h : w ∈ u_ws C T N) : goodWord w = true := by
  obtain ⟨k, -, rfl⟩ := List.mem_map.mp h
  unfold u_lay
  split <;> rfl
theorem V.getI (C : Cx G X cc nL own ret fr lo cw) {ci : Nat} {Cn : String} {T : u_T} {N : Nat} (hcl : vwCl[ci]? = some (Cn, T, N)) (hin : ∀ w ∈ u_ws Cn T N, w ∈ lw_tbl) {c : Nat} {fl : List Fk} (hc : (gS G)[c]? = some (.inr (.inl (ci, fl)))) (j : Nat) (hj : j < N) {ix : Nat} (hw : Cond.fieldLink own ix (T j).1 (T j).2.1 (T j).2.2.1 ∈ lw_tbl) (hf : fl[j]? = some (none)) (hd : decode cc pc = .ok (.getfield ix, 3)) (k : V G X nL ov Mf (pc + 3) lv (.int (M.1 c j) :: st) M) : V G X nL ov Mf pc lv (.ref (gA G c) :: st) M := by
  obtain ⟨p, l, e, R, s, m, args, below, meth, cd⟩ := X
  obtain ⟨hx, hb, hml, hr, hlk, hown, hts, hK, hR⟩ := C
  intro H locs ls hP hS hl
  exact va_get hx hb hts (fun w h => List.mem_cons_of_mem _ (bg_of (hin w h) (u_good h))) hown hK.1 hP c (wl_at M hc) hcl j hj (hts _ (List.mem_cons_of_mem _ (bg_of hw rfl))) (fun _ h => h) (by simp [List.getElem?_mapIdx, hf, fv]) hd (k H locs ls hP hS hl)
theorem V.getJ (C : Cx G X cc nL own ret fr lo cw) {ci : Nat} {Cn : String} {T : u_T} {N : Nat} (hcl : vwCl[ci]? = some (Cn, T, N)) (hin : ∀ w ∈ u_ws Cn T N, w ∈ lw_tbl) {c : Nat} {fl : List Fk} (hc : (gS G)[c]? = some (.inr (.inl (ci, fl)))) (j : Nat) (hj : j < N) {ix : Nat} (hw : Cond.fieldLink own ix (T j).1 (T j).2.1 (T j).2.2.1 ∈ lw_tbl) (hf : fl[j]? = some (some none)) (hd : decode cc pc = .ok (.getfield ix, 3)) (k : V G X nL ov Mf (pc + 3) lv (.long (M.2 c j) :: st) M) : V G X nL ov Mf pc lv (.ref (gA G c) :: st) M := by
  obtain ⟨p, l, e, R, s, m, args, below, meth, cd⟩ := X
  obtain ⟨hx, hb, hml, hr, hlk, hown, hts, hK, hR⟩ := C
  intro H locs ls hP hS hl
  exact va_get hx hb hts (fun w h => List.mem_cons_of_mem _ (bg_of (hin w h) (u_good h))) hown hK.1 hP c (wl_at M hc) hcl j hj (hts _ (List.mem_cons_of_mem _ (bg_of hw rfl))) (fun _ h => h) (by simp [List.getElem?_mapIdx, hf, fv]) hd (k H locs ls hP hS hl)
theorem V.getR (C : Cx G X cc nL own ret fr lo cw) {ci : Nat} {Cn : String} {T : u_T} {N : Nat} (hcl : vwCl[ci]? = some (Cn, T, N)) (hin : ∀ w ∈ u_ws Cn T N, w ∈ lw_tbl) {c : Nat} {fl : List Fk} (hc : (gS G)[c]? = some (.inr (.inl (ci, fl)))) (j : Nat) (hj : j < N) {ix : Nat} (hw : Cond.fieldLink own ix (T j).1 (T j).2.1 (T j).2.2.1 ∈ lw_tbl) {r : Nat} (hf : fl[j]? = some (some (some r))) (hd : decode cc pc = .ok (.getfield ix, 3)) (k : V G X nL ov Mf (pc + 3) lv (.ref (gA G r) :: st) M) : V G X nL ov Mf pc lv (.ref (gA G c) :: st) M := by
  obtain ⟨p, l, e, R, s, m, args, below, meth, cd⟩ := X
  obtain ⟨hx, hb, hml, hr, hlk, hown, hts, hK, hR⟩ := C
  intro H locs ls hP hS hl
  exact va_get hx hb hts (fun w h => List.mem_cons_of_mem _ (bg_of (hin w h) (u_good h))) hown hK.1 hP c (wl_at M hc) hcl j hj (hts _ (List.mem_cons_of_mem _ (bg_of hw rfl))) (fun _ h => h) (by simp [List.getElem?_mapIdx, hf, fv]) hd (k H locs ls hP hS hl)
theorem V.putI (C : Cx G X cc nL own ret fr lo cw) {ci : Nat} {Cn : String} {T : u_T} {N : Nat} (hcl : vwCl[ci]? = some (Cn, T, N)) (hin : ∀ w ∈ u_ws Cn T N, w ∈ lw_tbl) {c : Nat} {fl : List Fk} (hc : (gS G)[c]? = some (.inr (.inl (ci, fl)))) (j : Nat) (hj : j < N) {ix : Nat} (hw : Cond.fieldLink own ix (T j).1 (T j).2.1 (T j).2.2.1 ∈ lw_tbl) (ty : Nat → FieldType) (hty : ∀ k, k < N → parseFieldDescriptor (T k).2.2.1 = some (ty k)) (hnm : ∀ a, a < N → ∀ b, b < N → a ≠ b → (T a).2.1 ≠ (T b).2.1) (hfin : (T j).2.2.2 = false) (hd1 : parseFieldDescriptor (T j).2.2.1 = some .int) {v : Int32}  (hf : fl[j]? = some (none)) (hd : decode cc pc = .ok (.putfield ix, 3)) (k : V G X nL ov Mf (pc + 3) lv st (sI M c j v)) : V G X nL ov Mf pc lv (.int v :: .ref (gA G c) :: st) M := by
  obtain ⟨p, l, e, R, s, m, args, below, meth, cd⟩ := X
  obtain ⟨hx, hb, hml, hr, hlk, hown, hts, hK, hR⟩ := C
  intro H locs ls hP hS hl
  have hlen : j < (fl.mapIdx (fun j f => fv G M c j f)).length := by rw [List.length_mapIdx]; exact (List.getElem?_eq_some_iff.mp hf).1
  refine va_put hx hb hts (fun w h => List.mem_cons_of_mem _ (bg_of (hin w h) (u_good h))) ty hty hnm hown hK.1 hP (wl_D M hK.2.1) hS c (wl_at M hc) hcl j hj (hts _ (List.mem_cons_of_mem _ (bg_of hw rfl))) (fun _ h => h) hfin hd1 rfl rfl hlen hd (fun H1 locs1 hP1 _ hS1 => ?_)
  rw [← en_obI hf, wl_set hc (fun a y h => en_sI_ne h y)] at hP1
  exact k H1 locs1 ls hP1 hS1 hl
theorem V.putZ (C : Cx G X cc nL own ret fr lo cw) {ci : Nat} {Cn : String} {T : u_T} {N : Nat} (hcl : vwCl[ci]? = some (Cn, T, N)) (hin : ∀ w ∈ u_ws Cn T N, w ∈ lw_tbl) {c : Nat} {fl : List Fk} (hc : (gS G)[c]? = some (.inr (.inl (ci, fl)))) (j : Nat) (hj : j < N) {ix : Nat} (hw : Cond.fieldLink own ix (T j).1 (T j).2.1 (T j).2.2.1 ∈ lw_tbl) (ty : Nat → FieldType) (hty : ∀ k, k < N → parseFieldDescriptor (T k).2.2.1 = some (ty k)) (hnm : ∀ a, a < N → ∀ b, b < N → a ≠ b → (T a).2.1 ≠ (T b).2.1) (hfin : (T j).2.2.2 = false) (hd1 : parseFieldDescriptor (T j).2.2.1 = some .boolean) {v : Int32} (hz : v = 0 ∨ v = 1) (hf : fl[j]? = some (none)) (hd : decode cc pc = .ok (.putfield ix, 3)) (k : V G X nL ov Mf (pc + 3) lv st (sI M c j v)) : V G X nL ov Mf pc lv (.int v :: .ref (gA G c) :: st) M := by
  obtain ⟨p, l, e, R, s, m, args, below, meth, cd⟩ := X
  obtain ⟨hx, hb, hml, hr, hlk, hown, hts, hK, hR⟩ := C
  intro H locs ls hP hS hl
  have hlen : j < (fl.mapIdx (fun j f => fv G M c j f)).length := by rw [List.length_mapIdx]; exact (List.getElem?_eq_some_iff.mp hf).1
  refine va_put hx hb hts (fun w h => List.mem_cons_of_mem _ (bg_of (hin w h) (u_good h))) ty hty hnm hown hK.1 hP (wl_D M hK.2.1) hS c (wl_at M hc) hcl j hj (hts _ (List.mem_cons_of_mem _ (bg_of hw rfl))) (fun _ h => h) hfin hd1 (by rcases hz with rfl | rfl <;> rfl) (by rcases hz with rfl | rfl <;> rfl) hlen hd (fun H1 locs1 hP1 _ hS1 => ?_)
  rw [← en_obI hf, wl_set hc (fun a y h => en_sI_ne h y)] at hP1
  exact k H1 locs1 ls hP1 hS1 hl
theorem V.putJ (C : Cx G X cc nL own ret fr lo cw) {ci : Nat} {Cn : String} {T : u_T} {N : Nat} (hcl : vwCl[ci]? = some (Cn, T, N)) (hin : ∀ w ∈ u_ws Cn T N, w ∈ lw_tbl) {c : Nat} {fl : List Fk} (hc : (gS G)[c]? = some (.inr (.inl (ci, fl)))) (j : Nat) (hj : j < N) {ix : Nat} (hw : Cond.fieldLink own ix (T j).1 (T j).2.1 (T j).2.2.1 ∈ lw_tbl) (ty : Nat → FieldType) (hty : ∀ k, k < N → parseFieldDescriptor (T k).2.2.1 = some (ty k)) (hnm : ∀ a, a < N → ∀ b, b < N → a ≠ b → (T a).2.1 ≠ (T b).2.1) (hfin : (T j).2.2.2 = false) (hd1 : parseFieldDescriptor (T j).2.2.1 = some .long) {v : Int64}  (hf : fl[j]? = some (some none)) (hd : decode cc pc = .ok (.putfield ix, 3)) (k : V G X nL ov Mf (pc + 3) lv st (sL M c j v)) : V G X nL ov Mf pc lv (.long v :: .ref (gA G c) :: st) M := by
  obtain ⟨p, l, e, R, s, m, args, below, meth, cd⟩ := X
  obtain ⟨hx, hb, hml, hr, hlk, hown, hts, hK, hR⟩ := C
  intro H locs ls hP hS hl
  have hlen : j < (fl.mapIdx (fun j f => fv G M c j f)).length := by rw [List.length_mapIdx]; exact (List.getElem?_eq_some_iff.mp hf).1
  refine va_put hx hb hts (fun w h => List.mem_cons_of_mem _ (bg_of (hin w h) (u_good h))) ty hty hnm hown hK.1 hP (wl_D M hK.2.1) hS c (wl_at M hc) hcl j hj (hts _ (List.mem_cons_of_mem _ (bg_of hw rfl))) (fun _ h => h) hfin hd1 rfl rfl hlen hd (fun H1 locs1 hP1 _ hS1 => ?_)
  rw [← en_obL hf, wl_set hc (fun a y h => en_sL_ne h y)] at hP1
  exact k H1 locs1 ls hP1 hS1 hl
theorem V.iald (C : Cx G X cc nL own ret fr lo cw) {c n : Nat} (hc : (gS G)[c]? = some (.inl (0, n))) {i : Int32} (hi : vp_in i n) (hd : decode cc pc = .ok (.iaload, 1)) (k : V G X nL ov Mf (pc + 1) lv (.int (M.1 c i.toNatClampNeg) :: st) M) : V G X nL ov Mf pc lv (.int i :: .ref (gA G c) :: st) M := by
  obtain ⟨p, l, e, R, s, m, args, below, meth, cd⟩ := X
  obtain ⟨hx, hb, hml, hr, hlk, hown, hts, hK, hR⟩ := C
  intro H locs ls hP hS hl
  exact va_iald hx hb hK.1 hP c 0 (wl_at M hc) rfl hi hd (k H locs ls hP hS hl)
theorem V.lald (C : Cx G X cc nL own ret fr lo cw) {c n : Nat} (hc : (gS G)[c]? = some (.inl (1, n))) {i : Int32} (hi : vp_in i n) (hd : decode cc pc = .ok (.laload, 1)) (k : V G X nL ov Mf (pc + 1) lv (.long (M.2 c i.toNatClampNeg) :: st) M) : V G X nL ov Mf pc lv (.int i :: .ref (gA G c) :: st) M := by
  obtain ⟨p, l, e, R, s, m, args, below, meth, cd⟩ := X
  obtain ⟨hx, hb, hml, hr, hlk, hown, hts, hK, hR⟩ := C
  intro H locs ls hP hS hl
  exact va_lald hx hb hK.1 hP c 1 (wl_at M hc) rfl hi hd (k H locs ls hP hS hl)
theorem V.zald (C : Cx G X cc nL own ret fr lo cw) {c n : Nat} (hc : (gS G)[c]? = some (.inl (2, n))) {i : Int32} (hi : vp_in i n) (hd : decode cc pc = .ok (.baload, 1)) (k : V G X nL ov Mf (pc + 1) lv (.int (M.1 c i.toNatClampNeg) :: st) M) : V G X nL ov Mf pc lv (.int i :: .ref (gA G c) :: st) M := by
  obtain ⟨p, l, e, R, s, m, args, below, meth, cd⟩ := X
  obtain ⟨hx, hb, hml, hr, hlk, hown, hts, hK, hR⟩ := C
  intro H locs ls hP hS hl
  exact va_zald hx hb hK.1 hP c 2 (wl_at M hc) rfl hi hd (k H locs ls hP hS hl)
theorem V.alen (C : Cx G X cc nL own ret fr lo cw) {c t n : Nat} (v : Int32) (hc : (gS G)[c]? = some (.inl (t, n))) (ht : t < 3) (hv : Int32.ofNat n = v) (hd : decode cc pc = .ok (.arraylength, 1)) (k : V G X nL ov Mf (pc + 1) lv (.int v :: st) M) : V G X nL ov Mf pc lv (.ref (gA G c) :: st) M := by
  obtain ⟨p, l, e, R, s, m, args, below, meth, cd⟩ := X
  obtain ⟨hx, hb, hml, hr, hlk, hown, hts, hK, hR⟩ := C
  intro H locs ls hP hS hl
  match t, ht with
  | 0, _ => exact va_alen hx hb hK.1 hP c 0 (wl_at M hc) rfl hv hd (k H locs ls hP hS hl)
  | 1, _ => exact va_alen hx hb hK.1 hP c 1 (wl_at M hc) rfl hv hd (k H locs ls hP hS hl)
  | 2, _ => exact va_alen hx hb hK.1 hP c 2 (wl_at M hc) rfl hv hd (k H locs ls hP hS hl)
theorem V.iast (C : Cx G X cc nL own ret fr lo cw) {c n : Nat} (hc : (gS G)[c]? = some (.inl (0, n))) {i : Int32} {v : Int32}  (hi : vp_in i n) (hd : decode cc pc = .ok (.iastore, 1)) (k : V G X nL ov Mf (pc + 1) lv st (sI M c i.toNatClampNeg v)) : V G X nL ov Mf pc lv (.int v :: .int i :: .ref (gA G c) :: st) M := by
  obtain ⟨p, l, e, R, s, m, args, below, meth, cd⟩ := X
  obtain ⟨hx, hb, hml, hr, hlk, hown, hts, hK, hR⟩ := C
  intro H locs ls hP hS hl
  refine va_iast hx hb hK.1 hP (wl_D M hK.2.1) hS c 0 (wl_at M hc) rfl hi hd (fun H1 locs1 hP1 _ hS1 => ?_)
  have e := wl_set (M := M) (M' := sI M c i.toNatClampNeg v) hc (fun a y h => en_sI_ne h y)
  simp only [en, sI_at] at e
  rw [e] at hP1
  exact k H1 locs1 ls hP1 hS1 hl
theorem V.last (C : Cx G X cc nL own ret fr lo cw) {c n : Nat} (hc : (gS G)[c]? = some (.inl (1, n))) {i : Int32} {v : Int64}  (hi : vp_in i n) (hd : decode cc pc = .ok (.lastore, 1)) (k : V G X nL ov Mf (pc + 1) lv st (sL M c i.toNatClampNeg v)) : V G X nL ov Mf pc lv (.long v :: .int i :: .ref (gA G c) :: st) M := by
  obtain ⟨p, l, e, R, s, m, args, below, meth, cd⟩ := X
  obtain ⟨hx, hb, hml, hr, hlk, hown, hts, hK, hR⟩ := C
  intro H locs ls hP hS hl
  refine va_last hx hb hK.1 hP (wl_D M hK.2.1) hS c 1 (wl_at M hc) rfl hi hd (fun H1 locs1 hP1 _ hS1 => ?_)
  have e := wl_set (M := M) (M' := sL M c i.toNatClampNeg v) hc (fun a y h => en_sL_ne h y)
  simp only [en, sL_at] at e
  rw [e] at hP1
  exact k H1 locs1 ls hP1 hS1 hl
theorem V.zast (C : Cx G X cc nL own ret fr lo cw) {c n : Nat} (hc : (gS G)[c]? = some (.inl (2, n))) {i : Int32} {v : Int32} (hz : v = 0 ∨ v = 1) (hi : vp_in i n) (hd : decode cc pc = .ok (.bastore, 1)) (k : V G X nL ov Mf (pc + 1) lv st (sI M c i.toNatClampNeg v)) : V G X nL ov Mf pc lv (.int v :: .int i :: .ref (gA G c) :: st) M := by
  obtain ⟨p, l, e, R, s, m, args, below, meth, cd⟩ := X
  obtain ⟨hx, hb, hml, hr, hlk, hown, hts, hK, hR⟩ := C
  intro H locs ls hP hS hl
  refine va_zast hx hb hK.1 hP (wl_D M hK.2.1) hS c 2 (wl_at M hc) rfl hi hd (fun H1 locs1 hP1 _ hS1 => ?_)
  have hz2 : vp_nar .boolean v = v := by rcases hz with rfl | rfl <;> rfl
  rw [hz2] at hP1
  have e := wl_set (M := M) (M' := sI M c i.toNatClampNeg v) hc (fun a y h => en_sI_ne h y)
  simp only [en, sI_at] at e
  rw [e] at hP1
  exact k H1 locs1 ls hP1 hS1 hl
theorem V.aald (C : Cx G X cc nL own ret fr lo cw) {c : Nat} {rs : List Nat} (hc : (gS G)[c]? = some (.inr (.inr rs))) {i : Int32} (hi : vp_in i rs.length) {r : Nat} (hr' : rs[i.toNatClampNeg]? = some r) (hd : decode cc pc = .ok (.aaload, 1)) (k : V G X nL ov Mf (pc + 1) lv (.ref (gA G r) :: st) M) : V G X nL ov Mf pc lv (.int i :: .ref (gA G c) :: st) M := by
  obtain ⟨p, l, e, R, s, m, args, below, meth, cd⟩ := X
  obtain ⟨hx, hb, hml, hr, hlk, hown, hts, hK, hR⟩ := C
  intro H locs ls hP hS hl
  refine va_aldq hx hb hK.1 hP c 3 (wl_at M hc) rfl hi hd ?_
  rw [hr']
  exact k H locs ls hP hS hl
end VR2
end
section
theorem Kn.call {G : Rg} {U : State} {H : Heap} (g : JFrame) (mk : MethodId) (a : Array Value) (h : Kn G U H) : Kn G (U.calling g mk a) H := by
  obtain ⟨h1, h2, h3, h4, ⟨cell, c1, c2, c3⟩, h6⟩ := h
  exact ⟨va_K.moved (u := U) (U := U.calling g mk a) (Vm.Alike.refl U.vm) h1, h2, va_Nw.same rfl rfl h3, va_Z.moved (u := U) (U := U.calling g mk a) (Vm.Alike.refl U.vm) h4, ⟨cell, c1, State.isArrayOf_alike (s := U) (T := U.calling g mk a) (Vm.Alike.refl U.vm) c2, c3⟩, h6⟩
theorem vP_blind (G : Rg) (av : List Value) (M : Mm) : FrameBlind (vP G av M) := by
  intro a U g mk ⟨q0, qP, qK⟩
  exact ⟨q0, qP, qK.call g mk a⟩
/-- what is fixed of a method that is called on an object, and of a static one -/
def MF (y : MethodName) (cc : ByteArray) (nL : Nat) (ret : Option FieldType) (n : Nat) : Prop := Cond.code y cc nL ret ∈ lw_tbl ∧ Cond.instanceMethod y ∈ lw_tbl ∧ Cond.selects y.cls y y ∈ lw_tbl ∧ Cond.initialized y.cls ∈ lw_tbl ∧ (y.cls ≠ "java/lang/invoke/MethodHandle" ∧ y.cls ≠ "java/lang/invoke/VarHandle" ∧ (parseMethodDescriptor y.desc).map (fun d => d.parameters.length) = some n)
def MS (y : MethodName) (cc : ByteArray) (nL : Nat) (ret : Option FieldType) (n : Nat) : Prop := Cond.code y cc nL ret ∈ lw_tbl ∧ Cond.static y ∈ lw_tbl ∧ Cond.initialized y.cls ∈ lw_tbl ∧ (y.cls ≠ "java/lang/invoke/MethodHandle" ∧ y.cls ≠ "java/lang/invoke/VarHandle" ∧ (parseMethodDescriptor y.desc).map (fun d => d.parameters.length) = some n)
section VC
variable {G : Rg} {p : Program} {l : Launch} {e : Env} {R : Room} {s : State} {m : MethodId} {args : Array Value} {below : List Frame} {meth : Method} {c : Code} {H : Heap} {locs : List Loc} {Q : State → Prop}
theorem vc_go {ovc : Option Value} {M1 : Mm} {pc : Nat} {ls : Array Slot} {st0 rest : List Value} {a : Array Value}
    (hr : va_Run p l e R s m args below meth c H locs 0 0 0 0 (F0 m pc ls st0) rest (vQ G ovc M1 a) (Ar G)) (hS : va_S (Ar G) s.heap H locs)
    (k : ∀ (H1 : Heap) (locs1 : List Loc), Rp G M1 H1 → va_S (Ar G) s.heap H1 locs1 → W p l e R s m args below meth c H1 locs1 0 0 Q (F0 m (pc + 3) ls (ovc.toList ++ rest))) : W p l e R s m args below meth c H locs 0 0 Q (F0 m pc ls st0) := by
  intro T hT X
  obtain ⟨v, st₀, t, T', L, h0, X', hL, e1, e2, ⟨hv, hP1, hz, hk⟩, st⟩ := hr T hT X
  cases hv
  rw [h0] at hz hk
  obtain ⟨t2, a1, b1⟩ := k T'.heap (locs ++ L) (by rw [e1]; exact hP1)
    ⟨Nat.le_trans hS.1 (by rw [e1]; exact hz), fun q h1 h2 => by rw [e1, hk q (Nat.lt_of_lt_of_le h1 hS.1) h2]; exact hS.2.1 q h1 h2, fun q hq => by
      rcases List.mem_append.mp hq with h | h
      · exact hS.2.2 q h
      · exact hL q h⟩ T' rfl X'
  exact ⟨t2, st t2 a1, b1⟩
end VC
section VR3
variable {G : Rg} {X : Ct} {cc : ByteArray} {nL fr lo : Nat} {own : String} {ret : Option FieldType} {cw : Cond} {ov : Option Value} {Mf M : Mm} {pc : Nat} {lv lv' : List (Nat × Value)} {st : List Value}
theorem V.callV (C : Cx G X cc nL own ret fr lo cw) {y : MethodName} {cy : ByteArray} {ny fy ly n : Nat} {ry : Option FieldType} {As rest : List Value} {a : Nat} {ovc : Option Value} {M1 : Mm} (hM : Mt X.2.1 G y cy ny ry fy ly (.ref (gA G a) :: As) M ovc M1) (hF : MF y cy ny ry n) {ci : Nat} {T : u_T} {N : Nat} (hcl : vwCl[ci]? = some (y.cls, T, N)) {fl : List Fk} (hc : (gS G)[a]? = some (.inr (.inl (ci, fl)))) {ix : Nat} (hw : Cond.methodLink own ix y ∈ lw_tbl)
    (hst : st = As.reverse ++ .ref (gA G a) :: rest) (hn : As.length = n) (hroom : fy + 1 ≤ fr ∧ 8 + (ny + 11) + ly ≤ lo) (h8 : (rest.map fun v => v.category).sum ≤ 8) (hd : decode cc pc = .ok (.invokevirtual ix, 3)) (k : V G X nL ov Mf (pc + 3) lv (ovc.toList ++ rest) M1) : V G X nL ov Mf pc lv st M := by
  obtain ⟨p, l, e, R, s, m, args, below, meth, cd⟩ := X
  obtain ⟨hx, hb, hml, hr, hlk, hown, hts, hK, hR⟩ := C
  intro H locs ls hP hS hl
  subst hR
  obtain ⟨f1, f2, f3, f4, f5⟩ := hF
  have hG : GoodIn (cw :: bg) (wsV own ix y.cls y (Cond.code y cy ny ry :: bg)) := bg_GoodIn f1 [.methodLink own ix y, .instanceMethod y, .selects y.cls y y, .initialized y.cls] (by
    intro w h
    simp only [List.mem_cons, List.not_mem_nil, or_false] at h
    rcases h with rfl | rfl | rfl | rfl
    · exact bg_of hw rfl
    · exact bg_of f2 rfl
    · exact bg_of f3 rfl
    · exact bg_of f4 rfl)
  refine vc_go (va_runV (As := As) (rest := rest) (g := F0 m pc ls st) ⟨hx, hb, hml, hown, hts⟩ hM (cwV (R := ({ frames := fr, cells := 0, slots := 0, locals := lo } : Room)) n hts hG rfl rfl rfl ⟨rfl, f5⟩ hroom) ⟨vP_blind _ _ _, va_recv hK.1 hP hcl (wl_at M hc), fun U hU hW => ⟨rfl, by rw [hU]; exact hP, Kn.moved hK hW (by rw [hU]; exact hS)⟩⟩ rfl hn hl.1 hst (lv_room h8) hd ⟨Nat.le_refl _, Nat.le_refl _⟩) hS (fun H1 locs1 hP1 hS1 => k H1 locs1 ls hP1 hS1 hl)
theorem V.callS (C : Cx G X cc nL own ret fr lo cw) {y : MethodName} {cy : ByteArray} {ny fy ly n : Nat} {ry : Option FieldType} {As rest : List Value} {ovc : Option Value} {M1 : Mm} (hM : Mt X.2.1 G y cy ny ry fy ly As M ovc M1) (hF : MS y cy ny ry n) {ix : Nat} (hw : Cond.methodLink own ix y ∈ lw_tbl)
    (hst : st = As.reverse ++ rest) (hn : As.length = n) (hroom : fy + 1 ≤ fr ∧ 8 + (ny + 11) + ly ≤ lo) (h8 : (rest.map fun v => v.category).sum ≤ 8) (hd : decode cc pc = .ok (.invokestatic ix, 3)) (k : V G X nL ov Mf (pc + 3) lv (ovc.toList ++ rest) M1) : V G X nL ov Mf pc lv st M := by
  obtain ⟨p, l, e, R, s, m, args, below, meth, cd⟩ := X
  obtain ⟨hx, hb, hml, hr, hlk, hown, hts, hK, hR⟩ := C
  intro H locs ls hP hS hl
  subst hR
  obtain ⟨f1, f2, f4, f5⟩ := hF
  have hG : GoodIn (cw :: bg) (va_wsS own ix y (Cond.code y cy ny ry :: bg)) := bg_GoodIn f1 [.methodLink own ix y, .static y, .initialized y.cls] (by
    intro w h
    simp only [List.mem_cons, List.not_mem_nil, or_false] at h
    rcases h with rfl | rfl | rfl
    · exact bg_of hw rfl
    · exact bg_of f2 rfl
    · exact bg_of f4 rfl)
  refine vc_go (va_runS (As := As) (rest := rest) (g := F0 m pc ls st) ⟨hx, hb, hml, hown, hts⟩ hM (va_cwS (R := ({ frames := fr, cells := 0, slots := 0, locals := lo } : Room)) n hts hG rfl rfl rfl f5 hroom) ⟨vP_blind _ _ _, fun U hU hW => ⟨rfl, by rw [hU]; exact hP, Kn.moved hK hW (by rw [hU]; exact hS)⟩⟩ rfl hn hl.1 hst (lv_room h8) hd ⟨Nat.le_refl _, Nat.le_refl _⟩) hS (fun H1 locs1 hP1 hS1 => k H1 locs1 ls hP1 hS1 hl)
/-- the one call of a nest mate's private static method -/
theorem V.callN (C : Cx G X cc nL RX4 ret fr lo cw) {cy : ByteArray} {ny fy ly n : Nat} {ry : Option FieldType} {As rest : List Value} {ovc : Option Value} {M1 : Mm} (hM : Mt X.2.1 G yX8_isWithin cy ny ry fy ly As M ovc M1) (hF : MS yX8_isWithin cy ny ry n)
    (hst : st = As.reverse ++ rest) (hn : As.length = n) (hroom : fy + 1 ≤ fr ∧ 8 + (ny + 11) + ly ≤ lo) (h8 : (rest.map fun v => v.category).sum ≤ 8) (hd : decode cc pc = .ok (.invokestatic 30, 3)) (k : V G X nL ov Mf (pc + 3) lv (ovc.toList ++ rest) M1) : V G X nL ov Mf pc lv st M := by
  obtain ⟨p, l, e, R, s, m, args, below, meth, cd⟩ := X
  obtain ⟨hx, hb, hml, hr, hlk, hown, hts, hK, hR⟩ := C
  intro H locs ls hP hS hl
  subst hR
  obtain ⟨f1, f2, f4, f5⟩ := hF
  have hG : GoodIn (cw :: bg) (Cond.code yX8_isWithin cy ny ry :: bg) := bg_GoodIn f1 [] (by simp)
  have h1 := hts _ (List.mem_cons_of_mem _ (bg_of f4 rfl))
  have h2 := hts _ (List.mem_cons_of_mem _ (bg_of f2 rfl))
  refine vc_go (va_runSN (As := As) (rest := rest) (g := F0 m pc ls st) ⟨hx, hb, hml, hown, hts⟩ hM ⟨va_cnB (R := ({ frames := fr, cells := 0, slots := 0, locals := lo } : Room)) n hts hG rfl rfl rfl hK.2.2.1 h1 f5 hroom, h2, trivial⟩ ⟨vP_blind _ _ _, fun U hU hW => ⟨rfl, by rw [hU]; exact hP, Kn.moved hK hW (by rw [hU]; exact hS)⟩⟩ rfl hn hl.1 hst (lv_room h8) hd ⟨Nat.le_refl _, Nat.le_refl _⟩) hS (fun H1 locs1 hP1 hS1 => k H1 locs1 ls hP1 hS1 hl)
theorem en_cpI_ne {M : Mm} {c d n a : Nat} (h : a ≠ d) (x : Sh) : en G (cpI M c d n) a x = en G M a x := by
  have e0 : (cpI M c d n).1 a = M.1 a := by funext b; simp [cpI, h]
  rcases x with ⟨t, n⟩ | ⟨ci, fl⟩ | rs
  · match t with
    | 0 => simp only [en, e0]
    | 1 => rfl
    | t + 2 => simp only [en, e0]
  · have e : (fun (j : Nat) (f : Fk) => fv G (cpI M c d n) a j f) = fun j f => fv G M a j f := by
      funext j f
      rcases f with _ | _ | r <;> simp only [fv, e0] <;> rfl
    simp only [en, e]
  · rfl
theorem en_cpL_ne {M : Mm} {c d n a : Nat} (h : a ≠ d) (x : Sh) : en G (cpL M c d n) a x = en G M a x := by
  have e0 : (cpL M c d n).2 a = M.2 a := by funext b; simp [cpL, h]
  rcases x with ⟨t, n⟩ | ⟨ci, fl⟩ | rs
  · match t with
    | 0 => rfl
    | 1 => simp only [en, e0]
    | t + 2 => rfl
  · have e : (fun (j : Nat) (f : Fk) => fv G (cpL M c d n) a j f) = fun j f => fv G M a j f := by
      funext j f
      rcases f with _ | _ | r <;> simp only [fv, e0] <;> rfl
    simp only [en, e]
  · rfl
def MC (own : String) (ix : Nat) : Prop := Cond.methodLink own ix arraycopyName ∈ lw_tbl ∧ Cond.native arraycopyName ∈ lw_tbl ∧ Cond.static arraycopyName ∈ lw_tbl ∧ Cond.initialized "java/lang/System" ∈ lw_tbl
theorem V.copyI (C : Cx G X cc nL own ret fr lo cw) {ix : Nat} (hF : MC own ix) {a b na nb : Nat} (ha : (gS G)[a]? = some (.inl (0, na))) (hbb : (gS G)[b]? = some (.inl (0, nb))) {n : Int32} (h3 : ¬ n < 0) (h4 : n.toNatClampNeg ≤ na) (h5 : n.toNatClampNeg ≤ nb) (hfr : 1 ≤ fr) (hlo : (st.map fun v => v.category).sum + (nativeFrameWords "java/lang/System" "arraycopy" 5 + 11) ≤ lo) (hd : decode cc pc = .ok (.invokestatic ix, 3))
    (k : V G X nL ov Mf (pc + 3) lv st (cpI M a b n.toNatClampNeg)) : V G X nL ov Mf pc lv (.int n :: .int 0 :: .ref (gA G b) :: .int 0 :: .ref (gA G a) :: st) M := by
  obtain ⟨p, l, e, R, s, m, args, below, meth, cd⟩ := X
  obtain ⟨hx, hb, hml, hr, hlk, hown, hts, hK, hR⟩ := C
  intro H locs ls hP hS hl
  subst hR
  have w : ∀ {c : Cond}, c ∈ lw_tbl → goodWord c = true → c.before args s = true := fun h1 h2 => hts _ (List.mem_cons_of_mem _ (bg_of h1 h2))
  refine va_copyi hx hb (hml.trans hl.1.symm) hown (w hF.1 rfl) (w hF.2.1 rfl) (w hF.2.2.1 rfl) (w hF.2.2.2 rfl) hK.1 hP (wl_D M hK.2.1) hS a b 0 0 (wl_at M ha) (wl_at M hbb) rfl rfl rfl (sp := 0) (dp := 0) (by decide) (by decide) h3 (by rw [show ((0 : Int32).toNatClampNeg) = 0 from rfl]; omega) (by rw [show ((0 : Int32).toNatClampNeg) = 0 from rfl]; omega) (fun _ _ => rfl) hfr hlo hd (fun H1 locs1 hP1 _ hS1 => ?_)
  have e := wl_set (M := M) (M' := cpI M a b n.toNatClampNeg) hbb (fun a y h => en_cpI_ne h y)
  have e2 : (cpI M a b n.toNatClampNeg).1 b = va_cpy (M.1 a) (M.1 b) (0 : Int32).toNatClampNeg (0 : Int32).toNatClampNeg n.toNatClampNeg := by
    funext j
    rw [show ((0 : Int32).toNatClampNeg) = 0 from rfl]
    simp [cpI, va_cpy]
  simp only [en, e2] at e
  rw [e] at hP1
  exact k H1 locs1 ls hP1 hS1 hl
theorem V.copyL (C : Cx G X cc nL own ret fr lo cw) {ix : Nat} (hF : MC own ix) {a b na nb : Nat} (ha : (gS G)[a]? = some (.inl (1, na))) (hbb : (gS G)[b]? = some (.inl (1, nb))) {n : Int32} (h3 : ¬ n < 0) (h4 : n.toNatClampNeg ≤ na) (h5 : n.toNatClampNeg ≤ nb) (hfr : 1 ≤ fr) (hlo : (st.map fun v => v.category).sum + (nativeFrameWords "java/lang/System" "arraycopy" 5 + 11) ≤ lo) (hd : decode cc pc = .ok (.invokestatic ix, 3))
    (k : V G X nL ov Mf (pc + 3) lv st (cpL M a b n.toNatClampNeg)) : V G X nL ov Mf pc lv (.int n :: .int 0 :: .ref (gA G b) :: .int 0 :: .ref (gA G a) :: st) M := by
  obtain ⟨p, l, e, R, s, m, args, below, meth, cd⟩ := X
  obtain ⟨hx, hb, hml, hr, hlk, hown, hts, hK, hR⟩ := C
  intro H locs ls hP hS hl
  subst hR
  have w : ∀ {c : Cond}, c ∈ lw_tbl → goodWord c = true → c.before args s = true := fun h1 h2 => hts _ (List.mem_cons_of_mem _ (bg_of h1 h2))
  refine va_copyl hx hb (hml.trans hl.1.symm) hown (w hF.1 rfl) (w hF.2.1 rfl) (w hF.2.2.1 rfl) (w hF.2.2.2 rfl) hK.1 hP (wl_D M hK.2.1) hS a b 1 1 (wl_at M ha) (wl_at M hbb) rfl rfl rfl (sp := 0) (dp := 0) (by decide) (by decide) h3 (by rw [show ((0 : Int32).toNatClampNeg) = 0 from rfl]; omega) (by rw [show ((0 : Int32).toNatClampNeg) = 0 from rfl]; omega) (fun _ _ => rfl) hfr hlo hd (fun H1 locs1 hP1 _ hS1 => ?_)
  have e := wl_set (M := M) (M' := cpL M a b n.toNatClampNeg) hbb (fun a y h => en_cpL_ne h y)
  have e2 : (cpL M a b n.toNatClampNeg).2 b = va_cpy (M.2 a) (M.2 b) (0 : Int32).toNatClampNeg (0 : Int32).toNatClampNeg n.toNatClampNeg := by
    funext j
    rw [show ((0 : Int32).toNatClampNeg) = 0 from rfl]
    simp [cpL, va_cpy]
  simp only [en, e2] at e
  rw [e] at hP1
  exact k H1 locs1 ls hP1 hS1 hl
theorem V.getLk (C : Cx G X cc nL RX2 ret fr lo cw) {ix : Nat} (hw : Cond.fieldLink RX2 ix RX2 "LACKING" "[J" ∈ lw_tbl) (hd : decode cc pc = .ok (.getstatic ix, 3)) (k : V G X nL ov Mf (pc + 3) lv (.ref (gL G) :: st) M) : V G X nL ov Mf pc lv st M := by
  obtain ⟨p, l, e, R, s, m, args, below, meth, cd⟩ := X
  obtain ⟨hx, hb, hml, hr, hlk, hown, hts, hK, hR⟩ := C
  intro H locs ls hP hS hl
  exact va_gets hx hb hK.2.2.2.1 hS hown (hts _ (List.mem_cons_of_mem _ (bg_of hw rfl))) (fun _ h => h) hd (k H locs ls hP hS hl)
theorem V.ldLk (C : Cx G X cc nL own ret fr lo cw) {i : Int32} (hi : vp_in i 6) (hd : decode cc pc = .ok (.laload, 1)) (k : V G X nL ov Mf (pc + 1) lv (.long (lkF i.toNatClampNeg) :: st) M) : V G X nL ov Mf pc lv (.int i :: .ref (gL G) :: st) M := by
  obtain ⟨p, l, e, R, s, m, args, below, meth, cd⟩ := X
  obtain ⟨hx, hb, hml, hr, hlk, hown, hts, hK, hR⟩ := C
  intro H locs ls hP hS hl
  obtain ⟨cell, c1, c2, c3, c4, c5⟩ := hK.2.2.2.2.1
  have c1' : H[gL G]? = some cell := by
    rw [hS.2.1 _ (Array.getElem?_eq_some_iff.mp c1).1 hK.2.2.2.2.2]
    exact c1
  have hlt : i.toNatClampNeg < 6 := Nat.not_le.mp fun q => hi (Or.inr q)
  exact W.lald hx hb c1' c2 c3 (by rw [c4]; exact hi) (c5 _ hlt) rfl rfl hd (k H locs ls hP hS hl)
end VR3
/-! the mirrored functions' own words -/
def gd {α : Type} (b : Bool) (x : Option α) : Option α := if b = true then x else none
def bd {α β : Type} (x : Option (α × Mm)) (f : α → Mm → Option β) : Option β := match x with
  | none => none
  | some q => f q.1 q.2
def lt_ {α β : Type} (x : α) (f : α → β) : β := f x
def inb (i : Int32) (n : Nat) : Bool := decide (0 ≤ i) && decide (i.toNatClampNeg < n)
def fu : Nat := 5000
theorem gd_some {α : Type} {b : Bool} {x : Option α} {t : α} (h : gd b x = some t) : b = true ∧ x = some t := by
  unfold gd at h
  split at h
  · exact ⟨by assumption, h⟩
  · cases h
theorem bd_some {α β : Type} {x : Option (α × Mm)} {f : α → Mm → Option β} {t : β} (h : bd x f = some t) : ∃ a M, x = some (a, M) ∧ f a M = some t := by
  cases x with
  | none => cases h
  | some q => exact ⟨q.1, q.2, rfl, h⟩
theorem lt_some {α β : Type} {x : α} {f : α → β} {t : β} (h : lt_ x f = t) : ∃ v, v = x ∧ f v = t := ⟨x, rfl, h⟩
theorem it_some {α : Type} {p : Prop} [Decidable p] {a b t : α} (h : (if p then a else b) = t) : (p ∧ a = t) ∨ (¬ p ∧ b = t) := by
  by_cases hp : p
  · rw [if_pos hp] at h; exact Or.inl ⟨hp, h⟩
  · rw [if_neg hp] at h; exact Or.inr ⟨hp, h⟩
theorem inb_in {i : Int32} {n : Nat} (h : inb i n = true) : vp_in i n := by
  simp only [inb, Bool.and_eq_true, decide_eq_true_eq] at h
  intro q
  rcases q with q | q
  · exact absurd q (Int32.not_lt.mpr h.1)
  · omega
theorem dec_some {p : Prop} [Decidable p] (h : decide p = true) : p := of_decide_eq_true h
def isB (G : Rg) (c : Nat) : Prop := (gS G)[c]? = some (.inr (.inl (0, [none, none, none, none, some (some (c + 1)), some (some (c + 2)), some (some (c + 3)), some (some (c + 4))]))) ∧ (gS G)[c + 1]? = some (.inl (0, 12)) ∧ (gS G)[c + 2]? = some (.inl (0, 12)) ∧ (gS G)[c + 3]? = some (.inl (0, 6)) ∧ (gS G)[c + 4]? = some (.inl (0, 8))
section VR4
variable {G : Rg} {X : Ct} {cc : ByteArray} {nL fr lo : Nat} {own : String} {ret : Option FieldType} {cw : Cond} {ov : Option Value} {Mf M : Mm} {pc : Nat} {lv lv' : List (Nat × Value)} {st : List Value}
theorem V.retI (C : Cx G X cc nL own (some .int) fr lo cw) {v r : Int32} (hf : (some (v, M) : Option (Int32 × Mm)) = some (r, Mf)) (hd : decode cc pc = .ok (.ireturn, 1)) : V G X nL (some (.int r)) Mf pc lv [.int v] M := by
  cases hf
  exact V.iret C rfl rfl hd
theorem V.retZ (C : Cx G X cc nL own (some .boolean) fr lo cw) {v r : Int32} (hz : v = 0 ∨ v = 1) (hf : (some (v, M) : Option (Int32 × Mm)) = some (r, Mf)) (hd : decode cc pc = .ok (.ireturn, 1)) : V G X nL (some (.int r)) Mf pc lv [.int v] M := by
  cases hf
  exact V.zret C hz rfl rfl hd
theorem V.retL (C : Cx G X cc nL own (some .long) fr lo cw) {v r : Int64} (hf : (some (v, M) : Option (Int64 × Mm)) = some (r, Mf)) (hd : decode cc pc = .ok (.lreturn, 1)) : V G X nL (some (.long r)) Mf pc lv [.long v] M := by
  cases hf
  exact V.lret C rfl rfl hd
theorem V.retV (C : Cx G X cc nL own none fr lo cw) {u r : Unit} (hf : (some (u, M) : Option (Unit × Mm)) = some (r, Mf)) (hd : decode cc pc = .ok (.return_, 1)) : V G X nL none Mf pc lv [] M := by
  cases hf
  exact V.vret C rfl rfl hd
theorem V.callVi (C : Cx G X cc nL own ret fr lo cw) {y : MethodName} {cy : ByteArray} {ny fy ly n : Nat} {ry : Option FieldType} {As rest : List Value} {a : Nat} {r : Int32} {M1 : Mm} (hM : Mt X.2.1 G y cy ny ry fy ly (.ref (gA G a) :: As) M (some (.int r)) M1) (hF : MF y cy ny ry n) {ci : Nat} {T : u_T} {N : Nat} (hcl : vwCl[ci]? = some (y.cls, T, N)) {fl : List Fk} (hc : (gS G)[a]? = some (.inr (.inl (ci, fl)))) {ix : Nat} (hw : Cond.methodLink own ix y ∈ lw_tbl)
    (hst : st = As.reverse ++ .ref (gA G a) :: rest) (hn : As.length = n) (hroom : fy + 1 ≤ fr ∧ 8 + (ny + 11) + ly ≤ lo) (h8 : (rest.map fun v => v.category).sum ≤ 8) (hd : decode cc pc = .ok (.invokevirtual ix, 3)) (k : V G X nL ov Mf (pc + 3) lv (.int r :: rest) M1) : V G X nL ov Mf pc lv st M := V.callV C hM hF hcl hc hw hst hn hroom h8 hd k
theorem V.callVl (C : Cx G X cc nL own ret fr lo cw) {y : MethodName} {cy : ByteArray} {ny fy ly n : Nat} {ry : Option FieldType} {As rest : List Value} {a : Nat} {r : Int64} {M1 : Mm} (hM : Mt X.2.1 G y cy ny ry fy ly (.ref (gA G a) :: As) M (some (.long r)) M1) (hF : MF y cy ny ry n) {ci : Nat} {T : u_T} {N : Nat} (hcl : vwCl[ci]? = some (y.cls, T, N)) {fl : List Fk} (hc : (gS G)[a]? = some (.inr (.inl (ci, fl)))) {ix : Nat} (hw : Cond.methodLink own ix y ∈ lw_tbl)
    (hst : st = As.reverse ++ .ref (gA G a) :: rest) (hn : As.length = n) (hroom : fy + 1 ≤ fr ∧ 8 + (ny + 11) + ly ≤ lo) (h8 : (rest.map fun v => v.category).sum ≤ 8) (hd : decode cc pc = .ok (.invokevirtual ix, 3)) (k : V G X nL ov Mf (pc + 3) lv (.long r :: rest) M1) : V G X nL ov Mf pc lv st M := V.callV C hM hF hcl hc hw hst hn hroom h8 hd k
theorem V.callVv (C : Cx G X cc nL own ret fr lo cw) {y : MethodName} {cy : ByteArray} {ny fy ly n : Nat} {ry : Option FieldType} {As rest : List Value} {a : Nat} {M1 : Mm} (hM : Mt X.2.1 G y cy ny ry fy ly (.ref (gA G a) :: As) M none M1) (hF : MF y cy ny ry n) {ci : Nat} {T : u_T} {N : Nat} (hcl : vwCl[ci]? = some (y.cls, T, N)) {fl : List Fk} (hc : (gS G)[a]? = some (.inr (.inl (ci, fl)))) {ix : Nat} (hw : Cond.methodLink own ix y ∈ lw_tbl)
    (hst : st = As.reverse ++ .ref (gA G a) :: rest) (hn : As.length = n) (hroom : fy + 1 ≤ fr ∧ 8 + (ny + 11) + ly ≤ lo) (h8 : (rest.map fun v => v.category).sum ≤ 8) (hd : decode cc pc = .ok (.invokevirtual ix, 3)) (k : V G X nL ov Mf (pc + 3) lv rest M1) : V G X nL ov Mf pc lv st M := V.callV C hM hF hcl hc hw hst hn hroom h8 hd k
theorem V.callSi (C : Cx G X cc nL own ret fr lo cw) {y : MethodName} {cy : ByteArray} {ny fy ly n : Nat} {ry : Option FieldType} {As rest : List Value} {r : Int32} {M1 : Mm} (hM : Mt X.2.1 G y cy ny ry fy ly As M (some (.int r)) M1) (hF : MS y cy ny ry n) {ix : Nat} (hw : Cond.methodLink own ix y ∈ lw_tbl)
    (hst : st = As.reverse ++ rest) (hn : As.length = n) (hroom : fy + 1 ≤ fr ∧ 8 + (ny + 11) + ly ≤ lo) (h8 : (rest.map fun v => v.category).sum ≤ 8) (hd : decode cc pc = .ok (.invokestatic ix, 3)) (k : V G X nL ov Mf (pc + 3) lv (.int r :: rest) M1) : V G X nL ov Mf pc lv st M := V.callS C hM hF hw hst hn hroom h8 hd k
theorem V.callSl (C : Cx G X cc nL own ret fr lo cw) {y : MethodName} {cy : ByteArray} {ny fy ly n : Nat} {ry : Option FieldType} {As rest : List Value} {r : Int64} {M1 : Mm} (hM : Mt X.2.1 G y cy ny ry fy ly As M (some (.long r)) M1) (hF : MS y cy ny ry n) {ix : Nat} (hw : Cond.methodLink own ix y ∈ lw_tbl)
    (hst : st = As.reverse ++ rest) (hn : As.length = n) (hroom : fy + 1 ≤ fr ∧ 8 + (ny + 11) + ly ≤ lo) (h8 : (rest.map fun v => v.category).sum ≤ 8) (hd : decode cc pc = .ok (.invokestatic ix, 3)) (k : V G X nL ov Mf (pc + 3) lv (.long r :: rest) M1) : V G X nL ov Mf pc lv st M := V.callS C hM hF hw hst hn hroom h8 hd k
theorem V.callSv (C : Cx G X cc nL own ret fr lo cw) {y : MethodName} {cy : ByteArray} {ny fy ly n : Nat} {ry : Option FieldType} {As rest : List Value} {M1 : Mm} (hM : Mt X.2.1 G y cy ny ry fy ly As M none M1) (hF : MS y cy ny ry n) {ix : Nat} (hw : Cond.methodLink own ix y ∈ lw_tbl)
    (hst : st = As.reverse ++ rest) (hn : As.length = n) (hroom : fy + 1 ≤ fr ∧ 8 + (ny + 11) + ly ≤ lo) (h8 : (rest.map fun v => v.category).sum ≤ 8) (hd : decode cc pc = .ok (.invokestatic ix, 3)) (k : V G X nL ov Mf (pc + 3) lv rest M1) : V G X nL ov Mf pc lv st M := V.callS C hM hF hw hst hn hroom h8 hd k
theorem V.callNi (C : Cx G X cc nL RX4 ret fr lo cw) {cy : ByteArray} {ny fy ly n : Nat} {ry : Option FieldType} {As rest : List Value} {r : Int32} {M1 : Mm} (hM : Mt X.2.1 G yX8_isWithin cy ny ry fy ly As M (some (.int r)) M1) (hF : MS yX8_isWithin cy ny ry n)
    (hst : st = As.reverse ++ rest) (hn : As.length = n) (hroom : fy + 1 ≤ fr ∧ 8 + (ny + 11) + ly ≤ lo) (h8 : (rest.map fun v => v.category).sum ≤ 8) (hd : decode cc pc = .ok (.invokestatic 30, 3)) (k : V G X nL ov Mf (pc + 3) lv (.int r :: rest) M1) : V G X nL ov Mf pc lv st M := V.callN C hM hF hst hn hroom h8 hd k
theorem V.nmI (C : Cx G X cc nL own ret fr lo cw) {v x : Int32} (h : v = x) (k : V G X nL ov Mf pc lv (.int v :: st) M) : V G X nL ov Mf pc lv (.int x :: st) M := h ▸ k
end VR4
theorem ne_toInt {x k : Int32} (h : ¬ x = k) : ¬ x.toInt = k.toInt := fun q => h (Int32.toInt_inj.mp q)
theorem sw3 {x : Int32} (h0 : ¬ x = 0) (h1 : ¬ x = 1) (h2 : ¬ x = 2) : x.toInt < 0 ∨ 2 < x.toInt := by
  have a0 : ¬ x.toInt = 0 := ne_toInt h0
  have a1 : ¬ x.toInt = 1 := ne_toInt h1
  have a2 : ¬ x.toInt = 2 := ne_toInt h2
  omega
theorem sw4 {x : Int32} (h0 : ¬ x = 0) (h1 : ¬ x = 1) (h2 : ¬ x = 2) (h3 : ¬ x = 3) : x.toInt < 0 ∨ 3 < x.toInt := by
  have a0 : ¬ x.toInt = 0 := ne_toInt h0
  have a1 : ¬ x.toInt = 1 := ne_toInt h1
  have a2 : ¬ x.toInt = 2 := ne_toInt h2
  have a3 : ¬ x.toInt = 3 := ne_toInt h3
  omega
theorem sw6 {x : Int32} (h0 : ¬ x = 0) (h1 : ¬ x = 1) (h2 : ¬ x = 2) (h3 : ¬ x = 3) (h4 : ¬ x = 4) (h5 : ¬ x = 5) : x.toInt < 0 ∨ 5 < x.toInt := by
  have a0 : ¬ x.toInt = 0 := ne_toInt h0
  have a1 : ¬ x.toInt = 1 := ne_toInt h1
  have a2 : ¬ x.toInt = 2 := ne_toInt h2
  have a3 : ¬ x.toInt = 3 := ne_toInt h3
  have a4 : ¬ x.toInt = 4 := ne_toInt h4
  have a5 : ¬ x.toInt = 5 := ne_toInt h5
  omega
def jmax (x y : Int32) : Int32 := if x < y then y else x
def jmin (x y : Int32) : Int32 := if y < x then y else x
def jabs (x : Int32) : Int32 := if 0 ≤ x then x else 0 - x
def MMx : Prop := Cond.static Lib.Math.max.name ∈ lw_tbl ∧ Cond.initialized "java/lang/Math" ∈ lw_tbl ∧ Cond.code Lib.Math.max.name Lib.Math.max.code 2 (some .int) ∈ lw_tbl
def MMn : Prop := Cond.static Lib.Math.min.name ∈ lw_tbl ∧ Cond.initialized "java/lang/Math" ∈ lw_tbl ∧ Cond.code Lib.Math.min.name Lib.Math.min.code 2 (some .int) ∈ lw_tbl
def MMa : Prop := Cond.static Lib.Math.abs.name ∈ lw_tbl ∧ Cond.initialized "java/lang/Math" ∈ lw_tbl ∧ Cond.code Lib.Math.abs.name Lib.Math.abs.code 1 (some .int) ∈ lw_tbl
section VR5
variable {G : Rg} {X : Ct} {cc : ByteArray} {nL fr lo : Nat} {own : String} {ret : Option FieldType} {cw : Cond} {ov : Option Value} {Mf M : Mm} {pc : Nat} {lv lv' : List (Nat × Value)} {st : List Value}
theorem V.mmax (C : Cx G X cc nL own ret fr lo cw) (hF : MMx) {ix : Nat} (hw : Cond.methodLink own ix Lib.Math.max.name ∈ lw_tbl) {x y : Int32} (hfr : 1 ≤ fr) (hlo : (st.map fun v => v.category).sum + 13 ≤ lo) (hd : decode cc pc = .ok (.invokestatic ix, 3)) (k : V G X nL ov Mf (pc + 3) lv (.int (jmax x y) :: st) M) : V G X nL ov Mf pc lv (.int y :: .int x :: st) M := by
  obtain ⟨p, l, e, R, s, m, args, below, meth, cd⟩ := X
  obtain ⟨hx, hb, hml, hr, hlk, hown, hts, hK, hR⟩ := C
  intro H locs ls hP hS hl
  subst hR
  have w : ∀ {c : Cond}, c ∈ lw_tbl → goodWord c = true → c.before args s = true := fun h1 h2 => hts _ (List.mem_cons_of_mem _ (bg_of h1 h2))
  exact va_mmax hx hb (hml.trans hl.1.symm) hown (w hw rfl) (w hF.1 rfl) (w hF.2.1 rfl) (w hF.2.2 rfl) hfr hlo (Nat.le_refl _) (Nat.le_refl _) hd (k H locs ls hP hS hl)
theorem V.mmin (C : Cx G X cc nL own ret fr lo cw) (hF : MMn) {ix : Nat} (hw : Cond.methodLink own ix Lib.Math.min.name ∈ lw_tbl) {x y : Int32} (hfr : 1 ≤ fr) (hlo : (st.map fun v => v.category).sum + 13 ≤ lo) (hd : decode cc pc = .ok (.invokestatic ix, 3)) (k : V G X nL ov Mf (pc + 3) lv (.int (jmin x y) :: st) M) : V G X nL ov Mf pc lv (.int y :: .int x :: st) M := by
  obtain ⟨p, l, e, R, s, m, args, below, meth, cd⟩ := X
  obtain ⟨hx, hb, hml, hr, hlk, hown, hts, hK, hR⟩ := C
  intro H locs ls hP hS hl
  subst hR
  have w : ∀ {c : Cond}, c ∈ lw_tbl → goodWord c = true → c.before args s = true := fun h1 h2 => hts _ (List.mem_cons_of_mem _ (bg_of h1 h2))
  exact va_mmin hx hb (hml.trans hl.1.symm) hown (w hw rfl) (w hF.1 rfl) (w hF.2.1 rfl) (w hF.2.2 rfl) hfr hlo (Nat.le_refl _) (Nat.le_refl _) hd (k H locs ls hP hS hl)
theorem V.mabs (C : Cx G X cc nL own ret fr lo cw) (hF : MMa) {ix : Nat} (hw : Cond.methodLink own ix Lib.Math.abs.name ∈ lw_tbl) {x : Int32} (hfr : 1 ≤ fr) (hlo : (st.map fun v => v.category).sum + 13 ≤ lo) (hd : decode cc pc = .ok (.invokestatic ix, 3)) (k : V G X nL ov Mf (pc + 3) lv (.int (jabs x) :: st) M) : V G X nL ov Mf pc lv (.int x :: st) M := by
  obtain ⟨p, l, e, R, s, m, args, below, meth, cd⟩ := X
  obtain ⟨hx, hb, hml, hr, hlk, hown, hts, hK, hR⟩ := C
  intro H locs ls hP hS hl
  subst hR
  have w : ∀ {c : Cond}, c ∈ lw_tbl → goodWord c = true → c.before args s = true := fun h1 h2 => hts _ (List.mem_cons_of_mem _ (bg_of h1 h2))
  exact va_mabs hx hb (hml.trans hl.1.symm) hown (w hw rfl) (w hF.1 rfl) (w hF.2.1 rfl) (w hF.2.2 rfl) hfr hlo (Nat.le_refl _) (Nat.le_refl _) hd (k H locs ls hP hS hl)
end VR5
end
section
theorem clX0 : vwCl[0]? = some (RX0, TX0, 8) := rfl
theorem clX1 : vwCl[1]? = some (RX1, TX1, 3) := rfl
theorem clX2 : vwCl[2]? = some (RX2, TX2, 9) := rfl
theorem clX3 : vwCl[3]? = some (RX3, TX3, 8) := rfl
theorem clX4 : vwCl[4]? = some (RX4, TX4, 2) := rfl
theorem clX5 : vwCl[5]? = some (RX5, TX5, 3) := rfl
theorem clX6 : vwCl[6]? = some (RX6, TX6, 6) := rfl
theorem clX7 : vwCl[7]? = some (RX7, TX7, 3) := rfl
theorem clX8 : vwCl[8]? = some (RX8, TX8, 10) := rfl
theorem clX9 : vwCl[9]? = some (RX9, TX9, 33) := rfl
theorem wC_J6_265 : Cond.constant RJ6 265 (1431655765) ∈ lw_tbl := List.mem_of_getElem? (i := 340) (by decide +kernel)
theorem wC_J6_266 : Cond.constant RJ6 266 (858993459) ∈ lw_tbl := List.mem_of_getElem? (i := 341) (by decide +kernel)
theorem wC_J6_267 : Cond.constant RJ6 267 (252645135) ∈ lw_tbl := List.mem_of_getElem? (i := 342) (by decide +kernel)
theorem wC_X2_49 : Cond.constant RX2 49 (2147483647) ∈ lw_tbl := List.mem_of_getElem? (i := 518) (by decide +kernel)
theorem wC_X7_29 : Cond.constant RX7 29 (65537) ∈ lw_tbl := List.mem_of_getElem? (i := 696) (by decide +kernel)
theorem wF_X0_15 : Cond.fieldLink RX0 15 "ParoleLedger$Books" "ranks" "[I" ∈ lw_tbl := List.mem_of_getElem? (i := 91) (by decide +kernel)
theorem wF_X0_19 : Cond.fieldLink RX0 19 "ParoleLedger$Books" "states" "[I" ∈ lw_tbl := List.mem_of_getElem? (i := 94) (by decide +kernel)
theorem wF_X0_22 : Cond.fieldLink RX0 22 "ParoleLedger$Books" "rates" "[I" ∈ lw_tbl := List.mem_of_getElem? (i := 96) (by decide +kernel)
theorem wF_X0_25 : Cond.fieldLink RX0 25 "ParoleLedger$Books" "sightCrowds" "[I" ∈ lw_tbl := List.mem_of_getElem? (i := 99) (by decide +kernel)
theorem wF_X0_28 : Cond.fieldLink RX0 28 "ParoleLedger$Books" "present" "I" ∈ lw_tbl := List.mem_of_getElem? (i := 82) (by decide +kernel)
theorem wF_X0_31 : Cond.fieldLink RX0 31 "ParoleLedger$Books" "sights" "I" ∈ lw_tbl := List.mem_of_getElem? (i := 87) (by decide +kernel)
theorem wF_X0_34 : Cond.fieldLink RX0 34 "ParoleLedger$Books" "evenSights" "I" ∈ lw_tbl := List.mem_of_getElem? (i := 89) (by decide +kernel)
theorem wF_X0_9 : Cond.fieldLink RX0 9 "ParoleLedger$Books" "trust" "I" ∈ lw_tbl := List.mem_of_getElem? (i := 84) (by decide +kernel)
theorem wF_X1_21 : Cond.fieldLink RX1 21 "ParoleLedger$Breaks" "officers" "I" ∈ lw_tbl := List.mem_of_getElem? (i := 244) (by decide +kernel)
theorem wF_X1_25 : Cond.fieldLink RX1 25 "ParoleLedger$Breaks" "allWays" "J" ∈ lw_tbl := List.mem_of_getElem? (i := 245) (by decide +kernel)
theorem wF_X1_9 : Cond.fieldLink RX1 9 "ParoleLedger$Breaks" "ways" "[J" ∈ lw_tbl := List.mem_of_getElem? (i := 243) (by decide +kernel)
theorem wF_X2_110 : Cond.fieldLink RX2 110 "ParoleLedger$Exchanges" "LACKING" "[J" ∈ lw_tbl := List.mem_of_getElem? (i := 567) (by decide +kernel)
theorem wF_X2_15 : Cond.fieldLink RX2 15 "ParoleLedger$Exchanges" "theirsWorth" "[I" ∈ lw_tbl := List.mem_of_getElem? (i := 185) (by decide +kernel)
theorem wF_X2_18 : Cond.fieldLink RX2 18 "ParoleLedger$Exchanges" "evenWith" "[J" ∈ lw_tbl := List.mem_of_getElem? (i := 186) (by decide +kernel)
theorem wF_X2_22 : Cond.fieldLink RX2 22 "ParoleLedger$Exchanges" "room" "[J" ∈ lw_tbl := List.mem_of_getElem? (i := 187) (by decide +kernel)
theorem wF_X2_25 : Cond.fieldLink RX2 25 "ParoleLedger$Exchanges" "nextRoom" "[J" ∈ lw_tbl := List.mem_of_getElem? (i := 188) (by decide +kernel)
theorem wF_X2_32 : Cond.fieldLink RX2 32 "ParoleLedger$Exchanges" "bestOurs" "I" ∈ lw_tbl := List.mem_of_getElem? (i := 178) (by decide +kernel)
theorem wF_X2_42 : Cond.fieldLink RX2 42 "ParoleLedger$Exchanges" "bestTheirs" "I" ∈ lw_tbl := List.mem_of_getElem? (i := 180) (by decide +kernel)
theorem wF_X2_50 : Cond.fieldLink RX2 50 "ParoleLedger$Exchanges" "openOurs" "I" ∈ lw_tbl := List.mem_of_getElem? (i := 182) (by decide +kernel)
theorem wF_X2_63 : Cond.fieldLink RX2 63 "ParoleLedger$Exchanges" "openTheirs" "I" ∈ lw_tbl := List.mem_of_getElem? (i := 183) (by decide +kernel)
theorem wF_X2_9 : Cond.fieldLink RX2 9 "ParoleLedger$Exchanges" "oursWorth" "[I" ∈ lw_tbl := List.mem_of_getElem? (i := 184) (by decide +kernel)
theorem wF_X3_12 : Cond.fieldLink RX3 12 "ParoleLedger$Months" "books" "LParoleLedger$Books;" ∈ lw_tbl := List.mem_of_getElem? (i := 143) (by decide +kernel)
theorem wF_X3_22 : Cond.fieldLink RX3 22 "ParoleLedger$Months" "acts" "I" ∈ lw_tbl := List.mem_of_getElem? (i := 145) (by decide +kernel)
theorem wF_X3_26 : Cond.fieldLink RX3 26 "ParoleLedger$Months" "exchanged" "I" ∈ lw_tbl := List.mem_of_getElem? (i := 147) (by decide +kernel)
theorem wF_X3_29 : Cond.fieldLink RX3 29 "ParoleLedger$Months" "why" "I" ∈ lw_tbl := List.mem_of_getElem? (i := 149) (by decide +kernel)
theorem wF_X3_32 : Cond.fieldLink RX3 32 "ParoleLedger$Months" "named" "I" ∈ lw_tbl := List.mem_of_getElem? (i := 151) (by decide +kernel)
theorem wF_X3_35 : Cond.fieldLink RX3 35 "ParoleLedger$Months" "inLots" "Z" ∈ lw_tbl := List.mem_of_getElem? (i := 152) (by decide +kernel)
theorem wF_X3_39 : Cond.fieldLink RX3 39 "ParoleLedger$Pad" "count" "I" ∈ lw_tbl := List.mem_of_getElem? (i := 128) (by decide +kernel)
theorem wF_X3_44 : Cond.fieldLink RX3 44 "ParoleLedger$Pad" "signs" "[I" ∈ lw_tbl := List.mem_of_getElem? (i := 126) (by decide +kernel)
theorem wF_X3_52 : Cond.fieldLink RX3 52 "ParoleLedger$Months" "crowd" "I" ∈ lw_tbl := List.mem_of_getElem? (i := 153) (by decide +kernel)
theorem wF_X3_55 : Cond.fieldLink RX3 55 "ParoleLedger$Months" "toldTwice" "Z" ∈ lw_tbl := List.mem_of_getElem? (i := 154) (by decide +kernel)
theorem wF_X4_15 : Cond.fieldLink RX4 15 "ParoleLedger$Pad" "count" "I" ∈ lw_tbl := List.mem_of_getElem? (i := 127) (by decide +kernel)
theorem wF_X4_9 : Cond.fieldLink RX4 9 "ParoleLedger$Pad" "signs" "[I" ∈ lw_tbl := List.mem_of_getElem? (i := 125) (by decide +kernel)
theorem wF_X5_15 : Cond.fieldLink RX5 15 "ParoleLedger$Rests" "fewest" "I" ∈ lw_tbl := List.mem_of_getElem? (i := 261) (by decide +kernel)
theorem wF_X5_18 : Cond.fieldLink RX5 18 "ParoleLedger$Rests" "most" "I" ∈ lw_tbl := List.mem_of_getElem? (i := 263) (by decide +kernel)
theorem wF_X5_9 : Cond.fieldLink RX5 9 "ParoleLedger$Rests" "sets" "I" ∈ lw_tbl := List.mem_of_getElem? (i := 259) (by decide +kernel)
theorem wF_X6_11 : Cond.fieldLink RX6 11 "ParoleLedger$Worlds" "who" "[I" ∈ lw_tbl := List.mem_of_getElem? (i := 221) (by decide +kernel)
theorem wF_X6_15 : Cond.fieldLink RX6 15 "ParoleLedger$Worlds" "had" "[I" ∈ lw_tbl := List.mem_of_getElem? (i := 222) (by decide +kernel)
theorem wF_X6_18 : Cond.fieldLink RX6 18 "ParoleLedger$Worlds" "leads" "[I" ∈ lw_tbl := List.mem_of_getElem? (i := 223) (by decide +kernel)
theorem wF_X6_21 : Cond.fieldLink RX6 21 "ParoleLedger$Books" "sights" "I" ∈ lw_tbl := List.mem_of_getElem? (i := 86) (by decide +kernel)
theorem wF_X6_27 : Cond.fieldLink RX6 27 "ParoleLedger$Books" "sightCrowds" "[I" ∈ lw_tbl := List.mem_of_getElem? (i := 100) (by decide +kernel)
theorem wF_X6_34 : Cond.fieldLink RX6 34 "ParoleLedger$Worlds" "count" "I" ∈ lw_tbl := List.mem_of_getElem? (i := 215) (by decide +kernel)
theorem wF_X6_45 : Cond.fieldLink RX6 45 "ParoleLedger$Books" "ranks" "[I" ∈ lw_tbl := List.mem_of_getElem? (i := 92) (by decide +kernel)
theorem wF_X6_48 : Cond.fieldLink RX6 48 "ParoleLedger$Books" "rates" "[I" ∈ lw_tbl := List.mem_of_getElem? (i := 97) (by decide +kernel)
theorem wF_X6_54 : Cond.fieldLink RX6 54 "ParoleLedger$Books" "evenSights" "I" ∈ lw_tbl := List.mem_of_getElem? (i := 90) (by decide +kernel)
theorem wF_X6_57 : Cond.fieldLink RX6 57 "ParoleLedger$Worlds" "bestPair" "I" ∈ lw_tbl := List.mem_of_getElem? (i := 217) (by decide +kernel)
theorem wF_X6_60 : Cond.fieldLink RX6 60 "ParoleLedger$Worlds" "bestLeft" "I" ∈ lw_tbl := List.mem_of_getElem? (i := 219) (by decide +kernel)
theorem wF_X7_12 : Cond.fieldLink RX7 12 "ParoleLedger$Year" "books" "LParoleLedger$Books;" ∈ lw_tbl := List.mem_of_getElem? (i := 280) (by decide +kernel)
theorem wF_X7_22 : Cond.fieldLink RX7 22 "ParoleLedger$Year" "exchanged" "I" ∈ lw_tbl := List.mem_of_getElem? (i := 282) (by decide +kernel)
theorem wF_X7_26 : Cond.fieldLink RX7 26 "ParoleLedger$Year" "brokenWords" "I" ∈ lw_tbl := List.mem_of_getElem? (i := 284) (by decide +kernel)
theorem wF_X8_102 : Cond.fieldLink RX8 102 "ParoleLedger$Pad" "count" "I" ∈ lw_tbl := List.mem_of_getElem? (i := 129) (by decide +kernel)
theorem wF_X8_12 : Cond.fieldLink RX8 12 "ParoleLedger" "now" "LParoleLedger$Books;" ∈ lw_tbl := List.mem_of_getElem? (i := 294) (by decide +kernel)
theorem wF_X8_122 : Cond.fieldLink RX8 122 "ParoleLedger$Months" "exchanged" "I" ∈ lw_tbl := List.mem_of_getElem? (i := 148) (by decide +kernel)
theorem wF_X8_125 : Cond.fieldLink RX8 125 "ParoleLedger$Months" "books" "LParoleLedger$Books;" ∈ lw_tbl := List.mem_of_getElem? (i := 144) (by decide +kernel)
theorem wF_X8_128 : Cond.fieldLink RX8 128 "ParoleLedger$Books" "states" "[I" ∈ lw_tbl := List.mem_of_getElem? (i := 95) (by decide +kernel)
theorem wF_X8_131 : Cond.fieldLink RX8 131 "ParoleLedger$Books" "ranks" "[I" ∈ lw_tbl := List.mem_of_getElem? (i := 93) (by decide +kernel)
theorem wF_X8_149 : Cond.fieldLink RX8 149 "ParoleLedger$Months" "acts" "I" ∈ lw_tbl := List.mem_of_getElem? (i := 146) (by decide +kernel)
theorem wF_X8_155 : Cond.fieldLink RX8 155 "ParoleLedger$Exchanges" "bestOurs" "I" ∈ lw_tbl := List.mem_of_getElem? (i := 179) (by decide +kernel)
theorem wF_X8_166 : Cond.fieldLink RX8 166 "ParoleLedger$Exchanges" "bestTheirs" "I" ∈ lw_tbl := List.mem_of_getElem? (i := 181) (by decide +kernel)
theorem wF_X8_184 : Cond.fieldLink RX8 184 "ParoleLedger$Books" "sights" "I" ∈ lw_tbl := List.mem_of_getElem? (i := 88) (by decide +kernel)
theorem wF_X8_19 : Cond.fieldLink RX8 19 "ParoleLedger" "pad" "LParoleLedger$Pad;" ∈ lw_tbl := List.mem_of_getElem? (i := 295) (by decide +kernel)
theorem wF_X8_194 : Cond.fieldLink RX8 194 "ParoleLedger$Worlds" "count" "I" ∈ lw_tbl := List.mem_of_getElem? (i := 216) (by decide +kernel)
theorem wF_X8_204 : Cond.fieldLink RX8 204 "ParoleLedger$Worlds" "bestPair" "I" ∈ lw_tbl := List.mem_of_getElem? (i := 218) (by decide +kernel)
theorem wF_X8_207 : Cond.fieldLink RX8 207 "ParoleLedger$Worlds" "bestLeft" "I" ∈ lw_tbl := List.mem_of_getElem? (i := 220) (by decide +kernel)
theorem wF_X8_233 : Cond.fieldLink RX8 233 "ParoleLedger$Rests" "sets" "I" ∈ lw_tbl := List.mem_of_getElem? (i := 260) (by decide +kernel)
theorem wF_X8_236 : Cond.fieldLink RX8 236 "ParoleLedger$Rests" "fewest" "I" ∈ lw_tbl := List.mem_of_getElem? (i := 262) (by decide +kernel)
theorem wF_X8_239 : Cond.fieldLink RX8 239 "ParoleLedger$Rests" "most" "I" ∈ lw_tbl := List.mem_of_getElem? (i := 264) (by decide +kernel)
theorem wF_X8_246 : Cond.fieldLink RX8 246 "ParoleLedger$Year" "exchanged" "I" ∈ lw_tbl := List.mem_of_getElem? (i := 283) (by decide +kernel)
theorem wF_X8_247 : Cond.fieldLink RX8 247 "ParoleLedger$Year" "brokenWords" "I" ∈ lw_tbl := List.mem_of_getElem? (i := 285) (by decide +kernel)
theorem wF_X8_250 : Cond.fieldLink RX8 250 "ParoleLedger$Year" "books" "LParoleLedger$Books;" ∈ lw_tbl := List.mem_of_getElem? (i := 281) (by decide +kernel)
theorem wF_X8_258 : Cond.fieldLink RX8 258 "ParoleLedger$Months" "why" "I" ∈ lw_tbl := List.mem_of_getElem? (i := 150) (by decide +kernel)
theorem wF_X8_26 : Cond.fieldLink RX8 26 "ParoleLedger" "months" "LParoleLedger$Months;" ∈ lw_tbl := List.mem_of_getElem? (i := 296) (by decide +kernel)
theorem wF_X8_33 : Cond.fieldLink RX8 33 "ParoleLedger" "exchanges" "LParoleLedger$Exchanges;" ∈ lw_tbl := List.mem_of_getElem? (i := 297) (by decide +kernel)
theorem wF_X8_40 : Cond.fieldLink RX8 40 "ParoleLedger" "worlds" "LParoleLedger$Worlds;" ∈ lw_tbl := List.mem_of_getElem? (i := 298) (by decide +kernel)
theorem wF_X8_47 : Cond.fieldLink RX8 47 "ParoleLedger" "breaks" "LParoleLedger$Breaks;" ∈ lw_tbl := List.mem_of_getElem? (i := 299) (by decide +kernel)
theorem wF_X8_54 : Cond.fieldLink RX8 54 "ParoleLedger" "resting" "LParoleLedger$Rests;" ∈ lw_tbl := List.mem_of_getElem? (i := 300) (by decide +kernel)
theorem wF_X8_61 : Cond.fieldLink RX8 61 "ParoleLedger" "course" "LParoleLedger$Year;" ∈ lw_tbl := List.mem_of_getElem? (i := 301) (by decide +kernel)
theorem wF_X8_65 : Cond.fieldLink RX8 65 "ParoleLedger" "images" "[LParoleLedger$Books;" ∈ lw_tbl := List.mem_of_getElem? (i := 302) (by decide +kernel)
theorem wF_X8_69 : Cond.fieldLink RX8 69 "ParoleLedger" "kept" "[Z" ∈ lw_tbl := List.mem_of_getElem? (i := 303) (by decide +kernel)
theorem wF_X8_81 : Cond.fieldLink RX8 81 "ParoleLedger$Books" "present" "I" ∈ lw_tbl := List.mem_of_getElem? (i := 83) (by decide +kernel)
theorem wF_X8_95 : Cond.fieldLink RX8 95 "ParoleLedger$Books" "rates" "[I" ∈ lw_tbl := List.mem_of_getElem? (i := 98) (by decide +kernel)
theorem wF_X8_99 : Cond.fieldLink RX8 99 "ParoleLedger$Books" "trust" "I" ∈ lw_tbl := List.mem_of_getElem? (i := 85) (by decide +kernel)
theorem wF_X9_108 : Cond.fieldLink RX9 108 "ParoleLedgerModel" "acts" "I" ∈ lw_tbl := List.mem_of_getElem? (i := 749) (by decide +kernel)
theorem wF_X9_13 : Cond.fieldLink RX9 13 "ParoleLedgerModel" "is" "[I" ∈ lw_tbl := List.mem_of_getElem? (i := 738) (by decide +kernel)
theorem wF_X9_153 : Cond.fieldLink RX9 153 "ParoleLedgerModel" "brokenWords" "I" ∈ lw_tbl := List.mem_of_getElem? (i := 751) (by decide +kernel)
theorem wF_X9_156 : Cond.fieldLink RX9 156 "ParoleLedgerModel" "exchanges" "I" ∈ lw_tbl := List.mem_of_getElem? (i := 750) (by decide +kernel)
theorem wF_X9_16 : Cond.fieldLink RX9 16 "ParoleLedgerModel" "rates" "[I" ∈ lw_tbl := List.mem_of_getElem? (i := 739) (by decide +kernel)
theorem wF_X9_165 : Cond.fieldLink RX9 165 "ParoleLedgerModel" "badAct" "I" ∈ lw_tbl := List.mem_of_getElem? (i := 754) (by decide +kernel)
theorem wF_X9_168 : Cond.fieldLink RX9 168 "ParoleLedgerModel" "badWhy" "I" ∈ lw_tbl := List.mem_of_getElem? (i := 755) (by decide +kernel)
theorem wF_X9_19 : Cond.fieldLink RX9 19 "ParoleLedgerModel" "sightOurs" "[I" ∈ lw_tbl := List.mem_of_getElem? (i := 740) (by decide +kernel)
theorem wF_X9_193 : Cond.fieldLink RX9 193 "ParoleLedgerModel" "oursThen" "I" ∈ lw_tbl := List.mem_of_getElem? (i := 756) (by decide +kernel)
theorem wF_X9_196 : Cond.fieldLink RX9 196 "ParoleLedgerModel" "theirsThen" "I" ∈ lw_tbl := List.mem_of_getElem? (i := 757) (by decide +kernel)
theorem wF_X9_207 : Cond.fieldLink RX9 207 "ParoleLedgerModel" "bestOurs" "I" ∈ lw_tbl := List.mem_of_getElem? (i := 758) (by decide +kernel)
theorem wF_X9_210 : Cond.fieldLink RX9 210 "ParoleLedgerModel" "bestTheirs" "I" ∈ lw_tbl := List.mem_of_getElem? (i := 759) (by decide +kernel)
theorem wF_X9_22 : Cond.fieldLink RX9 22 "ParoleLedgerModel" "sightTheirs" "[I" ∈ lw_tbl := List.mem_of_getElem? (i := 741) (by decide +kernel)
theorem wF_X9_233 : Cond.fieldLink RX9 233 "ParoleLedgerModel" "sights" "I" ∈ lw_tbl := List.mem_of_getElem? (i := 743) (by decide +kernel)
theorem wF_X9_243 : Cond.fieldLink RX9 243 "ParoleLedgerModel" "worlds" "I" ∈ lw_tbl := List.mem_of_getElem? (i := 762) (by decide +kernel)
theorem wF_X9_25 : Cond.fieldLink RX9 25 "ParoleLedgerModel" "sightEven" "[I" ∈ lw_tbl := List.mem_of_getElem? (i := 742) (by decide +kernel)
theorem wF_X9_276 : Cond.fieldLink RX9 276 "ParoleLedgerModel" "isWriting" "Z" ∈ lw_tbl := List.mem_of_getElem? (i := 767) (by decide +kernel)
theorem wF_X9_28 : Cond.fieldLink RX9 28 "ParoleLedgerModel" "pad" "[I" ∈ lw_tbl := List.mem_of_getElem? (i := 744) (by decide +kernel)
theorem wF_X9_280 : Cond.fieldLink RX9 280 "ParoleLedgerModel" "keptAt" "I" ∈ lw_tbl := List.mem_of_getElem? (i := 766) (by decide +kernel)
theorem wF_X9_31 : Cond.fieldLink RX9 31 "ParoleLedgerModel" "act" "[I" ∈ lw_tbl := List.mem_of_getElem? (i := 746) (by decide +kernel)
theorem wF_X9_34 : Cond.fieldLink RX9 34 "ParoleLedgerModel" "lot" "[I" ∈ lw_tbl := List.mem_of_getElem? (i := 747) (by decide +kernel)
theorem wF_X9_37 : Cond.fieldLink RX9 37 "ParoleLedgerModel" "twice" "[I" ∈ lw_tbl := List.mem_of_getElem? (i := 748) (by decide +kernel)
theorem wF_X9_40 : Cond.fieldLink RX9 40 "ParoleLedgerModel" "had" "[I" ∈ lw_tbl := List.mem_of_getElem? (i := 752) (by decide +kernel)
theorem wF_X9_43 : Cond.fieldLink RX9 43 "ParoleLedgerModel" "leaves" "[I" ∈ lw_tbl := List.mem_of_getElem? (i := 753) (by decide +kernel)
theorem wF_X9_46 : Cond.fieldLink RX9 46 "ParoleLedgerModel" "evens" "[I" ∈ lw_tbl := List.mem_of_getElem? (i := 760) (by decide +kernel)
theorem wF_X9_49 : Cond.fieldLink RX9 49 "ParoleLedgerModel" "worldAt" "[I" ∈ lw_tbl := List.mem_of_getElem? (i := 761) (by decide +kernel)
theorem wF_X9_52 : Cond.fieldLink RX9 52 "ParoleLedgerModel" "parts" "[J" ∈ lw_tbl := List.mem_of_getElem? (i := 763) (by decide +kernel)
theorem wF_X9_56 : Cond.fieldLink RX9 56 "ParoleLedgerModel" "kept" "[I" ∈ lw_tbl := List.mem_of_getElem? (i := 764) (by decide +kernel)
theorem wF_X9_59 : Cond.fieldLink RX9 59 "ParoleLedgerModel" "isKept" "[Z" ∈ lw_tbl := List.mem_of_getElem? (i := 765) (by decide +kernel)
theorem wF_X9_63 : Cond.fieldLink RX9 63 "ParoleLedgerModel" "trusted" "I" ∈ lw_tbl := List.mem_of_getElem? (i := 736) (by decide +kernel)
theorem wF_X9_7 : Cond.fieldLink RX9 7 "ParoleLedgerModel" "ranks" "[I" ∈ lw_tbl := List.mem_of_getElem? (i := 737) (by decide +kernel)
theorem wF_X9_73 : Cond.fieldLink RX9 73 "ParoleLedgerModel" "officers" "I" ∈ lw_tbl := List.mem_of_getElem? (i := 735) (by decide +kernel)
theorem wF_X9_97 : Cond.fieldLink RX9 97 "ParoleLedgerModel" "padMany" "I" ∈ lw_tbl := List.mem_of_getElem? (i := 745) (by decide +kernel)
theorem wL_X1_35 : Cond.constantLong RX1 35 (10) ∈ lw_tbl := List.mem_of_getElem? (i := 662) (by decide +kernel)
theorem wL_X2_85 : Cond.constantLong RX2 85 (-1) ∈ lw_tbl := List.mem_of_getElem? (i := 556) (by decide +kernel)
theorem wL_X8_210 : Cond.constantLong RX8 210 (-1000000000000000002) ∈ lw_tbl := List.mem_of_getElem? (i := 655) (by decide +kernel)
theorem wL_X9_100 : Cond.constantLong RX9 100 (65) ∈ lw_tbl := List.mem_of_getElem? (i := 889) (by decide +kernel)
theorem wL_X9_102 : Cond.constantLong RX9 102 (70) ∈ lw_tbl := List.mem_of_getElem? (i := 890) (by decide +kernel)
theorem wL_X9_104 : Cond.constantLong RX9 104 (97) ∈ lw_tbl := List.mem_of_getElem? (i := 894) (by decide +kernel)
theorem wL_X9_106 : Cond.constantLong RX9 106 (102) ∈ lw_tbl := List.mem_of_getElem? (i := 895) (by decide +kernel)
theorem wL_X9_202 : Cond.constantLong RX9 202 (2) ∈ lw_tbl := List.mem_of_getElem? (i := 912) (by decide +kernel)
theorem wL_X9_231 : Cond.constantLong RX9 231 (63) ∈ lw_tbl := List.mem_of_getElem? (i := 1037) (by decide +kernel)
theorem wL_X9_255 : Cond.constantLong RX9 255 (10) ∈ lw_tbl := List.mem_of_getElem? (i := 1078) (by decide +kernel)
theorem wL_X9_257 : Cond.constantLong RX9 257 (-1) ∈ lw_tbl := List.mem_of_getElem? (i := 1079) (by decide +kernel)
theorem wL_X9_259 : Cond.constantLong RX9 259 (-1000000000000000002) ∈ lw_tbl := List.mem_of_getElem? (i := 1080) (by decide +kernel)
theorem wL_X9_268 : Cond.constantLong RX9 268 (9999) ∈ lw_tbl := List.mem_of_getElem? (i := 1096) (by decide +kernel)
theorem wL_X9_270 : Cond.constantLong RX9 270 (75) ∈ lw_tbl := List.mem_of_getElem? (i := 1097) (by decide +kernel)
theorem wL_X9_272 : Cond.constantLong RX9 272 (74) ∈ lw_tbl := List.mem_of_getElem? (i := 1098) (by decide +kernel)
theorem wL_X9_274 : Cond.constantLong RX9 274 (65537) ∈ lw_tbl := List.mem_of_getElem? (i := 1099) (by decide +kernel)
theorem wL_X9_289 : Cond.constantLong RX9 289 (40) ∈ lw_tbl := List.mem_of_getElem? (i := 1120) (by decide +kernel)
theorem wL_X9_291 : Cond.constantLong RX9 291 (51) ∈ lw_tbl := List.mem_of_getElem? (i := 1121) (by decide +kernel)
theorem wL_X9_293 : Cond.constantLong RX9 293 (20) ∈ lw_tbl := List.mem_of_getElem? (i := 1122) (by decide +kernel)
theorem wL_X9_295 : Cond.constantLong RX9 295 (31) ∈ lw_tbl := List.mem_of_getElem? (i := 1123) (by decide +kernel)
theorem wL_X9_297 : Cond.constantLong RX9 297 (15) ∈ lw_tbl := List.mem_of_getElem? (i := 1124) (by decide +kernel)
theorem wL_X9_67 : Cond.constantLong RX9 67 (11) ∈ lw_tbl := List.mem_of_getElem? (i := 839) (by decide +kernel)
theorem wL_X9_76 : Cond.constantLong RX9 76 (5) ∈ lw_tbl := List.mem_of_getElem? (i := 846) (by decide +kernel)
theorem wL_X9_89 : Cond.constantLong RX9 89 (99) ∈ lw_tbl := List.mem_of_getElem? (i := 862) (by decide +kernel)
theorem wL_X9_91 : Cond.constantLong RX9 91 (9) ∈ lw_tbl := List.mem_of_getElem? (i := 867) (by decide +kernel)
theorem wL_X9_93 : Cond.constantLong RX9 93 (33) ∈ lw_tbl := List.mem_of_getElem? (i := 872) (by decide +kernel)
theorem wL_X9_95 : Cond.constantLong RX9 95 (126) ∈ lw_tbl := List.mem_of_getElem? (i := 873) (by decide +kernel)
theorem wM_X0_43 : Cond.methodLink RX0 43 yX0_crowdIn ∈ lw_tbl := List.mem_of_getElem? (i := 420) (by decide +kernel)
theorem wM_X0_47 : Cond.methodLink RX0 47 yX0_worth ∈ lw_tbl := List.mem_of_getElem? (i := 428) (by decide +kernel)
theorem wM_X0_50 : Cond.methodLink RX0 50 yX0_isThere ∈ lw_tbl := List.mem_of_getElem? (i := 453) (by decide +kernel)
theorem wM_X0_54 : Cond.methodLink RX0 54 yX0_statesFor ∈ lw_tbl := List.mem_of_getElem? (i := 454) (by decide +kernel)
theorem wM_X0_57 : Cond.methodLink RX0 57 yX0_lead ∈ lw_tbl := List.mem_of_getElem? (i := 424) (by decide +kernel)
theorem wM_X0_60 : Cond.methodLink RX0 60 Lib.Math.max.name ∈ lw_tbl := List.mem_of_getElem? (i := 461) (by decide +kernel)
theorem wM_X0_66 : Cond.methodLink RX0 66 Lib.Math.min.name ∈ lw_tbl := List.mem_of_getElem? (i := 436) (by decide +kernel)
theorem wM_X1_15 : Cond.methodLink RX1 15 Lib.Math.min.name ∈ lw_tbl := List.mem_of_getElem? (i := 660) (by decide +kernel)
theorem wM_X1_29 : Cond.methodLink RX1 29 yJ7_fill_d0a16 ∈ lw_tbl := List.mem_of_getElem? (i := 661) (by decide +kernel)
theorem wM_X1_37 : Cond.methodLink RX1 37 Lib.Math.max.name ∈ lw_tbl := List.mem_of_getElem? (i := 667) (by decide +kernel)
theorem wM_X1_40 : Cond.methodLink RX1 40 yX1_commonDivisor ∈ lw_tbl := List.mem_of_getElem? (i := 676) (by decide +kernel)
theorem wM_X2_100 : Cond.methodLink RX2 100 yX2_withGreaterLots ∈ lw_tbl := List.mem_of_getElem? (i := 564) (by decide +kernel)
theorem wM_X2_28 : Cond.methodLink RX2 28 yX2_find ∈ lw_tbl := List.mem_of_getElem? (i := 502) (by decide +kernel)
theorem wM_X2_36 : Cond.methodLink RX2 36 yJ6_bitCount_0f7a4 ∈ lw_tbl := List.mem_of_getElem? (i := 526) (by decide +kernel)
theorem wM_X2_45 : Cond.methodLink RX2 45 yX2_weighLots ∈ lw_tbl := List.mem_of_getElem? (i := 506) (by decide +kernel)
theorem wM_X2_53 : Cond.methodLink RX2 53 yX2_bestWith ∈ lw_tbl := List.mem_of_getElem? (i := 519) (by decide +kernel)
theorem wM_X2_57 : Cond.methodLink RX2 57 Lib.Math.min.name ∈ lw_tbl := List.mem_of_getElem? (i := 527) (by decide +kernel)
theorem wM_X2_66 : Cond.methodLink RX2 66 yX2_order ∈ lw_tbl := List.mem_of_getElem? (i := 523) (by decide +kernel)
theorem wM_X2_70 : Cond.methodLink RX2 70 yX0_lotIn ∈ lw_tbl := List.mem_of_getElem? (i := 510) (by decide +kernel)
theorem wM_X2_75 : Cond.methodLink RX2 75 yX2_sumLots ∈ lw_tbl := List.mem_of_getElem? (i := 514) (by decide +kernel)
theorem wM_X2_79 : Cond.methodLink RX2 79 yX0_worth ∈ lw_tbl := List.mem_of_getElem? (i := 517) (by decide +kernel)
theorem wM_X2_82 : Cond.methodLink RX2 82 yX2_markEven ∈ lw_tbl := List.mem_of_getElem? (i := 548) (by decide +kernel)
theorem wM_X2_87 : Cond.methodLink RX2 87 yJ7_fill_d0a16 ∈ lw_tbl := List.mem_of_getElem? (i := 557) (by decide +kernel)
theorem wM_X2_93 : Cond.methodLink RX2 93 yX2_makeRoomForOneMore ∈ lw_tbl := List.mem_of_getElem? (i := 560) (by decide +kernel)
theorem wM_X2_96 : Cond.methodLink RX2 96 yX2_lotsEvenWith ∈ lw_tbl := List.mem_of_getElem? (i := 552) (by decide +kernel)
theorem wM_X3_18 : Cond.methodLink RX3 18 yX0_copyFrom ∈ lw_tbl := List.mem_of_getElem? (i := 401) (by decide +kernel)
theorem wM_X3_48 : Cond.methodLink RX3 48 yX3_take ∈ lw_tbl := List.mem_of_getElem? (i := 408) (by decide +kernel)
theorem wM_X3_58 : Cond.methodLink RX3 58 yX3_endExchange ∈ lw_tbl := List.mem_of_getElem? (i := 412) (by decide +kernel)
theorem wM_X3_61 : Cond.methodLink RX3 61 yX4_officerOf ∈ lw_tbl := List.mem_of_getElem? (i := 439) (by decide +kernel)
theorem wM_X3_65 : Cond.methodLink RX3 65 yX3_gather ∈ lw_tbl := List.mem_of_getElem? (i := 440) (by decide +kernel)
theorem wM_X3_68 : Cond.methodLink RX3 68 yX4_deedOf ∈ lw_tbl := List.mem_of_getElem? (i := 444) (by decide +kernel)
theorem wM_X3_71 : Cond.methodLink RX3 71 yX3_endDeed ∈ lw_tbl := List.mem_of_getElem? (i := 445) (by decide +kernel)
theorem wM_X3_74 : Cond.methodLink RX3 74 yX0_whyNoExchange ∈ lw_tbl := List.mem_of_getElem? (i := 416) (by decide +kernel)
theorem wM_X3_78 : Cond.methodLink RX3 78 yX0_setFree ∈ lw_tbl := List.mem_of_getElem? (i := 432) (by decide +kernel)
theorem wM_X3_81 : Cond.methodLink RX3 81 yX0_whyNot ∈ lw_tbl := List.mem_of_getElem? (i := 449) (by decide +kernel)
theorem wM_X3_85 : Cond.methodLink RX3 85 yX0_carryOut ∈ lw_tbl := List.mem_of_getElem? (i := 457) (by decide +kernel)
theorem wM_X4_19 : Cond.methodLink RX4 19 yX4_next ∈ lw_tbl := List.mem_of_getElem? (i := 379) (by decide +kernel)
theorem wM_X4_23 : Cond.methodLink RX4 23 yX4_officerOf ∈ lw_tbl := List.mem_of_getElem? (i := 382) (by decide +kernel)
theorem wM_X4_27 : Cond.methodLink RX4 27 yX4_deedOf ∈ lw_tbl := List.mem_of_getElem? (i := 386) (by decide +kernel)
theorem wM_X6_30 : Cond.methodLink RX6 30 yX0_lead ∈ lw_tbl := List.mem_of_getElem? (i := 611) (by decide +kernel)
theorem wM_X6_37 : Cond.methodLink RX6 37 yX6_addIfFits ∈ lw_tbl := List.mem_of_getElem? (i := 612) (by decide +kernel)
theorem wM_X6_41 : Cond.methodLink RX6 41 yX0_isThere ∈ lw_tbl := List.mem_of_getElem? (i := 617) (by decide +kernel)
theorem wM_X6_51 : Cond.methodLink RX6 51 yX0_worth ∈ lw_tbl := List.mem_of_getElem? (i := 616) (by decide +kernel)
theorem wM_X6_63 : Cond.methodLink RX6 63 yX6_mostLeft ∈ lw_tbl := List.mem_of_getElem? (i := 638) (by decide +kernel)
theorem wM_X6_67 : Cond.methodLink RX6 67 yX6_offerPair ∈ lw_tbl := List.mem_of_getElem? (i := 647) (by decide +kernel)
theorem wM_X6_71 : Cond.methodLink RX6 71 yX6_worthIn ∈ lw_tbl := List.mem_of_getElem? (i := 642) (by decide +kernel)
theorem wM_X6_74 : Cond.methodLink RX6 74 Lib.Math.max.name ∈ lw_tbl := List.mem_of_getElem? (i := 646) (by decide +kernel)
theorem wM_X7_18 : Cond.methodLink RX7 18 yX0_copyFrom ∈ lw_tbl := List.mem_of_getElem? (i := 695) (by decide +kernel)
theorem wM_X7_30 : Cond.methodLink RX7 30 yX7_draw ∈ lw_tbl := List.mem_of_getElem? (i := 697) (by decide +kernel)
theorem wM_X7_34 : Cond.methodLink RX7 34 yX7_tryDeed ∈ lw_tbl := List.mem_of_getElem? (i := 701) (by decide +kernel)
theorem wM_X7_38 : Cond.methodLink RX7 38 yX7_tryExchange ∈ lw_tbl := List.mem_of_getElem? (i := 707) (by decide +kernel)
theorem wM_X7_41 : Cond.methodLink RX7 41 yX0_whyNot ∈ lw_tbl := List.mem_of_getElem? (i := 705) (by decide +kernel)
theorem wM_X7_45 : Cond.methodLink RX7 45 yX0_carryOut ∈ lw_tbl := List.mem_of_getElem? (i := 706) (by decide +kernel)
theorem wM_X7_48 : Cond.methodLink RX7 48 yX0_whyNoExchange ∈ lw_tbl := List.mem_of_getElem? (i := 711) (by decide +kernel)
theorem wM_X7_52 : Cond.methodLink RX7 52 yX0_setFree ∈ lw_tbl := List.mem_of_getElem? (i := 712) (by decide +kernel)
theorem wM_X8_105 : Cond.methodLink RX8 105 yX4_write ∈ lw_tbl := List.mem_of_getElem? (i := 363) (by decide +kernel)
theorem wM_X8_109 : Cond.methodLink RX8 109 yX4_firstFault ∈ lw_tbl := List.mem_of_getElem? (i := 375) (by decide +kernel)
theorem wM_X8_113 : Cond.methodLink RX8 113 yX8_readMonths ∈ lw_tbl := List.mem_of_getElem? (i := 393) (by decide +kernel)
theorem wM_X8_116 : Cond.methodLink RX8 116 yX3_failedAct ∈ lw_tbl := List.mem_of_getElem? (i := 464) (by decide +kernel)
theorem wM_X8_119 : Cond.methodLink RX8 119 yX3_failedWhy ∈ lw_tbl := List.mem_of_getElem? (i := 468) (by decide +kernel)
theorem wM_X8_134 : Cond.methodLink RX8 134 yX0_crowdIn ∈ lw_tbl := List.mem_of_getElem? (i := 480) (by decide +kernel)
theorem wM_X8_137 : Cond.methodLink RX8 137 yX0_lead ∈ lw_tbl := List.mem_of_getElem? (i := 481) (by decide +kernel)
theorem wM_X8_140 : Cond.methodLink RX8 140 Lib.Math.abs.name ∈ lw_tbl := List.mem_of_getElem? (i := 482) (by decide +kernel)
theorem wM_X8_145 : Cond.methodLink RX8 145 yX0_copyFrom ∈ lw_tbl := List.mem_of_getElem? (i := 489) (by decide +kernel)
theorem wM_X8_152 : Cond.methodLink RX8 152 yX2_findForMost ∈ lw_tbl := List.mem_of_getElem? (i := 498) (by decide +kernel)
theorem wM_X8_158 : Cond.methodLink RX8 158 yX2_answer ∈ lw_tbl := List.mem_of_getElem? (i := 528) (by decide +kernel)
theorem wM_X8_162 : Cond.methodLink RX8 162 yX2_findForOne ∈ lw_tbl := List.mem_of_getElem? (i := 536) (by decide +kernel)
theorem wM_X8_169 : Cond.methodLink RX8 169 yX2_mostInARow ∈ lw_tbl := List.mem_of_getElem? (i := 544) (by decide +kernel)
theorem wM_X8_173 : Cond.methodLink RX8 173 yX8_bothSidesOpen ∈ lw_tbl := List.mem_of_getElem? (i := 574) (by decide +kernel)
theorem wM_X8_177 : Cond.methodLink RX8 177 yX0_evenRate ∈ lw_tbl := List.mem_of_getElem? (i := 583) (by decide +kernel)
theorem wM_X8_180 : Cond.methodLink RX8 180 yX0_areThere ∈ lw_tbl := List.mem_of_getElem? (i := 591) (by decide +kernel)
theorem wM_X8_187 : Cond.methodLink RX8 187 yX0_addSight ∈ lw_tbl := List.mem_of_getElem? (i := 595) (by decide +kernel)
theorem wM_X8_191 : Cond.methodLink RX8 191 yX6_find ∈ lw_tbl := List.mem_of_getElem? (i := 607) (by decide +kernel)
theorem wM_X8_195 : Cond.methodLink RX8 195 yX6_forgers ∈ lw_tbl := List.mem_of_getElem? (i := 618) (by decide +kernel)
theorem wM_X8_198 : Cond.methodLink RX8 198 yX6_leastRank ∈ lw_tbl := List.mem_of_getElem? (i := 626) (by decide +kernel)
theorem wM_X8_201 : Cond.methodLink RX8 201 yX6_choosePair ∈ lw_tbl := List.mem_of_getElem? (i := 634) (by decide +kernel)
theorem wM_X8_212 : Cond.methodLink RX8 212 yX1_spread ∈ lw_tbl := List.mem_of_getElem? (i := 656) (by decide +kernel)
theorem wM_X8_215 : Cond.methodLink RX8 215 yX1_trustSum ∈ lw_tbl := List.mem_of_getElem? (i := 663) (by decide +kernel)
theorem wM_X8_219 : Cond.methodLink RX8 219 yX1_waysToKeep ∈ lw_tbl := List.mem_of_getElem? (i := 668) (by decide +kernel)
theorem wM_X8_223 : Cond.methodLink RX8 223 yX1_lowestTerms ∈ lw_tbl := List.mem_of_getElem? (i := 672) (by decide +kernel)
theorem wM_X8_227 : Cond.methodLink RX8 227 yX0_lotIn ∈ lw_tbl := List.mem_of_getElem? (i := 578) (by decide +kernel)
theorem wM_X8_230 : Cond.methodLink RX8 230 yX5_count ∈ lw_tbl := List.mem_of_getElem? (i := 683) (by decide +kernel)
theorem wM_X8_242 : Cond.methodLink RX8 242 yX7_pass ∈ lw_tbl := List.mem_of_getElem? (i := 691) (by decide +kernel)
theorem wM_X8_251 : Cond.methodLink RX8 251 yX8_toldCount ∈ lw_tbl := List.mem_of_getElem? (i := 725) (by decide +kernel)
theorem wM_X8_254 : Cond.methodLink RX8 254 yX3_read ∈ lw_tbl := List.mem_of_getElem? (i := 397) (by decide +kernel)
theorem wM_X8_73 : Cond.methodLink RX8 73 yX8_isWithin ∈ lw_tbl := List.mem_of_getElem? (i := 330) (by decide +kernel)
theorem wM_X8_77 : Cond.methodLink RX8 77 yX0_enter ∈ lw_tbl := List.mem_of_getElem? (i := 333) (by decide +kernel)
theorem wM_X8_85 : Cond.methodLink RX8 85 yJ6_bitCount_0f7a4 ∈ lw_tbl := List.mem_of_getElem? (i := 337) (by decide +kernel)
theorem wM_X8_91 : Cond.methodLink RX8 91 yX0_isThere ∈ lw_tbl := List.mem_of_getElem? (i := 347) (by decide +kernel)
theorem wM_X9_111 : Cond.methodLink RX9 111 yX9_ours ∈ lw_tbl := List.mem_of_getElem? (i := 886) (by decide +kernel)
theorem wM_X9_114 : Cond.methodLink RX9 114 yX9_theirs ∈ lw_tbl := List.mem_of_getElem? (i := 891) (by decide +kernel)
theorem wM_X9_117 : Cond.methodLink RX9 117 yX9_add ∈ lw_tbl := List.mem_of_getElem? (i := 896) (by decide +kernel)
theorem wM_X9_121 : Cond.methodLink RX9 121 yX9_begin ∈ lw_tbl := List.mem_of_getElem? (i := 882) (by decide +kernel)
theorem wM_X9_124 : Cond.methodLink RX9 124 yX9_deed ∈ lw_tbl := List.mem_of_getElem? (i := 900) (by decide +kernel)
theorem wM_X9_127 : Cond.methodLink RX9 127 yX9_inLots ∈ lw_tbl := List.mem_of_getElem? (i := 904) (by decide +kernel)
theorem wM_X9_131 : Cond.methodLink RX9 131 yX9_rateOf ∈ lw_tbl := List.mem_of_getElem? (i := 942) (by decide +kernel)
theorem wM_X9_134 : Cond.methodLink RX9 134 yX9_isOpen ∈ lw_tbl := List.mem_of_getElem? (i := 934) (by decide +kernel)
theorem wM_X9_137 : Cond.methodLink RX9 137 yX9_isOut ∈ lw_tbl := List.mem_of_getElem? (i := 953) (by decide +kernel)
theorem wM_X9_140 : Cond.methodLink RX9 140 yX9_areAllOpen ∈ lw_tbl := List.mem_of_getElem? (i := 930) (by decide +kernel)
theorem wM_X9_143 : Cond.methodLink RX9 143 yX9_worthOf ∈ lw_tbl := List.mem_of_getElem? (i := 938) (by decide +kernel)
theorem wM_X9_146 : Cond.methodLink RX9 146 yX9_only ∈ lw_tbl := List.mem_of_getElem? (i := 946) (by decide +kernel)
theorem wM_X9_149 : Cond.methodLink RX9 149 yX9_canDeed ∈ lw_tbl := List.mem_of_getElem? (i := 949) (by decide +kernel)
theorem wM_X9_159 : Cond.methodLink RX9 159 yX9_breakWord ∈ lw_tbl := List.mem_of_getElem? (i := 961) (by decide +kernel)
theorem wM_X9_162 : Cond.methodLink RX9 162 yX9_exchange ∈ lw_tbl := List.mem_of_getElem? (i := 965) (by decide +kernel)
theorem wM_X9_171 : Cond.methodLink RX9 171 yX9_whyNot ∈ lw_tbl := List.mem_of_getElem? (i := 926) (by decide +kernel)
theorem wM_X9_175 : Cond.methodLink RX9 175 yX9_happen ∈ lw_tbl := List.mem_of_getElem? (i := 957) (by decide +kernel)
theorem wM_X9_179 : Cond.methodLink RX9 179 yX9_fault ∈ lw_tbl := List.mem_of_getElem? (i := 917) (by decide +kernel)
theorem wM_X9_183 : Cond.methodLink RX9 183 yX9_store ∈ lw_tbl := List.mem_of_getElem? (i := 918) (by decide +kernel)
theorem wM_X9_187 : Cond.methodLink RX9 187 yX9_goMonths ∈ lw_tbl := List.mem_of_getElem? (i := 922) (by decide +kernel)
theorem wM_X9_190 : Cond.methodLink RX9 190 yX9_sumOpen ∈ lw_tbl := List.mem_of_getElem? (i := 969) (by decide +kernel)
theorem wM_X9_199 : Cond.methodLink RX9 199 yX9_lay ∈ lw_tbl := List.mem_of_getElem? (i := 973) (by decide +kernel)
theorem wM_X9_204 : Cond.methodLink RX9 204 yX9_refusal ∈ lw_tbl := List.mem_of_getElem? (i := 913) (by decide +kernel)
theorem wM_X9_213 : Cond.methodLink RX9 213 yX9_isBetter ∈ lw_tbl := List.mem_of_getElem? (i := 1001) (by decide +kernel)
theorem wM_X9_217 : Cond.methodLink RX9 217 yX9_canExchange ∈ lw_tbl := List.mem_of_getElem? (i := 1005) (by decide +kernel)
theorem wM_X9_220 : Cond.methodLink RX9 220 yX9_findExchange ∈ lw_tbl := List.mem_of_getElem? (i := 997) (by decide +kernel)
theorem wM_X9_224 : Cond.methodLink RX9 224 yX9_isNobodyOpen ∈ lw_tbl := List.mem_of_getElem? (i := 1025) (by decide +kernel)
theorem wM_X9_227 : Cond.methodLink RX9 227 yX9_isAllEven ∈ lw_tbl := List.mem_of_getElem? (i := 1021) (by decide +kernel)
theorem wM_X9_236 : Cond.methodLink RX9 236 yX9_rateIn ∈ lw_tbl := List.mem_of_getElem? (i := 1058) (by decide +kernel)
theorem wM_X9_239 : Cond.methodLink RX9 239 yX9_isEvenIn ∈ lw_tbl := List.mem_of_getElem? (i := 1054) (by decide +kernel)
theorem wM_X9_246 : Cond.methodLink RX9 246 yX9_isWorld ∈ lw_tbl := List.mem_of_getElem? (i := 1050) (by decide +kernel)
theorem wM_X9_249 : Cond.methodLink RX9 249 yX9_findWorlds ∈ lw_tbl := List.mem_of_getElem? (i := 1046) (by decide +kernel)
theorem wM_X9_252 : Cond.methodLink RX9 252 yX9_mostLeft ∈ lw_tbl := List.mem_of_getElem? (i := 1070) (by decide +kernel)
theorem wM_X9_261 : Cond.methodLink RX9 261 yX9_outOf ∈ lw_tbl := List.mem_of_getElem? (i := 1081) (by decide +kernel)
theorem wM_X9_264 : Cond.methodLink RX9 264 yX9_lowest ∈ lw_tbl := List.mem_of_getElem? (i := 1085) (by decide +kernel)
theorem wM_X9_283 : Cond.methodLink RX9 283 yX9_pass ∈ lw_tbl := List.mem_of_getElem? (i := 1108) (by decide +kernel)
theorem wM_X9_286 : Cond.methodLink RX9 286 yX9_passAll ∈ lw_tbl := List.mem_of_getElem? (i := 1104) (by decide +kernel)
theorem wM_X9_69 : Cond.methodLink RX9 69 yX9_in ∈ lw_tbl := List.mem_of_getElem? (i := 840) (by decide +kernel)
theorem wM_X9_78 : Cond.methodLink RX9 78 yX9_isRank ∈ lw_tbl := List.mem_of_getElem? (i := 843) (by decide +kernel)
theorem wM_X9_82 : Cond.methodLink RX9 82 yX9_ones ∈ lw_tbl := List.mem_of_getElem? (i := 847) (by decide +kernel)
theorem wM_X9_86 : Cond.methodLink RX9 86 yX9_isOfficer ∈ lw_tbl := List.mem_of_getElem? (i := 854) (by decide +kernel)
theorem mc_X0_37 : MC RX0 37 := ⟨List.mem_of_getElem? (i := 405) (by decide +kernel), List.mem_of_getElem? (i := 407) (by decide +kernel), List.mem_of_getElem? (i := 406) (by decide +kernel), List.mem_of_getElem? (i := 65) (by decide +kernel)⟩
theorem mc_X2_104 : MC RX2 104 := ⟨List.mem_of_getElem? (i := 569) (by decide +kernel), List.mem_of_getElem? (i := 407) (by decide +kernel), List.mem_of_getElem? (i := 406) (by decide +kernel), List.mem_of_getElem? (i := 65) (by decide +kernel)⟩
theorem mm_max : MMx := ⟨List.mem_of_getElem? (i := 462) (by decide +kernel), List.mem_of_getElem? (i := 66) (by decide +kernel), List.mem_of_getElem? (i := 463) (by decide +kernel)⟩
theorem mm_min : MMn := ⟨List.mem_of_getElem? (i := 437) (by decide +kernel), List.mem_of_getElem? (i := 66) (by decide +kernel), List.mem_of_getElem? (i := 438) (by decide +kernel)⟩
theorem mm_abs : MMa := ⟨List.mem_of_getElem? (i := 483) (by decide +kernel), List.mem_of_getElem? (i := 66) (by decide +kernel), List.mem_of_getElem? (i := 484) (by decide +kernel)⟩
theorem mf_J6_bitCount_0f7a4 : MS yJ6_bitCount_0f7a4 cJ6_bitCount_0f7a4 1 (some .int) 1 := ⟨List.mem_of_getElem? (i := 339) (by decide +kernel), List.mem_of_getElem? (i := 338) (by decide +kernel), List.mem_of_getElem? (i := 64) (by decide +kernel), by decide +kernel⟩
theorem mf_J7_fill_d0a16 : MS yJ7_fill_d0a16 cJ7_fill_d0a16 5 (none) 2 := ⟨List.mem_of_getElem? (i := 559) (by decide +kernel), List.mem_of_getElem? (i := 558) (by decide +kernel), List.mem_of_getElem? (i := 67) (by decide +kernel), by decide +kernel⟩
theorem mf_X0_addSight : MF yX0_addSight cX0_addSight 3 (none) 2 := ⟨List.mem_of_getElem? (i := 598) (by decide +kernel), List.mem_of_getElem? (i := 596) (by decide +kernel), List.mem_of_getElem? (i := 597) (by decide +kernel), List.mem_of_getElem? (i := 55) (by decide +kernel), by decide +kernel⟩
theorem mf_X0_areThere : MF yX0_areThere cX0_areThere 4 (some .boolean) 2 := ⟨List.mem_of_getElem? (i := 594) (by decide +kernel), List.mem_of_getElem? (i := 592) (by decide +kernel), List.mem_of_getElem? (i := 593) (by decide +kernel), List.mem_of_getElem? (i := 55) (by decide +kernel), by decide +kernel⟩
theorem mf_X0_carryOut : MF yX0_carryOut cX0_carryOut 3 (none) 2 := ⟨List.mem_of_getElem? (i := 460) (by decide +kernel), List.mem_of_getElem? (i := 458) (by decide +kernel), List.mem_of_getElem? (i := 459) (by decide +kernel), List.mem_of_getElem? (i := 55) (by decide +kernel), by decide +kernel⟩
theorem mf_X0_copyFrom : MF yX0_copyFrom cX0_copyFrom 2 (none) 1 := ⟨List.mem_of_getElem? (i := 404) (by decide +kernel), List.mem_of_getElem? (i := 402) (by decide +kernel), List.mem_of_getElem? (i := 403) (by decide +kernel), List.mem_of_getElem? (i := 55) (by decide +kernel), by decide +kernel⟩
theorem mf_X0_crowdIn : MF yX0_crowdIn cX0_crowdIn 4 (some .int) 1 := ⟨List.mem_of_getElem? (i := 423) (by decide +kernel), List.mem_of_getElem? (i := 421) (by decide +kernel), List.mem_of_getElem? (i := 422) (by decide +kernel), List.mem_of_getElem? (i := 55) (by decide +kernel), by decide +kernel⟩
theorem mf_X0_enter : MF yX0_enter cX0_enter 3 (none) 2 := ⟨List.mem_of_getElem? (i := 336) (by decide +kernel), List.mem_of_getElem? (i := 334) (by decide +kernel), List.mem_of_getElem? (i := 335) (by decide +kernel), List.mem_of_getElem? (i := 55) (by decide +kernel), by decide +kernel⟩
theorem mf_X0_evenRate : MF yX0_evenRate cX0_evenRate 7 (some .int) 1 := ⟨List.mem_of_getElem? (i := 586) (by decide +kernel), List.mem_of_getElem? (i := 584) (by decide +kernel), List.mem_of_getElem? (i := 585) (by decide +kernel), List.mem_of_getElem? (i := 55) (by decide +kernel), by decide +kernel⟩
theorem mf_X0_isThere : MF yX0_isThere cX0_isThere 2 (some .boolean) 1 := ⟨List.mem_of_getElem? (i := 350) (by decide +kernel), List.mem_of_getElem? (i := 348) (by decide +kernel), List.mem_of_getElem? (i := 349) (by decide +kernel), List.mem_of_getElem? (i := 55) (by decide +kernel), by decide +kernel⟩
theorem mf_X0_lead : MF yX0_lead cX0_lead 4 (some .int) 1 := ⟨List.mem_of_getElem? (i := 427) (by decide +kernel), List.mem_of_getElem? (i := 425) (by decide +kernel), List.mem_of_getElem? (i := 426) (by decide +kernel), List.mem_of_getElem? (i := 55) (by decide +kernel), by decide +kernel⟩
theorem mf_X0_lotIn : MF yX0_lotIn cX0_lotIn 3 (some .int) 2 := ⟨List.mem_of_getElem? (i := 513) (by decide +kernel), List.mem_of_getElem? (i := 511) (by decide +kernel), List.mem_of_getElem? (i := 512) (by decide +kernel), List.mem_of_getElem? (i := 55) (by decide +kernel), by decide +kernel⟩
theorem mf_X0_setFree : MF yX0_setFree cX0_setFree 3 (none) 1 := ⟨List.mem_of_getElem? (i := 435) (by decide +kernel), List.mem_of_getElem? (i := 433) (by decide +kernel), List.mem_of_getElem? (i := 434) (by decide +kernel), List.mem_of_getElem? (i := 55) (by decide +kernel), by decide +kernel⟩
theorem mf_X0_statesFor : MS yX0_statesFor cX0_statesFor 1 (some .int) 1 := ⟨List.mem_of_getElem? (i := 456) (by decide +kernel), List.mem_of_getElem? (i := 455) (by decide +kernel), List.mem_of_getElem? (i := 55) (by decide +kernel), by decide +kernel⟩
theorem mf_X0_whyNoExchange : MF yX0_whyNoExchange cX0_whyNoExchange 3 (some .int) 2 := ⟨List.mem_of_getElem? (i := 419) (by decide +kernel), List.mem_of_getElem? (i := 417) (by decide +kernel), List.mem_of_getElem? (i := 418) (by decide +kernel), List.mem_of_getElem? (i := 55) (by decide +kernel), by decide +kernel⟩
theorem mf_X0_whyNot : MF yX0_whyNot cX0_whyNot 3 (some .int) 2 := ⟨List.mem_of_getElem? (i := 452) (by decide +kernel), List.mem_of_getElem? (i := 450) (by decide +kernel), List.mem_of_getElem? (i := 451) (by decide +kernel), List.mem_of_getElem? (i := 55) (by decide +kernel), by decide +kernel⟩
theorem mf_X0_worth : MF yX0_worth cX0_worth 2 (some .int) 1 := ⟨List.mem_of_getElem? (i := 431) (by decide +kernel), List.mem_of_getElem? (i := 429) (by decide +kernel), List.mem_of_getElem? (i := 430) (by decide +kernel), List.mem_of_getElem? (i := 55) (by decide +kernel), by decide +kernel⟩
theorem mf_X1_commonDivisor : MS yX1_commonDivisor cX1_commonDivisor 11 (some .long) 2 := ⟨List.mem_of_getElem? (i := 678) (by decide +kernel), List.mem_of_getElem? (i := 677) (by decide +kernel), List.mem_of_getElem? (i := 60) (by decide +kernel), by decide +kernel⟩
theorem mf_X1_lowestTerms : MF yX1_lowestTerms cX1_lowestTerms 6 (some .long) 2 := ⟨List.mem_of_getElem? (i := 675) (by decide +kernel), List.mem_of_getElem? (i := 673) (by decide +kernel), List.mem_of_getElem? (i := 674) (by decide +kernel), List.mem_of_getElem? (i := 60) (by decide +kernel), by decide +kernel⟩
theorem mf_X1_spread : MF yX1_spread cX1_spread 5 (none) 2 := ⟨List.mem_of_getElem? (i := 659) (by decide +kernel), List.mem_of_getElem? (i := 657) (by decide +kernel), List.mem_of_getElem? (i := 658) (by decide +kernel), List.mem_of_getElem? (i := 60) (by decide +kernel), by decide +kernel⟩
theorem mf_X1_trustSum : MF yX1_trustSum cX1_trustSum 5 (some .long) 1 := ⟨List.mem_of_getElem? (i := 666) (by decide +kernel), List.mem_of_getElem? (i := 664) (by decide +kernel), List.mem_of_getElem? (i := 665) (by decide +kernel), List.mem_of_getElem? (i := 60) (by decide +kernel), by decide +kernel⟩
theorem mf_X1_waysToKeep : MF yX1_waysToKeep cX1_waysToKeep 6 (some .long) 2 := ⟨List.mem_of_getElem? (i := 671) (by decide +kernel), List.mem_of_getElem? (i := 669) (by decide +kernel), List.mem_of_getElem? (i := 670) (by decide +kernel), List.mem_of_getElem? (i := 60) (by decide +kernel), by decide +kernel⟩
theorem mf_X2_answer : MF yX2_answer cX2_answer 3 (some .int) 2 := ⟨List.mem_of_getElem? (i := 531) (by decide +kernel), List.mem_of_getElem? (i := 529) (by decide +kernel), List.mem_of_getElem? (i := 530) (by decide +kernel), List.mem_of_getElem? (i := 58) (by decide +kernel), by decide +kernel⟩
theorem mf_X2_bestWith : MF yX2_bestWith cX2_bestWith 5 (some .int) 2 := ⟨List.mem_of_getElem? (i := 522) (by decide +kernel), List.mem_of_getElem? (i := 521) (by decide +kernel), List.mem_of_getElem? (i := 7) (by decide +kernel), List.mem_of_getElem? (i := 58) (by decide +kernel), by decide +kernel⟩
theorem mf_X2_find : MF yX2_find cX2_find 6 (none) 3 := ⟨List.mem_of_getElem? (i := 505) (by decide +kernel), List.mem_of_getElem? (i := 504) (by decide +kernel), List.mem_of_getElem? (i := 5) (by decide +kernel), List.mem_of_getElem? (i := 58) (by decide +kernel), by decide +kernel⟩
theorem mf_X2_findForMost : MF yX2_findForMost cX2_findForMost 2 (none) 1 := ⟨List.mem_of_getElem? (i := 501) (by decide +kernel), List.mem_of_getElem? (i := 499) (by decide +kernel), List.mem_of_getElem? (i := 500) (by decide +kernel), List.mem_of_getElem? (i := 58) (by decide +kernel), by decide +kernel⟩
theorem mf_X2_findForOne : MF yX2_findForOne cX2_findForOne 3 (none) 2 := ⟨List.mem_of_getElem? (i := 539) (by decide +kernel), List.mem_of_getElem? (i := 537) (by decide +kernel), List.mem_of_getElem? (i := 538) (by decide +kernel), List.mem_of_getElem? (i := 58) (by decide +kernel), by decide +kernel⟩
theorem mf_X2_lotsEvenWith : MF yX2_lotsEvenWith cX2_lotsEvenWith 5 (some .long) 1 := ⟨List.mem_of_getElem? (i := 555) (by decide +kernel), List.mem_of_getElem? (i := 554) (by decide +kernel), List.mem_of_getElem? (i := 9) (by decide +kernel), List.mem_of_getElem? (i := 58) (by decide +kernel), by decide +kernel⟩
theorem mf_X2_makeRoomForOneMore : MF yX2_makeRoomForOneMore cX2_makeRoomForOneMore 8 (none) 0 := ⟨List.mem_of_getElem? (i := 563) (by decide +kernel), List.mem_of_getElem? (i := 562) (by decide +kernel), List.mem_of_getElem? (i := 10) (by decide +kernel), List.mem_of_getElem? (i := 58) (by decide +kernel), by decide +kernel⟩
theorem mf_X2_markEven : MF yX2_markEven cX2_markEven 2 (none) 0 := ⟨List.mem_of_getElem? (i := 551) (by decide +kernel), List.mem_of_getElem? (i := 550) (by decide +kernel), List.mem_of_getElem? (i := 8) (by decide +kernel), List.mem_of_getElem? (i := 58) (by decide +kernel), by decide +kernel⟩
theorem mf_X2_mostInARow : MF yX2_mostInARow cX2_mostInARow 4 (some .int) 1 := ⟨List.mem_of_getElem? (i := 547) (by decide +kernel), List.mem_of_getElem? (i := 545) (by decide +kernel), List.mem_of_getElem? (i := 546) (by decide +kernel), List.mem_of_getElem? (i := 58) (by decide +kernel), by decide +kernel⟩
theorem mf_X2_order : MS yX2_order cX2_order 6 (some .int) 3 := ⟨List.mem_of_getElem? (i := 525) (by decide +kernel), List.mem_of_getElem? (i := 524) (by decide +kernel), List.mem_of_getElem? (i := 58) (by decide +kernel), by decide +kernel⟩
theorem mf_X2_sumLots : MS yX2_sumLots cX2_sumLots 7 (none) 3 := ⟨List.mem_of_getElem? (i := 516) (by decide +kernel), List.mem_of_getElem? (i := 515) (by decide +kernel), List.mem_of_getElem? (i := 58) (by decide +kernel), by decide +kernel⟩
theorem mf_X2_weighLots : MF yX2_weighLots cX2_weighLots 2 (none) 1 := ⟨List.mem_of_getElem? (i := 509) (by decide +kernel), List.mem_of_getElem? (i := 508) (by decide +kernel), List.mem_of_getElem? (i := 6) (by decide +kernel), List.mem_of_getElem? (i := 58) (by decide +kernel), by decide +kernel⟩
theorem mf_X2_withGreaterLots : MS yX2_withGreaterLots cX2_withGreaterLots 5 (some .long) 1 := ⟨List.mem_of_getElem? (i := 566) (by decide +kernel), List.mem_of_getElem? (i := 565) (by decide +kernel), List.mem_of_getElem? (i := 58) (by decide +kernel), by decide +kernel⟩
theorem mf_X3_endDeed : MF yX3_endDeed cX3_endDeed 2 (none) 1 := ⟨List.mem_of_getElem? (i := 448) (by decide +kernel), List.mem_of_getElem? (i := 447) (by decide +kernel), List.mem_of_getElem? (i := 4) (by decide +kernel), List.mem_of_getElem? (i := 57) (by decide +kernel), by decide +kernel⟩
theorem mf_X3_endExchange : MF yX3_endExchange cX3_endExchange 1 (none) 0 := ⟨List.mem_of_getElem? (i := 415) (by decide +kernel), List.mem_of_getElem? (i := 414) (by decide +kernel), List.mem_of_getElem? (i := 2) (by decide +kernel), List.mem_of_getElem? (i := 57) (by decide +kernel), by decide +kernel⟩
theorem mf_X3_failedAct : MF yX3_failedAct cX3_failedAct 1 (some .int) 0 := ⟨List.mem_of_getElem? (i := 467) (by decide +kernel), List.mem_of_getElem? (i := 465) (by decide +kernel), List.mem_of_getElem? (i := 466) (by decide +kernel), List.mem_of_getElem? (i := 57) (by decide +kernel), by decide +kernel⟩
theorem mf_X3_failedWhy : MF yX3_failedWhy cX3_failedWhy 1 (some .int) 0 := ⟨List.mem_of_getElem? (i := 471) (by decide +kernel), List.mem_of_getElem? (i := 469) (by decide +kernel), List.mem_of_getElem? (i := 470) (by decide +kernel), List.mem_of_getElem? (i := 57) (by decide +kernel), by decide +kernel⟩
theorem mf_X3_gather : MF yX3_gather cX3_gather 2 (none) 1 := ⟨List.mem_of_getElem? (i := 443) (by decide +kernel), List.mem_of_getElem? (i := 442) (by decide +kernel), List.mem_of_getElem? (i := 3) (by decide +kernel), List.mem_of_getElem? (i := 57) (by decide +kernel), by decide +kernel⟩
theorem mf_X3_read : MF yX3_read cX3_read 4 (none) 2 := ⟨List.mem_of_getElem? (i := 400) (by decide +kernel), List.mem_of_getElem? (i := 398) (by decide +kernel), List.mem_of_getElem? (i := 399) (by decide +kernel), List.mem_of_getElem? (i := 57) (by decide +kernel), by decide +kernel⟩
theorem mf_X3_take : MF yX3_take cX3_take 2 (none) 1 := ⟨List.mem_of_getElem? (i := 411) (by decide +kernel), List.mem_of_getElem? (i := 410) (by decide +kernel), List.mem_of_getElem? (i := 1) (by decide +kernel), List.mem_of_getElem? (i := 57) (by decide +kernel), by decide +kernel⟩
theorem mf_X4_deedOf : MS yX4_deedOf cX4_deedOf 1 (some .int) 1 := ⟨List.mem_of_getElem? (i := 388) (by decide +kernel), List.mem_of_getElem? (i := 387) (by decide +kernel), List.mem_of_getElem? (i := 56) (by decide +kernel), by decide +kernel⟩
theorem mf_X4_firstFault : MF yX4_firstFault cX4_firstFault 3 (some .int) 0 := ⟨List.mem_of_getElem? (i := 378) (by decide +kernel), List.mem_of_getElem? (i := 376) (by decide +kernel), List.mem_of_getElem? (i := 377) (by decide +kernel), List.mem_of_getElem? (i := 56) (by decide +kernel), by decide +kernel⟩
theorem mf_X4_next : MS yX4_next cX4_next 5 (some .int) 2 := ⟨List.mem_of_getElem? (i := 381) (by decide +kernel), List.mem_of_getElem? (i := 380) (by decide +kernel), List.mem_of_getElem? (i := 56) (by decide +kernel), by decide +kernel⟩
theorem mf_X4_officerOf : MS yX4_officerOf cX4_officerOf 1 (some .int) 1 := ⟨List.mem_of_getElem? (i := 384) (by decide +kernel), List.mem_of_getElem? (i := 383) (by decide +kernel), List.mem_of_getElem? (i := 56) (by decide +kernel), by decide +kernel⟩
theorem mf_X4_write : MF yX4_write cX4_write 2 (none) 1 := ⟨List.mem_of_getElem? (i := 366) (by decide +kernel), List.mem_of_getElem? (i := 364) (by decide +kernel), List.mem_of_getElem? (i := 365) (by decide +kernel), List.mem_of_getElem? (i := 56) (by decide +kernel), by decide +kernel⟩
theorem mf_X5_count : MF yX5_count cX5_count 8 (none) 3 := ⟨List.mem_of_getElem? (i := 686) (by decide +kernel), List.mem_of_getElem? (i := 684) (by decide +kernel), List.mem_of_getElem? (i := 685) (by decide +kernel), List.mem_of_getElem? (i := 61) (by decide +kernel), by decide +kernel⟩
theorem mf_X6_addIfFits : MF yX6_addIfFits cX6_addIfFits 7 (none) 3 := ⟨List.mem_of_getElem? (i := 615) (by decide +kernel), List.mem_of_getElem? (i := 614) (by decide +kernel), List.mem_of_getElem? (i := 12) (by decide +kernel), List.mem_of_getElem? (i := 59) (by decide +kernel), by decide +kernel⟩
theorem mf_X6_choosePair : MF yX6_choosePair cX6_choosePair 4 (none) 1 := ⟨List.mem_of_getElem? (i := 637) (by decide +kernel), List.mem_of_getElem? (i := 635) (by decide +kernel), List.mem_of_getElem? (i := 636) (by decide +kernel), List.mem_of_getElem? (i := 59) (by decide +kernel), by decide +kernel⟩
theorem mf_X6_find : MF yX6_find cX6_find 4 (none) 1 := ⟨List.mem_of_getElem? (i := 610) (by decide +kernel), List.mem_of_getElem? (i := 608) (by decide +kernel), List.mem_of_getElem? (i := 609) (by decide +kernel), List.mem_of_getElem? (i := 59) (by decide +kernel), by decide +kernel⟩
theorem mf_X6_forgers : MF yX6_forgers cX6_forgers 3 (some .int) 0 := ⟨List.mem_of_getElem? (i := 621) (by decide +kernel), List.mem_of_getElem? (i := 619) (by decide +kernel), List.mem_of_getElem? (i := 620) (by decide +kernel), List.mem_of_getElem? (i := 59) (by decide +kernel), by decide +kernel⟩
theorem mf_X6_leastRank : MF yX6_leastRank cX6_leastRank 3 (some .int) 1 := ⟨List.mem_of_getElem? (i := 629) (by decide +kernel), List.mem_of_getElem? (i := 627) (by decide +kernel), List.mem_of_getElem? (i := 628) (by decide +kernel), List.mem_of_getElem? (i := 59) (by decide +kernel), by decide +kernel⟩
theorem mf_X6_mostLeft : MF yX6_mostLeft cX6_mostLeft 6 (some .int) 3 := ⟨List.mem_of_getElem? (i := 641) (by decide +kernel), List.mem_of_getElem? (i := 640) (by decide +kernel), List.mem_of_getElem? (i := 13) (by decide +kernel), List.mem_of_getElem? (i := 59) (by decide +kernel), by decide +kernel⟩
theorem mf_X6_offerPair : MF yX6_offerPair cX6_offerPair 3 (none) 2 := ⟨List.mem_of_getElem? (i := 650) (by decide +kernel), List.mem_of_getElem? (i := 649) (by decide +kernel), List.mem_of_getElem? (i := 15) (by decide +kernel), List.mem_of_getElem? (i := 59) (by decide +kernel), by decide +kernel⟩
theorem mf_X6_worthIn : MF yX6_worthIn cX6_worthIn 4 (some .int) 3 := ⟨List.mem_of_getElem? (i := 645) (by decide +kernel), List.mem_of_getElem? (i := 644) (by decide +kernel), List.mem_of_getElem? (i := 14) (by decide +kernel), List.mem_of_getElem? (i := 59) (by decide +kernel), by decide +kernel⟩
theorem mf_X7_draw : MF yX7_draw cX7_draw 5 (none) 1 := ⟨List.mem_of_getElem? (i := 700) (by decide +kernel), List.mem_of_getElem? (i := 699) (by decide +kernel), List.mem_of_getElem? (i := 16) (by decide +kernel), List.mem_of_getElem? (i := 62) (by decide +kernel), by decide +kernel⟩
theorem mf_X7_pass : MF yX7_pass cX7_pass 6 (none) 3 := ⟨List.mem_of_getElem? (i := 694) (by decide +kernel), List.mem_of_getElem? (i := 692) (by decide +kernel), List.mem_of_getElem? (i := 693) (by decide +kernel), List.mem_of_getElem? (i := 62) (by decide +kernel), by decide +kernel⟩
theorem mf_X7_tryDeed : MF yX7_tryDeed cX7_tryDeed 3 (none) 2 := ⟨List.mem_of_getElem? (i := 704) (by decide +kernel), List.mem_of_getElem? (i := 703) (by decide +kernel), List.mem_of_getElem? (i := 17) (by decide +kernel), List.mem_of_getElem? (i := 62) (by decide +kernel), by decide +kernel⟩
theorem mf_X7_tryExchange : MF yX7_tryExchange cX7_tryExchange 2 (none) 1 := ⟨List.mem_of_getElem? (i := 710) (by decide +kernel), List.mem_of_getElem? (i := 709) (by decide +kernel), List.mem_of_getElem? (i := 18) (by decide +kernel), List.mem_of_getElem? (i := 62) (by decide +kernel), by decide +kernel⟩
theorem mf_X8_behind : MF yX8_behind cX8_behind 4 (some .int) 2 := ⟨List.mem_of_getElem? (i := 475) (by decide +kernel), List.mem_of_getElem? (i := 473) (by decide +kernel), List.mem_of_getElem? (i := 474) (by decide +kernel), List.mem_of_getElem? (i := 54) (by decide +kernel), by decide +kernel⟩
theorem mf_X8_bothSidesOpen : MF yX8_bothSidesOpen cX8_bothSidesOpen 1 (some .boolean) 0 := ⟨List.mem_of_getElem? (i := 577) (by decide +kernel), List.mem_of_getElem? (i := 576) (by decide +kernel), List.mem_of_getElem? (i := 11) (by decide +kernel), List.mem_of_getElem? (i := 54) (by decide +kernel), by decide +kernel⟩
theorem mf_X8_bring : MF yX8_bring cX8_bring 3 (some .int) 2 := ⟨List.mem_of_getElem? (i := 535) (by decide +kernel), List.mem_of_getElem? (i := 533) (by decide +kernel), List.mem_of_getElem? (i := 534) (by decide +kernel), List.mem_of_getElem? (i := 54) (by decide +kernel), by decide +kernel⟩
theorem mf_X8_broken : MF yX8_broken cX8_broken 6 (some .long) 3 := ⟨List.mem_of_getElem? (i := 654) (by decide +kernel), List.mem_of_getElem? (i := 652) (by decide +kernel), List.mem_of_getElem? (i := 653) (by decide +kernel), List.mem_of_getElem? (i := 54) (by decide +kernel), by decide +kernel⟩
theorem mf_X8_done : MF yX8_done cX8_done 2 (some .int) 0 := ⟨List.mem_of_getElem? (i := 488) (by decide +kernel), List.mem_of_getElem? (i := 486) (by decide +kernel), List.mem_of_getElem? (i := 487) (by decide +kernel), List.mem_of_getElem? (i := 54) (by decide +kernel), by decide +kernel⟩
theorem mf_X8_even : MF yX8_even cX8_even 1 (some .int) 0 := ⟨List.mem_of_getElem? (i := 573) (by decide +kernel), List.mem_of_getElem? (i := 571) (by decide +kernel), List.mem_of_getElem? (i := 572) (by decide +kernel), List.mem_of_getElem? (i := 54) (by decide +kernel), by decide +kernel⟩
theorem mf_X8_fair : MF yX8_fair cX8_fair 2 (some .int) 1 := ⟨List.mem_of_getElem? (i := 582) (by decide +kernel), List.mem_of_getElem? (i := 580) (by decide +kernel), List.mem_of_getElem? (i := 581) (by decide +kernel), List.mem_of_getElem? (i := 54) (by decide +kernel), by decide +kernel⟩
theorem mf_X8_fault : MF yX8_fault cX8_fault 1 (some .int) 0 := ⟨List.mem_of_getElem? (i := 374) (by decide +kernel), List.mem_of_getElem? (i := 372) (by decide +kernel), List.mem_of_getElem? (i := 373) (by decide +kernel), List.mem_of_getElem? (i := 54) (by decide +kernel), by decide +kernel⟩
theorem mf_X8_forged : MF yX8_forged cX8_forged 2 (some .int) 1 := ⟨List.mem_of_getElem? (i := 606) (by decide +kernel), List.mem_of_getElem? (i := 604) (by decide +kernel), List.mem_of_getElem? (i := 605) (by decide +kernel), List.mem_of_getElem? (i := 54) (by decide +kernel), by decide +kernel⟩
theorem mf_X8_forget : MF yX8_forget cX8_forget 2 (some .int) 0 := ⟨List.mem_of_getElem? (i := 602) (by decide +kernel), List.mem_of_getElem? (i := 600) (by decide +kernel), List.mem_of_getElem? (i := 601) (by decide +kernel), List.mem_of_getElem? (i := 54) (by decide +kernel), by decide +kernel⟩
theorem mf_X8_home : MF yX8_home cX8_home 2 (some .int) 1 := ⟨List.mem_of_getElem? (i := 497) (by decide +kernel), List.mem_of_getElem? (i := 495) (by decide +kernel), List.mem_of_getElem? (i := 496) (by decide +kernel), List.mem_of_getElem? (i := 54) (by decide +kernel), by decide +kernel⟩
theorem mf_X8_image : MF yX8_image cX8_image 2 (some .int) 1 := ⟨List.mem_of_getElem? (i := 716) (by decide +kernel), List.mem_of_getElem? (i := 714) (by decide +kernel), List.mem_of_getElem? (i := 715) (by decide +kernel), List.mem_of_getElem? (i := 54) (by decide +kernel), by decide +kernel⟩
theorem mf_X8_isWithin : MS yX8_isWithin cX8_isWithin 3 (some .boolean) 3 := ⟨List.mem_of_getElem? (i := 332) (by decide +kernel), List.mem_of_getElem? (i := 331) (by decide +kernel), List.mem_of_getElem? (i := 54) (by decide +kernel), by decide +kernel⟩
theorem mf_X8_judge : MF yX8_judge cX8_judge 3 (some .int) 1 := ⟨List.mem_of_getElem? (i := 392) (by decide +kernel), List.mem_of_getElem? (i := 390) (by decide +kernel), List.mem_of_getElem? (i := 391) (by decide +kernel), List.mem_of_getElem? (i := 54) (by decide +kernel), by decide +kernel⟩
theorem mf_X8_leave : MF yX8_leave cX8_leave 2 (some .int) 1 := ⟨List.mem_of_getElem? (i := 346) (by decide +kernel), List.mem_of_getElem? (i := 344) (by decide +kernel), List.mem_of_getElem? (i := 345) (by decide +kernel), List.mem_of_getElem? (i := 54) (by decide +kernel), by decide +kernel⟩
theorem mf_X8_ledger : MF yX8_ledger cX8_ledger 4 (some .int) 1 := ⟨List.mem_of_getElem? (i := 479) (by decide +kernel), List.mem_of_getElem? (i := 477) (by decide +kernel), List.mem_of_getElem? (i := 478) (by decide +kernel), List.mem_of_getElem? (i := 54) (by decide +kernel), by decide +kernel⟩
theorem mf_X8_lots : MF yX8_lots cX8_lots 1 (some .int) 0 := ⟨List.mem_of_getElem? (i := 543) (by decide +kernel), List.mem_of_getElem? (i := 541) (by decide +kernel), List.mem_of_getElem? (i := 542) (by decide +kernel), List.mem_of_getElem? (i := 54) (by decide +kernel), by decide +kernel⟩
theorem mf_X8_officer : MF yX8_officer cX8_officer 3 (some .int) 2 := ⟨List.mem_of_getElem? (i := 329) (by decide +kernel), List.mem_of_getElem? (i := 327) (by decide +kernel), List.mem_of_getElem? (i := 328) (by decide +kernel), List.mem_of_getElem? (i := 54) (by decide +kernel), by decide +kernel⟩
theorem mf_X8_owed : MF yX8_owed cX8_owed 1 (some .int) 0 := ⟨List.mem_of_getElem? (i := 493) (by decide +kernel), List.mem_of_getElem? (i := 491) (by decide +kernel), List.mem_of_getElem? (i := 492) (by decide +kernel), List.mem_of_getElem? (i := 54) (by decide +kernel), by decide +kernel⟩
theorem mf_X8_rank : MF yX8_rank cX8_rank 2 (some .int) 1 := ⟨List.mem_of_getElem? (i := 625) (by decide +kernel), List.mem_of_getElem? (i := 623) (by decide +kernel), List.mem_of_getElem? (i := 624) (by decide +kernel), List.mem_of_getElem? (i := 54) (by decide +kernel), by decide +kernel⟩
theorem mf_X8_rate : MF yX8_rate cX8_rate 4 (some .int) 2 := ⟨List.mem_of_getElem? (i := 354) (by decide +kernel), List.mem_of_getElem? (i := 352) (by decide +kernel), List.mem_of_getElem? (i := 353) (by decide +kernel), List.mem_of_getElem? (i := 54) (by decide +kernel), by decide +kernel⟩
theorem mf_X8_readMonths : MF yX8_readMonths cX8_readMonths 1 (some .int) 0 := ⟨List.mem_of_getElem? (i := 396) (by decide +kernel), List.mem_of_getElem? (i := 395) (by decide +kernel), List.mem_of_getElem? (i := 0) (by decide +kernel), List.mem_of_getElem? (i := 54) (by decide +kernel), by decide +kernel⟩
theorem mf_X8_restore : MF yX8_restore cX8_restore 2 (some .int) 1 := ⟨List.mem_of_getElem? (i := 720) (by decide +kernel), List.mem_of_getElem? (i := 718) (by decide +kernel), List.mem_of_getElem? (i := 719) (by decide +kernel), List.mem_of_getElem? (i := 54) (by decide +kernel), by decide +kernel⟩
theorem mf_X8_rests : MF yX8_rests cX8_rests 5 (some .int) 4 := ⟨List.mem_of_getElem? (i := 682) (by decide +kernel), List.mem_of_getElem? (i := 680) (by decide +kernel), List.mem_of_getElem? (i := 681) (by decide +kernel), List.mem_of_getElem? (i := 54) (by decide +kernel), by decide +kernel⟩
theorem mf_X8_say : MF yX8_say cX8_say 2 (some .int) 1 := ⟨List.mem_of_getElem? (i := 362) (by decide +kernel), List.mem_of_getElem? (i := 360) (by decide +kernel), List.mem_of_getElem? (i := 361) (by decide +kernel), List.mem_of_getElem? (i := 54) (by decide +kernel), by decide +kernel⟩
theorem mf_X8_seen : MF yX8_seen cX8_seen 4 (some .int) 3 := ⟨List.mem_of_getElem? (i := 590) (by decide +kernel), List.mem_of_getElem? (i := 588) (by decide +kernel), List.mem_of_getElem? (i := 589) (by decide +kernel), List.mem_of_getElem? (i := 54) (by decide +kernel), by decide +kernel⟩
theorem mf_X8_told : MF yX8_told cX8_told 2 (some .int) 1 := ⟨List.mem_of_getElem? (i := 724) (by decide +kernel), List.mem_of_getElem? (i := 722) (by decide +kernel), List.mem_of_getElem? (i := 723) (by decide +kernel), List.mem_of_getElem? (i := 54) (by decide +kernel), by decide +kernel⟩
theorem mf_X8_toldCount : MF yX8_toldCount cX8_toldCount 2 (some .int) 1 := ⟨List.mem_of_getElem? (i := 728) (by decide +kernel), List.mem_of_getElem? (i := 727) (by decide +kernel), List.mem_of_getElem? (i := 19) (by decide +kernel), List.mem_of_getElem? (i := 54) (by decide +kernel), by decide +kernel⟩
theorem mf_X8_trust : MF yX8_trust cX8_trust 3 (some .int) 1 := ⟨List.mem_of_getElem? (i := 358) (by decide +kernel), List.mem_of_getElem? (i := 356) (by decide +kernel), List.mem_of_getElem? (i := 357) (by decide +kernel), List.mem_of_getElem? (i := 54) (by decide +kernel), by decide +kernel⟩
theorem mf_X8_weigh : MF yX8_weigh cX8_weigh 2 (some .int) 1 := ⟨List.mem_of_getElem? (i := 633) (by decide +kernel), List.mem_of_getElem? (i := 631) (by decide +kernel), List.mem_of_getElem? (i := 632) (by decide +kernel), List.mem_of_getElem? (i := 54) (by decide +kernel), by decide +kernel⟩
theorem mf_X8_wipe : MF yX8_wipe cX8_wipe 2 (some .int) 0 := ⟨List.mem_of_getElem? (i := 370) (by decide +kernel), List.mem_of_getElem? (i := 368) (by decide +kernel), List.mem_of_getElem? (i := 369) (by decide +kernel), List.mem_of_getElem? (i := 54) (by decide +kernel), by decide +kernel⟩
theorem mf_X8_year : MF yX8_year cX8_year 4 (some .int) 3 := ⟨List.mem_of_getElem? (i := 690) (by decide +kernel), List.mem_of_getElem? (i := 688) (by decide +kernel), List.mem_of_getElem? (i := 689) (by decide +kernel), List.mem_of_getElem? (i := 54) (by decide +kernel), by decide +kernel⟩
theorem mf_X9_add : MF yX9_add cX9_add 2 (none) 1 := ⟨List.mem_of_getElem? (i := 899) (by decide +kernel), List.mem_of_getElem? (i := 898) (by decide +kernel), List.mem_of_getElem? (i := 22) (by decide +kernel), List.mem_of_getElem? (i := 63) (by decide +kernel), by decide +kernel⟩
theorem mf_X9_areAllOpen : MF yX9_areAllOpen cX9_areAllOpen 4 (some .boolean) 1 := ⟨List.mem_of_getElem? (i := 933) (by decide +kernel), List.mem_of_getElem? (i := 932) (by decide +kernel), List.mem_of_getElem? (i := 29) (by decide +kernel), List.mem_of_getElem? (i := 63) (by decide +kernel), by decide +kernel⟩
theorem mf_X9_begin : MF yX9_begin cX9_begin 3 (some .int) 1 := ⟨List.mem_of_getElem? (i := 885) (by decide +kernel), List.mem_of_getElem? (i := 884) (by decide +kernel), List.mem_of_getElem? (i := 21) (by decide +kernel), List.mem_of_getElem? (i := 63) (by decide +kernel), by decide +kernel⟩
theorem mf_X9_behind : MF yX9_behind cX9_behind 4 (some .int) 2 := ⟨List.mem_of_getElem? (i := 980) (by decide +kernel), List.mem_of_getElem? (i := 978) (by decide +kernel), List.mem_of_getElem? (i := 979) (by decide +kernel), List.mem_of_getElem? (i := 63) (by decide +kernel), by decide +kernel⟩
theorem mf_X9_breakWord : MF yX9_breakWord cX9_breakWord 2 (none) 1 := ⟨List.mem_of_getElem? (i := 964) (by decide +kernel), List.mem_of_getElem? (i := 963) (by decide +kernel), List.mem_of_getElem? (i := 36) (by decide +kernel), List.mem_of_getElem? (i := 63) (by decide +kernel), by decide +kernel⟩
theorem mf_X9_bring : MF yX9_bring cX9_bring 3 (some .int) 2 := ⟨List.mem_of_getElem? (i := 1012) (by decide +kernel), List.mem_of_getElem? (i := 1010) (by decide +kernel), List.mem_of_getElem? (i := 1011) (by decide +kernel), List.mem_of_getElem? (i := 63) (by decide +kernel), by decide +kernel⟩
theorem mf_X9_broken : MF yX9_broken cX9_broken 11 (some .long) 3 := ⟨List.mem_of_getElem? (i := 1077) (by decide +kernel), List.mem_of_getElem? (i := 1075) (by decide +kernel), List.mem_of_getElem? (i := 1076) (by decide +kernel), List.mem_of_getElem? (i := 63) (by decide +kernel), by decide +kernel⟩
theorem mf_X9_canDeed : MF yX9_canDeed cX9_canDeed 3 (some .boolean) 2 := ⟨List.mem_of_getElem? (i := 952) (by decide +kernel), List.mem_of_getElem? (i := 951) (by decide +kernel), List.mem_of_getElem? (i := 33) (by decide +kernel), List.mem_of_getElem? (i := 63) (by decide +kernel), by decide +kernel⟩
theorem mf_X9_canExchange : MF yX9_canExchange cX9_canExchange 4 (some .boolean) 2 := ⟨List.mem_of_getElem? (i := 1008) (by decide +kernel), List.mem_of_getElem? (i := 1007) (by decide +kernel), List.mem_of_getElem? (i := 42) (by decide +kernel), List.mem_of_getElem? (i := 63) (by decide +kernel), by decide +kernel⟩
theorem mf_X9_deed : MF yX9_deed cX9_deed 2 (some .int) 1 := ⟨List.mem_of_getElem? (i := 903) (by decide +kernel), List.mem_of_getElem? (i := 902) (by decide +kernel), List.mem_of_getElem? (i := 23) (by decide +kernel), List.mem_of_getElem? (i := 63) (by decide +kernel), by decide +kernel⟩
theorem mf_X9_done : MF yX9_done cX9_done 2 (some .int) 0 := ⟨List.mem_of_getElem? (i := 988) (by decide +kernel), List.mem_of_getElem? (i := 986) (by decide +kernel), List.mem_of_getElem? (i := 987) (by decide +kernel), List.mem_of_getElem? (i := 63) (by decide +kernel), by decide +kernel⟩
theorem mf_X9_even : MF yX9_even cX9_even 1 (some .int) 0 := ⟨List.mem_of_getElem? (i := 1020) (by decide +kernel), List.mem_of_getElem? (i := 1018) (by decide +kernel), List.mem_of_getElem? (i := 1019) (by decide +kernel), List.mem_of_getElem? (i := 63) (by decide +kernel), by decide +kernel⟩
theorem mf_X9_exchange : MF yX9_exchange cX9_exchange 3 (none) 1 := ⟨List.mem_of_getElem? (i := 968) (by decide +kernel), List.mem_of_getElem? (i := 967) (by decide +kernel), List.mem_of_getElem? (i := 37) (by decide +kernel), List.mem_of_getElem? (i := 63) (by decide +kernel), by decide +kernel⟩
theorem mf_X9_fair : MF yX9_fair cX9_fair 5 (some .int) 1 := ⟨List.mem_of_getElem? (i := 1032) (by decide +kernel), List.mem_of_getElem? (i := 1030) (by decide +kernel), List.mem_of_getElem? (i := 1031) (by decide +kernel), List.mem_of_getElem? (i := 63) (by decide +kernel), by decide +kernel⟩
theorem mf_X9_fault : MF yX9_fault cX9_fault 3 (some .int) 0 := ⟨List.mem_of_getElem? (i := 881) (by decide +kernel), List.mem_of_getElem? (i := 879) (by decide +kernel), List.mem_of_getElem? (i := 880) (by decide +kernel), List.mem_of_getElem? (i := 63) (by decide +kernel), by decide +kernel⟩
theorem mf_X9_findExchange : MF yX9_findExchange cX9_findExchange 6 (none) 2 := ⟨List.mem_of_getElem? (i := 1000) (by decide +kernel), List.mem_of_getElem? (i := 999) (by decide +kernel), List.mem_of_getElem? (i := 40) (by decide +kernel), List.mem_of_getElem? (i := 63) (by decide +kernel), by decide +kernel⟩
theorem mf_X9_findWorlds : MF yX9_findWorlds cX9_findWorlds 2 (none) 0 := ⟨List.mem_of_getElem? (i := 1049) (by decide +kernel), List.mem_of_getElem? (i := 1048) (by decide +kernel), List.mem_of_getElem? (i := 45) (by decide +kernel), List.mem_of_getElem? (i := 63) (by decide +kernel), by decide +kernel⟩
theorem mf_X9_forged : MF yX9_forged cX9_forged 4 (some .int) 1 := ⟨List.mem_of_getElem? (i := 1045) (by decide +kernel), List.mem_of_getElem? (i := 1043) (by decide +kernel), List.mem_of_getElem? (i := 1044) (by decide +kernel), List.mem_of_getElem? (i := 63) (by decide +kernel), by decide +kernel⟩
theorem mf_X9_forget : MF yX9_forget cX9_forget 2 (some .int) 0 := ⟨List.mem_of_getElem? (i := 1041) (by decide +kernel), List.mem_of_getElem? (i := 1039) (by decide +kernel), List.mem_of_getElem? (i := 1040) (by decide +kernel), List.mem_of_getElem? (i := 63) (by decide +kernel), by decide +kernel⟩
theorem mf_X9_goMonths : MF yX9_goMonths cX9_goMonths 3 (none) 0 := ⟨List.mem_of_getElem? (i := 925) (by decide +kernel), List.mem_of_getElem? (i := 924) (by decide +kernel), List.mem_of_getElem? (i := 27) (by decide +kernel), List.mem_of_getElem? (i := 63) (by decide +kernel), by decide +kernel⟩
theorem mf_X9_happen : MF yX9_happen cX9_happen 3 (none) 2 := ⟨List.mem_of_getElem? (i := 960) (by decide +kernel), List.mem_of_getElem? (i := 959) (by decide +kernel), List.mem_of_getElem? (i := 35) (by decide +kernel), List.mem_of_getElem? (i := 63) (by decide +kernel), by decide +kernel⟩
theorem mf_X9_home : MF yX9_home cX9_home 2 (some .int) 1 := ⟨List.mem_of_getElem? (i := 996) (by decide +kernel), List.mem_of_getElem? (i := 994) (by decide +kernel), List.mem_of_getElem? (i := 995) (by decide +kernel), List.mem_of_getElem? (i := 63) (by decide +kernel), by decide +kernel⟩
theorem mf_X9_image : MF yX9_image cX9_image 2 (some .int) 1 := ⟨List.mem_of_getElem? (i := 1103) (by decide +kernel), List.mem_of_getElem? (i := 1101) (by decide +kernel), List.mem_of_getElem? (i := 1102) (by decide +kernel), List.mem_of_getElem? (i := 63) (by decide +kernel), by decide +kernel⟩
theorem mf_X9_in : MS yX9_in cX9_in 6 (some .boolean) 3 := ⟨List.mem_of_getElem? (i := 842) (by decide +kernel), List.mem_of_getElem? (i := 841) (by decide +kernel), List.mem_of_getElem? (i := 63) (by decide +kernel), by decide +kernel⟩
theorem mf_X9_inLots : MF yX9_inLots cX9_inLots 4 (some .int) 2 := ⟨List.mem_of_getElem? (i := 907) (by decide +kernel), List.mem_of_getElem? (i := 906) (by decide +kernel), List.mem_of_getElem? (i := 24) (by decide +kernel), List.mem_of_getElem? (i := 63) (by decide +kernel), by decide +kernel⟩
theorem mf_X9_isAllEven : MF yX9_isAllEven cX9_isAllEven 1 (some .boolean) 0 := ⟨List.mem_of_getElem? (i := 1024) (by decide +kernel), List.mem_of_getElem? (i := 1023) (by decide +kernel), List.mem_of_getElem? (i := 43) (by decide +kernel), List.mem_of_getElem? (i := 63) (by decide +kernel), by decide +kernel⟩
theorem mf_X9_isBetter : MF yX9_isBetter cX9_isBetter 6 (some .boolean) 3 := ⟨List.mem_of_getElem? (i := 1004) (by decide +kernel), List.mem_of_getElem? (i := 1003) (by decide +kernel), List.mem_of_getElem? (i := 41) (by decide +kernel), List.mem_of_getElem? (i := 63) (by decide +kernel), by decide +kernel⟩
theorem mf_X9_isEvenIn : MF yX9_isEvenIn cX9_isEvenIn 8 (some .boolean) 3 := ⟨List.mem_of_getElem? (i := 1057) (by decide +kernel), List.mem_of_getElem? (i := 1056) (by decide +kernel), List.mem_of_getElem? (i := 47) (by decide +kernel), List.mem_of_getElem? (i := 63) (by decide +kernel), by decide +kernel⟩
theorem mf_X9_isNobodyOpen : MF yX9_isNobodyOpen cX9_isNobodyOpen 4 (some .boolean) 1 := ⟨List.mem_of_getElem? (i := 1028) (by decide +kernel), List.mem_of_getElem? (i := 1027) (by decide +kernel), List.mem_of_getElem? (i := 44) (by decide +kernel), List.mem_of_getElem? (i := 63) (by decide +kernel), by decide +kernel⟩
theorem mf_X9_isOfficer : MF yX9_isOfficer cX9_isOfficer 2 (some .boolean) 1 := ⟨List.mem_of_getElem? (i := 857) (by decide +kernel), List.mem_of_getElem? (i := 856) (by decide +kernel), List.mem_of_getElem? (i := 20) (by decide +kernel), List.mem_of_getElem? (i := 63) (by decide +kernel), by decide +kernel⟩
theorem mf_X9_isOpen : MF yX9_isOpen cX9_isOpen 2 (some .boolean) 1 := ⟨List.mem_of_getElem? (i := 937) (by decide +kernel), List.mem_of_getElem? (i := 936) (by decide +kernel), List.mem_of_getElem? (i := 30) (by decide +kernel), List.mem_of_getElem? (i := 63) (by decide +kernel), by decide +kernel⟩
theorem mf_X9_isOut : MF yX9_isOut cX9_isOut 2 (some .boolean) 1 := ⟨List.mem_of_getElem? (i := 956) (by decide +kernel), List.mem_of_getElem? (i := 955) (by decide +kernel), List.mem_of_getElem? (i := 34) (by decide +kernel), List.mem_of_getElem? (i := 63) (by decide +kernel), by decide +kernel⟩
theorem mf_X9_isRank : MS yX9_isRank cX9_isRank 1 (some .boolean) 1 := ⟨List.mem_of_getElem? (i := 845) (by decide +kernel), List.mem_of_getElem? (i := 844) (by decide +kernel), List.mem_of_getElem? (i := 63) (by decide +kernel), by decide +kernel⟩
theorem mf_X9_isWorld : MF yX9_isWorld cX9_isWorld 4 (some .boolean) 1 := ⟨List.mem_of_getElem? (i := 1053) (by decide +kernel), List.mem_of_getElem? (i := 1052) (by decide +kernel), List.mem_of_getElem? (i := 46) (by decide +kernel), List.mem_of_getElem? (i := 63) (by decide +kernel), by decide +kernel⟩
theorem mf_X9_judge : MF yX9_judge cX9_judge 3 (some .int) 1 := ⟨List.mem_of_getElem? (i := 911) (by decide +kernel), List.mem_of_getElem? (i := 909) (by decide +kernel), List.mem_of_getElem? (i := 910) (by decide +kernel), List.mem_of_getElem? (i := 63) (by decide +kernel), by decide +kernel⟩
theorem mf_X9_lay : MF yX9_lay cX9_lay 3 (none) 1 := ⟨List.mem_of_getElem? (i := 976) (by decide +kernel), List.mem_of_getElem? (i := 975) (by decide +kernel), List.mem_of_getElem? (i := 39) (by decide +kernel), List.mem_of_getElem? (i := 63) (by decide +kernel), by decide +kernel⟩
theorem mf_X9_leave : MF yX9_leave cX9_leave 2 (some .int) 1 := ⟨List.mem_of_getElem? (i := 853) (by decide +kernel), List.mem_of_getElem? (i := 851) (by decide +kernel), List.mem_of_getElem? (i := 852) (by decide +kernel), List.mem_of_getElem? (i := 63) (by decide +kernel), by decide +kernel⟩
theorem mf_X9_ledger : MF yX9_ledger cX9_ledger 3 (some .int) 1 := ⟨List.mem_of_getElem? (i := 984) (by decide +kernel), List.mem_of_getElem? (i := 982) (by decide +kernel), List.mem_of_getElem? (i := 983) (by decide +kernel), List.mem_of_getElem? (i := 63) (by decide +kernel), by decide +kernel⟩
theorem mf_X9_lots : MF yX9_lots cX9_lots 6 (some .int) 0 := ⟨List.mem_of_getElem? (i := 1016) (by decide +kernel), List.mem_of_getElem? (i := 1014) (by decide +kernel), List.mem_of_getElem? (i := 1015) (by decide +kernel), List.mem_of_getElem? (i := 63) (by decide +kernel), by decide +kernel⟩
theorem mf_X9_lowest : MS yX9_lowest cX9_lowest 11 (some .long) 3 := ⟨List.mem_of_getElem? (i := 1087) (by decide +kernel), List.mem_of_getElem? (i := 1086) (by decide +kernel), List.mem_of_getElem? (i := 63) (by decide +kernel), by decide +kernel⟩
theorem mf_X9_mostLeft : MF yX9_mostLeft cX9_mostLeft 5 (some .int) 2 := ⟨List.mem_of_getElem? (i := 1073) (by decide +kernel), List.mem_of_getElem? (i := 1072) (by decide +kernel), List.mem_of_getElem? (i := 49) (by decide +kernel), List.mem_of_getElem? (i := 63) (by decide +kernel), by decide +kernel⟩
theorem mf_X9_officer : MF yX9_officer cX9_officer 3 (some .int) 2 := ⟨List.mem_of_getElem? (i := 838) (by decide +kernel), List.mem_of_getElem? (i := 836) (by decide +kernel), List.mem_of_getElem? (i := 837) (by decide +kernel), List.mem_of_getElem? (i := 63) (by decide +kernel), by decide +kernel⟩
theorem mf_X9_ones : MS yX9_ones cX9_ones 3 (some .int) 1 := ⟨List.mem_of_getElem? (i := 849) (by decide +kernel), List.mem_of_getElem? (i := 848) (by decide +kernel), List.mem_of_getElem? (i := 63) (by decide +kernel), by decide +kernel⟩
theorem mf_X9_only : MS yX9_only cX9_only 2 (some .int) 1 := ⟨List.mem_of_getElem? (i := 948) (by decide +kernel), List.mem_of_getElem? (i := 947) (by decide +kernel), List.mem_of_getElem? (i := 63) (by decide +kernel), by decide +kernel⟩
theorem mf_X9_ours : MS yX9_ours cX9_ours 1 (some .int) 1 := ⟨List.mem_of_getElem? (i := 888) (by decide +kernel), List.mem_of_getElem? (i := 887) (by decide +kernel), List.mem_of_getElem? (i := 63) (by decide +kernel), by decide +kernel⟩
theorem mf_X9_outOf : MF yX9_outOf cX9_outOf 5 (some .int) 2 := ⟨List.mem_of_getElem? (i := 1084) (by decide +kernel), List.mem_of_getElem? (i := 1083) (by decide +kernel), List.mem_of_getElem? (i := 50) (by decide +kernel), List.mem_of_getElem? (i := 63) (by decide +kernel), by decide +kernel⟩
theorem mf_X9_owed : MF yX9_owed cX9_owed 1 (some .int) 0 := ⟨List.mem_of_getElem? (i := 992) (by decide +kernel), List.mem_of_getElem? (i := 990) (by decide +kernel), List.mem_of_getElem? (i := 991) (by decide +kernel), List.mem_of_getElem? (i := 63) (by decide +kernel), by decide +kernel⟩
theorem mf_X9_pass : MF yX9_pass cX9_pass 3 (some .int) 1 := ⟨List.mem_of_getElem? (i := 1111) (by decide +kernel), List.mem_of_getElem? (i := 1110) (by decide +kernel), List.mem_of_getElem? (i := 52) (by decide +kernel), List.mem_of_getElem? (i := 63) (by decide +kernel), by decide +kernel⟩
theorem mf_X9_passAll : MF yX9_passAll cX9_passAll 2 (none) 0 := ⟨List.mem_of_getElem? (i := 1107) (by decide +kernel), List.mem_of_getElem? (i := 1106) (by decide +kernel), List.mem_of_getElem? (i := 51) (by decide +kernel), List.mem_of_getElem? (i := 63) (by decide +kernel), by decide +kernel⟩
theorem mf_X9_rank : MF yX9_rank cX9_rank 3 (some .int) 1 := ⟨List.mem_of_getElem? (i := 1065) (by decide +kernel), List.mem_of_getElem? (i := 1063) (by decide +kernel), List.mem_of_getElem? (i := 1064) (by decide +kernel), List.mem_of_getElem? (i := 63) (by decide +kernel), by decide +kernel⟩
theorem mf_X9_rate : MF yX9_rate cX9_rate 4 (some .int) 2 := ⟨List.mem_of_getElem? (i := 861) (by decide +kernel), List.mem_of_getElem? (i := 859) (by decide +kernel), List.mem_of_getElem? (i := 860) (by decide +kernel), List.mem_of_getElem? (i := 63) (by decide +kernel), by decide +kernel⟩
theorem mf_X9_rateIn : MF yX9_rateIn cX9_rateIn 3 (some .int) 2 := ⟨List.mem_of_getElem? (i := 1061) (by decide +kernel), List.mem_of_getElem? (i := 1060) (by decide +kernel), List.mem_of_getElem? (i := 48) (by decide +kernel), List.mem_of_getElem? (i := 63) (by decide +kernel), by decide +kernel⟩
theorem mf_X9_rateOf : MF yX9_rateOf cX9_rateOf 2 (some .int) 1 := ⟨List.mem_of_getElem? (i := 945) (by decide +kernel), List.mem_of_getElem? (i := 944) (by decide +kernel), List.mem_of_getElem? (i := 32) (by decide +kernel), List.mem_of_getElem? (i := 63) (by decide +kernel), by decide +kernel⟩
theorem mf_X9_refusal : MF yX9_refusal cX9_refusal 1 (some .int) 0 := ⟨List.mem_of_getElem? (i := 916) (by decide +kernel), List.mem_of_getElem? (i := 915) (by decide +kernel), List.mem_of_getElem? (i := 25) (by decide +kernel), List.mem_of_getElem? (i := 63) (by decide +kernel), by decide +kernel⟩
theorem mf_X9_restore : MF yX9_restore cX9_restore 2 (some .int) 1 := ⟨List.mem_of_getElem? (i := 1115) (by decide +kernel), List.mem_of_getElem? (i := 1113) (by decide +kernel), List.mem_of_getElem? (i := 1114) (by decide +kernel), List.mem_of_getElem? (i := 63) (by decide +kernel), by decide +kernel⟩
theorem mf_X9_rests : MF yX9_rests cX9_rests 12 (some .int) 4 := ⟨List.mem_of_getElem? (i := 1091) (by decide +kernel), List.mem_of_getElem? (i := 1089) (by decide +kernel), List.mem_of_getElem? (i := 1090) (by decide +kernel), List.mem_of_getElem? (i := 63) (by decide +kernel), by decide +kernel⟩
theorem mf_X9_say : MF yX9_say cX9_say 2 (some .int) 1 := ⟨List.mem_of_getElem? (i := 871) (by decide +kernel), List.mem_of_getElem? (i := 869) (by decide +kernel), List.mem_of_getElem? (i := 870) (by decide +kernel), List.mem_of_getElem? (i := 63) (by decide +kernel), by decide +kernel⟩
theorem mf_X9_seen : MF yX9_seen cX9_seen 5 (some .int) 3 := ⟨List.mem_of_getElem? (i := 1036) (by decide +kernel), List.mem_of_getElem? (i := 1034) (by decide +kernel), List.mem_of_getElem? (i := 1035) (by decide +kernel), List.mem_of_getElem? (i := 63) (by decide +kernel), by decide +kernel⟩
theorem mf_X9_store : MF yX9_store cX9_store 3 (none) 1 := ⟨List.mem_of_getElem? (i := 921) (by decide +kernel), List.mem_of_getElem? (i := 920) (by decide +kernel), List.mem_of_getElem? (i := 26) (by decide +kernel), List.mem_of_getElem? (i := 63) (by decide +kernel), by decide +kernel⟩
theorem mf_X9_sumOpen : MF yX9_sumOpen cX9_sumOpen 4 (some .int) 1 := ⟨List.mem_of_getElem? (i := 972) (by decide +kernel), List.mem_of_getElem? (i := 971) (by decide +kernel), List.mem_of_getElem? (i := 38) (by decide +kernel), List.mem_of_getElem? (i := 63) (by decide +kernel), by decide +kernel⟩
theorem mf_X9_theirs : MS yX9_theirs cX9_theirs 1 (some .int) 1 := ⟨List.mem_of_getElem? (i := 893) (by decide +kernel), List.mem_of_getElem? (i := 892) (by decide +kernel), List.mem_of_getElem? (i := 63) (by decide +kernel), by decide +kernel⟩
theorem mf_X9_told : MF yX9_told cX9_told 2 (some .int) 1 := ⟨List.mem_of_getElem? (i := 1119) (by decide +kernel), List.mem_of_getElem? (i := 1117) (by decide +kernel), List.mem_of_getElem? (i := 1118) (by decide +kernel), List.mem_of_getElem? (i := 63) (by decide +kernel), by decide +kernel⟩
theorem mf_X9_trust : MF yX9_trust cX9_trust 3 (some .int) 1 := ⟨List.mem_of_getElem? (i := 866) (by decide +kernel), List.mem_of_getElem? (i := 864) (by decide +kernel), List.mem_of_getElem? (i := 865) (by decide +kernel), List.mem_of_getElem? (i := 63) (by decide +kernel), by decide +kernel⟩
theorem mf_X9_weigh : MF yX9_weigh cX9_weigh 7 (some .int) 1 := ⟨List.mem_of_getElem? (i := 1069) (by decide +kernel), List.mem_of_getElem? (i := 1067) (by decide +kernel), List.mem_of_getElem? (i := 1068) (by decide +kernel), List.mem_of_getElem? (i := 63) (by decide +kernel), by decide +kernel⟩
theorem mf_X9_whyNot : MF yX9_whyNot cX9_whyNot 5 (some .int) 3 := ⟨List.mem_of_getElem? (i := 929) (by decide +kernel), List.mem_of_getElem? (i := 928) (by decide +kernel), List.mem_of_getElem? (i := 28) (by decide +kernel), List.mem_of_getElem? (i := 63) (by decide +kernel), by decide +kernel⟩
theorem mf_X9_wipe : MF yX9_wipe cX9_wipe 2 (some .int) 0 := ⟨List.mem_of_getElem? (i := 877) (by decide +kernel), List.mem_of_getElem? (i := 875) (by decide +kernel), List.mem_of_getElem? (i := 876) (by decide +kernel), List.mem_of_getElem? (i := 63) (by decide +kernel), by decide +kernel⟩
theorem mf_X9_worthOf : MF yX9_worthOf cX9_worthOf 5 (some .int) 1 := ⟨List.mem_of_getElem? (i := 941) (by decide +kernel), List.mem_of_getElem? (i := 940) (by decide +kernel), List.mem_of_getElem? (i := 31) (by decide +kernel), List.mem_of_getElem? (i := 63) (by decide +kernel), by decide +kernel⟩
theorem mf_X9_year : MF yX9_year cX9_year 11 (some .int) 3 := ⟨List.mem_of_getElem? (i := 1095) (by decide +kernel), List.mem_of_getElem? (i := 1093) (by decide +kernel), List.mem_of_getElem? (i := 1094) (by decide +kernel), List.mem_of_getElem? (i := 63) (by decide +kernel), by decide +kernel⟩
def shX : List Sh := [.inr (.inl (8, [some (some 1), some (some 6), some (some 8), some (some 14), some (some 20), some (some 24), some (some 26), some (some 27), some (some 33), some (some 44)])), .inr (.inl (0, [none, none, none, none, some (some 2), some (some 3), some (some 4), some (some 5)])), .inl (0, 12), .inl (0, 12), .inl (0, 6), .inl (0, 8), .inr (.inl (4, [some (some 7), none])), .inl (0, 60), .inr (.inl (3, [some (some 9), none, none, none, none, none, none, none])), .inr (.inl (0, [none, none, none, none, some (some 10), some (some 11), some (some 12), some (some 13)])), .inl (0, 12), .inl (0, 12), .inl (0, 6), .inl (0, 8), .inr (.inl (2, [none, none, none, none, some (some 15), some (some 16), some (some 17), some (some 18), some (some 19)])), .inl (0, 64), .inl (0, 64), .inl (1, 64), .inl (1, 64), .inl (1, 64), .inr (.inl (6, [none, none, none, some (some 21), some (some 22), some (some 23)])), .inl (0, 61), .inl (0, 61), .inl (0, 8), .inr (.inl (1, [some (some 25), none, some none])), .inl (1, 13), .inr (.inl (5, [none, none, none])), .inr (.inl (7, [some (some 28), none, none])), .inr (.inl (0, [none, none, none, none, some (some 29), some (some 30), some (some 31), some (some 32)])), .inl (0, 12), .inl (0, 12), .inl (0, 6), .inl (0, 8), .inr (.inr [34, 39]), .inr (.inl (0, [none, none, none, none, some (some 35), some (some 36), some (some 37), some (some 38)])), .inl (0, 12), .inl (0, 12), .inl (0, 6), .inl (0, 8), .inr (.inl (0, [none, none, none, none, some (some 40), some (some 41), some (some 42), some (some 43)])), .inl (0, 12), .inl (0, 12), .inl (0, 6), .inl (0, 8), .inl (2, 2)]
theorem sx_0 {G : Rg} (hG : gS G = shX) : (gS G)[0]? = some (.inr (.inl (8, [some (some 1), some (some 6), some (some 8), some (some 14), some (some 20), some (some 24), some (some 26), some (some 27), some (some 33), some (some 44)]))) := by rw [hG]; rfl
theorem sx_1 {G : Rg} (hG : gS G = shX) : (gS G)[1]? = some (.inr (.inl (0, [none, none, none, none, some (some 2), some (some 3), some (some 4), some (some 5)]))) := by rw [hG]; rfl
theorem sx_2 {G : Rg} (hG : gS G = shX) : (gS G)[2]? = some (.inl (0, 12)) := by rw [hG]; rfl
theorem sx_3 {G : Rg} (hG : gS G = shX) : (gS G)[3]? = some (.inl (0, 12)) := by rw [hG]; rfl
theorem sx_4 {G : Rg} (hG : gS G = shX) : (gS G)[4]? = some (.inl (0, 6)) := by rw [hG]; rfl
theorem sx_5 {G : Rg} (hG : gS G = shX) : (gS G)[5]? = some (.inl (0, 8)) := by rw [hG]; rfl
theorem sx_6 {G : Rg} (hG : gS G = shX) : (gS G)[6]? = some (.inr (.inl (4, [some (some 7), none]))) := by rw [hG]; rfl
theorem sx_7 {G : Rg} (hG : gS G = shX) : (gS G)[7]? = some (.inl (0, 60)) := by rw [hG]; rfl
theorem sx_8 {G : Rg} (hG : gS G = shX) : (gS G)[8]? = some (.inr (.inl (3, [some (some 9), none, none, none, none, none, none, none]))) := by rw [hG]; rfl
theorem sx_9 {G : Rg} (hG : gS G = shX) : (gS G)[9]? = some (.inr (.inl (0, [none, none, none, none, some (some 10), some (some 11), some (some 12), some (some 13)]))) := by rw [hG]; rfl
theorem sx_10 {G : Rg} (hG : gS G = shX) : (gS G)[10]? = some (.inl (0, 12)) := by rw [hG]; rfl
theorem sx_11 {G : Rg} (hG : gS G = shX) : (gS G)[11]? = some (.inl (0, 12)) := by rw [hG]; rfl
theorem sx_12 {G : Rg} (hG : gS G = shX) : (gS G)[12]? = some (.inl (0, 6)) := by rw [hG]; rfl
theorem sx_13 {G : Rg} (hG : gS G = shX) : (gS G)[13]? = some (.inl (0, 8)) := by rw [hG]; rfl
theorem sx_14 {G : Rg} (hG : gS G = shX) : (gS G)[14]? = some (.inr (.inl (2, [none, none, none, none, some (some 15), some (some 16), some (some 17), some (some 18), some (some 19)]))) := by rw [hG]; rfl
theorem sx_15 {G : Rg} (hG : gS G = shX) : (gS G)[15]? = some (.inl (0, 64)) := by rw [hG]; rfl
theorem sx_16 {G : Rg} (hG : gS G = shX) : (gS G)[16]? = some (.inl (0, 64)) := by rw [hG]; rfl
theorem sx_17 {G : Rg} (hG : gS G = shX) : (gS G)[17]? = some (.inl (1, 64)) := by rw [hG]; rfl
theorem sx_18 {G : Rg} (hG : gS G = shX) : (gS G)[18]? = some (.inl (1, 64)) := by rw [hG]; rfl
theorem sx_19 {G : Rg} (hG : gS G = shX) : (gS G)[19]? = some (.inl (1, 64)) := by rw [hG]; rfl
theorem sx_20 {G : Rg} (hG : gS G = shX) : (gS G)[20]? = some (.inr (.inl (6, [none, none, none, some (some 21), some (some 22), some (some 23)]))) := by rw [hG]; rfl
theorem sx_21 {G : Rg} (hG : gS G = shX) : (gS G)[21]? = some (.inl (0, 61)) := by rw [hG]; rfl
theorem sx_22 {G : Rg} (hG : gS G = shX) : (gS G)[22]? = some (.inl (0, 61)) := by rw [hG]; rfl
theorem sx_23 {G : Rg} (hG : gS G = shX) : (gS G)[23]? = some (.inl (0, 8)) := by rw [hG]; rfl
theorem sx_24 {G : Rg} (hG : gS G = shX) : (gS G)[24]? = some (.inr (.inl (1, [some (some 25), none, some none]))) := by rw [hG]; rfl
theorem sx_25 {G : Rg} (hG : gS G = shX) : (gS G)[25]? = some (.inl (1, 13)) := by rw [hG]; rfl
theorem sx_26 {G : Rg} (hG : gS G = shX) : (gS G)[26]? = some (.inr (.inl (5, [none, none, none]))) := by rw [hG]; rfl
theorem sx_27 {G : Rg} (hG : gS G = shX) : (gS G)[27]? = some (.inr (.inl (7, [some (some 28), none, none]))) := by rw [hG]; rfl
theorem sx_28 {G : Rg} (hG : gS G = shX) : (gS G)[28]? = some (.inr (.inl (0, [none, none, none, none, some (some 29), some (some 30), some (some 31), some (some 32)]))) := by rw [hG]; rfl
theorem sx_29 {G : Rg} (hG : gS G = shX) : (gS G)[29]? = some (.inl (0, 12)) := by rw [hG]; rfl
theorem sx_30 {G : Rg} (hG : gS G = shX) : (gS G)[30]? = some (.inl (0, 12)) := by rw [hG]; rfl
theorem sx_31 {G : Rg} (hG : gS G = shX) : (gS G)[31]? = some (.inl (0, 6)) := by rw [hG]; rfl
theorem sx_32 {G : Rg} (hG : gS G = shX) : (gS G)[32]? = some (.inl (0, 8)) := by rw [hG]; rfl
theorem sx_33 {G : Rg} (hG : gS G = shX) : (gS G)[33]? = some (.inr (.inr [34, 39])) := by rw [hG]; rfl
theorem sx_34 {G : Rg} (hG : gS G = shX) : (gS G)[34]? = some (.inr (.inl (0, [none, none, none, none, some (some 35), some (some 36), some (some 37), some (some 38)]))) := by rw [hG]; rfl
theorem sx_35 {G : Rg} (hG : gS G = shX) : (gS G)[35]? = some (.inl (0, 12)) := by rw [hG]; rfl
theorem sx_36 {G : Rg} (hG : gS G = shX) : (gS G)[36]? = some (.inl (0, 12)) := by rw [hG]; rfl
theorem sx_37 {G : Rg} (hG : gS G = shX) : (gS G)[37]? = some (.inl (0, 6)) := by rw [hG]; rfl
theorem sx_38 {G : Rg} (hG : gS G = shX) : (gS G)[38]? = some (.inl (0, 8)) := by rw [hG]; rfl
theorem sx_39 {G : Rg} (hG : gS G = shX) : (gS G)[39]? = some (.inr (.inl (0, [none, none, none, none, some (some 40), some (some 41), some (some 42), some (some 43)]))) := by rw [hG]; rfl
theorem sx_40 {G : Rg} (hG : gS G = shX) : (gS G)[40]? = some (.inl (0, 12)) := by rw [hG]; rfl
theorem sx_41 {G : Rg} (hG : gS G = shX) : (gS G)[41]? = some (.inl (0, 12)) := by rw [hG]; rfl
theorem sx_42 {G : Rg} (hG : gS G = shX) : (gS G)[42]? = some (.inl (0, 6)) := by rw [hG]; rfl
theorem sx_43 {G : Rg} (hG : gS G = shX) : (gS G)[43]? = some (.inl (0, 8)) := by rw [hG]; rfl
theorem sx_44 {G : Rg} (hG : gS G = shX) : (gS G)[44]? = some (.inl (2, 2)) := by rw [hG]; rfl
def shM : List Sh := [.inr (.inl (9, [none, none, some (some 1), some (some 2), some (some 3), some (some 4), some (some 5), some (some 6), none, some (some 7), none, some (some 8), some (some 9), some (some 10), none, none, none, some (some 11), some (some 12), none, none, none, none, none, none, some (some 13), some (some 14), none, some (some 15), some (some 16), some (some 17), none, none])), .inl (0, 12), .inl (0, 12), .inl (0, 6), .inl (0, 8), .inl (0, 8), .inl (0, 8), .inl (0, 60), .inl (0, 60), .inl (0, 60), .inl (0, 60), .inl (0, 25), .inl (0, 25), .inl (0, 4096), .inl (0, 73), .inl (1, 13), .inl (0, 140), .inl (2, 2)]
theorem sm_0 {G : Rg} (hG : gS G = shM) : (gS G)[0]? = some (.inr (.inl (9, [none, none, some (some 1), some (some 2), some (some 3), some (some 4), some (some 5), some (some 6), none, some (some 7), none, some (some 8), some (some 9), some (some 10), none, none, none, some (some 11), some (some 12), none, none, none, none, none, none, some (some 13), some (some 14), none, some (some 15), some (some 16), some (some 17), none, none]))) := by rw [hG]; rfl
theorem sm_1 {G : Rg} (hG : gS G = shM) : (gS G)[1]? = some (.inl (0, 12)) := by rw [hG]; rfl
theorem sm_2 {G : Rg} (hG : gS G = shM) : (gS G)[2]? = some (.inl (0, 12)) := by rw [hG]; rfl
theorem sm_3 {G : Rg} (hG : gS G = shM) : (gS G)[3]? = some (.inl (0, 6)) := by rw [hG]; rfl
theorem sm_4 {G : Rg} (hG : gS G = shM) : (gS G)[4]? = some (.inl (0, 8)) := by rw [hG]; rfl
theorem sm_5 {G : Rg} (hG : gS G = shM) : (gS G)[5]? = some (.inl (0, 8)) := by rw [hG]; rfl
theorem sm_6 {G : Rg} (hG : gS G = shM) : (gS G)[6]? = some (.inl (0, 8)) := by rw [hG]; rfl
theorem sm_7 {G : Rg} (hG : gS G = shM) : (gS G)[7]? = some (.inl (0, 60)) := by rw [hG]; rfl
theorem sm_8 {G : Rg} (hG : gS G = shM) : (gS G)[8]? = some (.inl (0, 60)) := by rw [hG]; rfl
theorem sm_9 {G : Rg} (hG : gS G = shM) : (gS G)[9]? = some (.inl (0, 60)) := by rw [hG]; rfl
theorem sm_10 {G : Rg} (hG : gS G = shM) : (gS G)[10]? = some (.inl (0, 60)) := by rw [hG]; rfl
theorem sm_11 {G : Rg} (hG : gS G = shM) : (gS G)[11]? = some (.inl (0, 25)) := by rw [hG]; rfl
theorem sm_12 {G : Rg} (hG : gS G = shM) : (gS G)[12]? = some (.inl (0, 25)) := by rw [hG]; rfl
theorem sm_13 {G : Rg} (hG : gS G = shM) : (gS G)[13]? = some (.inl (0, 4096)) := by rw [hG]; rfl
theorem sm_14 {G : Rg} (hG : gS G = shM) : (gS G)[14]? = some (.inl (0, 73)) := by rw [hG]; rfl
theorem sm_15 {G : Rg} (hG : gS G = shM) : (gS G)[15]? = some (.inl (1, 13)) := by rw [hG]; rfl
theorem sm_16 {G : Rg} (hG : gS G = shM) : (gS G)[16]? = some (.inl (0, 140)) := by rw [hG]; rfl
theorem sm_17 {G : Rg} (hG : gS G = shM) : (gS G)[17]? = some (.inl (2, 2)) := by rw [hG]; rfl
theorem bx_1 {G : Rg} (hG : gS G = shX) : isB G 1 := ⟨sx_1 hG, sx_2 hG, sx_3 hG, sx_4 hG, sx_5 hG⟩
theorem bx_9 {G : Rg} (hG : gS G = shX) : isB G 9 := ⟨sx_9 hG, sx_10 hG, sx_11 hG, sx_12 hG, sx_13 hG⟩
theorem bx_28 {G : Rg} (hG : gS G = shX) : isB G 28 := ⟨sx_28 hG, sx_29 hG, sx_30 hG, sx_31 hG, sx_32 hG⟩
theorem bx_34 {G : Rg} (hG : gS G = shX) : isB G 34 := ⟨sx_34 hG, sx_35 hG, sx_36 hG, sx_37 hG, sx_38 hG⟩
theorem bx_39 {G : Rg} (hG : gS G = shX) : isB G 39 := ⟨sx_39 hG, sx_40 hG, sx_41 hG, sx_42 hG, sx_43 hG⟩
def imgC (i : Int32) : Nat := if i = 0 then 34 else 39
theorem img_B {G : Rg} (hG : gS G = shX) (i : Int32) : isB G (imgC i) := by
  unfold imgC
  split
  · exact bx_34 hG
  · exact bx_39 hG
theorem img_at {i : Int32} (h : inb i 2 = true) : ([34, 39] : List Nat)[i.toNatClampNeg]? = some (imgC i) := by
  obtain ⟨j, hj, rfl⟩ := vp_in_of (inb_in h) (by decide)
  match j, hj with
  | 0, _ => rfl
  | 1, _ => rfl
end
section
theorem dX8_isWithin_0 : decode cX8_isWithin 0 = .ok (.iload_n 0, 1) := by decide +kernel
theorem dX8_isWithin_1 : decode cX8_isWithin 1 = .ok (.iload_n 1, 1) := by decide +kernel
theorem dX8_isWithin_2 : decode cX8_isWithin 2 = .ok (.if_icmp .lt 12, 3) := by decide +kernel
theorem dX8_isWithin_5 : decode cX8_isWithin 5 = .ok (.iload_n 0, 1) := by decide +kernel
theorem dX8_isWithin_6 : decode cX8_isWithin 6 = .ok (.iload_n 2, 1) := by decide +kernel
theorem dX8_isWithin_7 : decode cX8_isWithin 7 = .ok (.if_icmp .gt 7, 3) := by decide +kernel
theorem dX8_isWithin_10 : decode cX8_isWithin 10 = .ok (.iconst 1, 1) := by decide +kernel
theorem dX8_isWithin_11 : decode cX8_isWithin 11 = .ok (.goto 4, 3) := by decide +kernel
theorem dX8_isWithin_14 : decode cX8_isWithin 14 = .ok (.iconst 0, 1) := by decide +kernel
theorem dX8_isWithin_15 : decode cX8_isWithin 15 = .ok (.ireturn, 1) := by decide +kernel
abbrev cxX8_isWithin (G : Rg) (X : Ct) : Prop := Cx G X cX8_isWithin 3 RX8 (some .boolean) 0 0 (Cond.code yX8_isWithin cX8_isWithin 3 (some .boolean))
def fX8_isWithin (x0 : Int32) (x1 : Int32) (x2 : Int32) (M : Mm) : Option (Int32 × Mm) :=
if x0 < x1 then
(some ((0 : Int32), M))
else
(if x2 < x0 then
(some ((0 : Int32), M))
else
(some ((1 : Int32), M)))
set_option maxHeartbeats 4000000 in
set_option maxRecDepth 100000 in
theorem mX8_isWithin (l : Launch) {G : Rg} (hG : gS G = shX) {x0 : Int32} {x1 : Int32} {x2 : Int32}  {M Mf : Mm} {r : Int32} (hf : fX8_isWithin x0 x1 x2 M = some (r, Mf)) : Mt l G yX8_isWithin cX8_isWithin 3 (some .boolean) 0 0 [.int x0, .int x1, .int x2] M (some (.int r)) Mf := by
  refine Mt.of (by decide) (Nat.le_of_ble_eq_true rfl) ?_
  intro X C hX
  subst hX
  have C : cxX8_isWithin G X := C
  show V G X 3 (some (.int r)) Mf 0 [(0, .int x0), (1, .int x1), (2, .int x2)] [] M
  rw [fX8_isWithin] at hf
  refine V.iload_n (pc := 0) C 0 rfl dX8_isWithin_0 ?_
  refine V.iload_n (pc := 1) C 1 rfl dX8_isWithin_1 ?_
  rcases it_some hf with ⟨h1, hf⟩ | ⟨h1, hf⟩
  · refine V.ic_ltT (pc := 2) C 14 h1 (by decide) dX8_isWithin_2 ?_
    refine V.iconst (pc := 14) C (0 : Int32) (by decide) dX8_isWithin_14 ?_
    exact V.retZ (pc := 15) C (Or.inl rfl) hf dX8_isWithin_15
  · refine V.ic_ltF (pc := 2) C 14 h1 (by decide) dX8_isWithin_2 ?_
    refine V.iload_n (pc := 5) C 0 rfl dX8_isWithin_5 ?_
    refine V.iload_n (pc := 6) C 2 rfl dX8_isWithin_6 ?_
    rcases it_some hf with ⟨h2, hf⟩ | ⟨h2, hf⟩
    · refine V.ic_gtT (pc := 7) C 14 h2 (by decide) dX8_isWithin_7 ?_
      refine V.iconst (pc := 14) C (0 : Int32) (by decide) dX8_isWithin_14 ?_
      exact V.retZ (pc := 15) C (Or.inl rfl) hf dX8_isWithin_15
    · refine V.ic_gtF (pc := 7) C 14 h2 (by decide) dX8_isWithin_7 ?_
      refine V.iconst (pc := 10) C (1 : Int32) (by decide) dX8_isWithin_10 ?_
      refine V.goto (pc := 11) C 15 (by decide) dX8_isWithin_11 ?_
      exact V.retZ (pc := 15) C (Or.inr rfl) hf dX8_isWithin_15
theorem dX0_enter_0 : decode cX0_enter 0 = .ok (.aload_n 0, 1) := by decide +kernel
theorem dX0_enter_1 : decode cX0_enter 1 = .ok (.dup, 1) := by decide +kernel
theorem dX0_enter_2 : decode cX0_enter 2 = .ok (.getfield 28, 3) := by decide +kernel
theorem dX0_enter_5 : decode cX0_enter 5 = .ok (.iconst 1, 1) := by decide +kernel
theorem dX0_enter_6 : decode cX0_enter 6 = .ok (.iload_n 1, 1) := by decide +kernel
theorem dX0_enter_7 : decode cX0_enter 7 = .ok (.ishl, 1) := by decide +kernel
theorem dX0_enter_8 : decode cX0_enter 8 = .ok (.ior, 1) := by decide +kernel
theorem dX0_enter_9 : decode cX0_enter 9 = .ok (.putfield 28, 3) := by decide +kernel
theorem dX0_enter_12 : decode cX0_enter 12 = .ok (.aload_n 0, 1) := by decide +kernel
theorem dX0_enter_13 : decode cX0_enter 13 = .ok (.getfield 15, 3) := by decide +kernel
theorem dX0_enter_16 : decode cX0_enter 16 = .ok (.iload_n 1, 1) := by decide +kernel
theorem dX0_enter_17 : decode cX0_enter 17 = .ok (.iload_n 2, 1) := by decide +kernel
theorem dX0_enter_18 : decode cX0_enter 18 = .ok (.iastore, 1) := by decide +kernel
theorem dX0_enter_19 : decode cX0_enter 19 = .ok (.aload_n 0, 1) := by decide +kernel
theorem dX0_enter_20 : decode cX0_enter 20 = .ok (.getfield 19, 3) := by decide +kernel
theorem dX0_enter_23 : decode cX0_enter 23 = .ok (.iload_n 1, 1) := by decide +kernel
theorem dX0_enter_24 : decode cX0_enter 24 = .ok (.iconst 0, 1) := by decide +kernel
theorem dX0_enter_25 : decode cX0_enter 25 = .ok (.iastore, 1) := by decide +kernel
theorem dX0_enter_26 : decode cX0_enter 26 = .ok (.return_, 1) := by decide +kernel
abbrev cxX0_enter (G : Rg) (X : Ct) : Prop := Cx G X cX0_enter 3 RX0 (none) 0 0 (Cond.code yX0_enter cX0_enter 3 (none))
def fX0_enter (c0 : Nat) (x1 : Int32) (x2 : Int32) (M : Mm) : Option (Unit × Mm) :=
gd (inb x1 12) (
gd (inb x1 12) (
some ((), (sI (sI (sI M c0 0 ((M.1 c0 0) ||| (jshl (1 : Int32) x1))) (c0 + 1) x1.toNatClampNeg x2) (c0 + 2) x1.toNatClampNeg (0 : Int32)))))
set_option maxHeartbeats 4000000 in
set_option maxRecDepth 100000 in
theorem mX0_enter (l : Launch) {G : Rg} (hG : gS G = shX) {c0 : Nat} {x1 : Int32} {x2 : Int32} (hB0 : isB G c0) {M Mf : Mm} {r : Unit} (hf : fX0_enter c0 x1 x2 M = some (r, Mf)) : Mt l G yX0_enter cX0_enter 3 (none) 0 0 [.ref (gA G c0), .int x1, .int x2] M none Mf := by
  refine Mt.of (by decide) (Nat.le_of_ble_eq_true rfl) ?_
  intro X C hX
  subst hX
  have C : cxX0_enter G X := C
  show V G X 3 none Mf 0 [(0, .ref (gA G c0)), (1, .int x1), (2, .int x2)] [] M
  rw [fX0_enter] at hf
  refine V.aload_n (pc := 0) C 0 rfl dX0_enter_0 ?_
  refine V.dup (pc := 1) C rfl dX0_enter_1 ?_
  refine V.getI (pc := 2) C clX0 inX0 hB0.1 0 (by decide) wF_X0_28 rfl dX0_enter_2 ?_
  refine V.iconst (pc := 5) C (1 : Int32) (by decide) dX0_enter_5 ?_
  refine V.iload_n (pc := 6) C 1 rfl dX0_enter_6 ?_
  refine V.ishl (pc := 7) C dX0_enter_7 ?_
  refine V.ior (pc := 8) C dX0_enter_8 ?_
  refine V.putI (pc := 9) C clX0 inX0 hB0.1 0 (by decide) wF_X0_28 tyX0 tyX0_ok nmX0 rfl (tyX0_ok 0 (by decide)) rfl dX0_enter_9 ?_
  refine V.aload_n (pc := 12) C 0 rfl dX0_enter_12 ?_
  refine V.getR (pc := 13) C clX0 inX0 hB0.1 4 (by decide) wF_X0_15 rfl dX0_enter_13 ?_
  refine V.iload_n (pc := 16) C 1 rfl dX0_enter_16 ?_
  refine V.iload_n (pc := 17) C 2 rfl dX0_enter_17 ?_
  obtain ⟨g1, hf⟩ := gd_some hf
  refine V.iast (pc := 18) C hB0.2.1 (inb_in g1) dX0_enter_18 ?_
  refine V.aload_n (pc := 19) C 0 rfl dX0_enter_19 ?_
  refine V.getR (pc := 20) C clX0 inX0 hB0.1 5 (by decide) wF_X0_19 rfl dX0_enter_20 ?_
  refine V.iload_n (pc := 23) C 1 rfl dX0_enter_23 ?_
  refine V.iconst (pc := 24) C (0 : Int32) (by decide) dX0_enter_24 ?_
  obtain ⟨g2, hf⟩ := gd_some hf
  refine V.iast (pc := 25) C hB0.2.2.1 (inb_in g2) dX0_enter_25 ?_
  exact V.retV (pc := 26) C hf dX0_enter_26
theorem dJ6_bitCount_0f7a4_0 : decode cJ6_bitCount_0f7a4 0 = .ok (.iload_n 0, 1) := by decide +kernel
theorem dJ6_bitCount_0f7a4_1 : decode cJ6_bitCount_0f7a4 1 = .ok (.iload_n 0, 1) := by decide +kernel
theorem dJ6_bitCount_0f7a4_2 : decode cJ6_bitCount_0f7a4 2 = .ok (.iconst 1, 1) := by decide +kernel
theorem dJ6_bitCount_0f7a4_3 : decode cJ6_bitCount_0f7a4 3 = .ok (.iushr, 1) := by decide +kernel
theorem dJ6_bitCount_0f7a4_4 : decode cJ6_bitCount_0f7a4 4 = .ok (.ldc_w 265, 3) := by decide +kernel
theorem dJ6_bitCount_0f7a4_7 : decode cJ6_bitCount_0f7a4 7 = .ok (.iand, 1) := by decide +kernel
theorem dJ6_bitCount_0f7a4_8 : decode cJ6_bitCount_0f7a4 8 = .ok (.isub, 1) := by decide +kernel
theorem dJ6_bitCount_0f7a4_9 : decode cJ6_bitCount_0f7a4 9 = .ok (.istore_n 0, 1) := by decide +kernel
theorem dJ6_bitCount_0f7a4_10 : decode cJ6_bitCount_0f7a4 10 = .ok (.iload_n 0, 1) := by decide +kernel
theorem dJ6_bitCount_0f7a4_11 : decode cJ6_bitCount_0f7a4 11 = .ok (.ldc_w 266, 3) := by decide +kernel
theorem dJ6_bitCount_0f7a4_14 : decode cJ6_bitCount_0f7a4 14 = .ok (.iand, 1) := by decide +kernel
theorem dJ6_bitCount_0f7a4_15 : decode cJ6_bitCount_0f7a4 15 = .ok (.iload_n 0, 1) := by decide +kernel
theorem dJ6_bitCount_0f7a4_16 : decode cJ6_bitCount_0f7a4 16 = .ok (.iconst 2, 1) := by decide +kernel
theorem dJ6_bitCount_0f7a4_17 : decode cJ6_bitCount_0f7a4 17 = .ok (.iushr, 1) := by decide +kernel
theorem dJ6_bitCount_0f7a4_18 : decode cJ6_bitCount_0f7a4 18 = .ok (.ldc_w 266, 3) := by decide +kernel
theorem dJ6_bitCount_0f7a4_21 : decode cJ6_bitCount_0f7a4 21 = .ok (.iand, 1) := by decide +kernel
theorem dJ6_bitCount_0f7a4_22 : decode cJ6_bitCount_0f7a4 22 = .ok (.iadd, 1) := by decide +kernel
theorem dJ6_bitCount_0f7a4_23 : decode cJ6_bitCount_0f7a4 23 = .ok (.istore_n 0, 1) := by decide +kernel
theorem dJ6_bitCount_0f7a4_24 : decode cJ6_bitCount_0f7a4 24 = .ok (.iload_n 0, 1) := by decide +kernel
theorem dJ6_bitCount_0f7a4_25 : decode cJ6_bitCount_0f7a4 25 = .ok (.iload_n 0, 1) := by decide +kernel
theorem dJ6_bitCount_0f7a4_26 : decode cJ6_bitCount_0f7a4 26 = .ok (.iconst 4, 1) := by decide +kernel
theorem dJ6_bitCount_0f7a4_27 : decode cJ6_bitCount_0f7a4 27 = .ok (.iushr, 1) := by decide +kernel
theorem dJ6_bitCount_0f7a4_28 : decode cJ6_bitCount_0f7a4 28 = .ok (.iadd, 1) := by decide +kernel
theorem dJ6_bitCount_0f7a4_29 : decode cJ6_bitCount_0f7a4 29 = .ok (.ldc_w 267, 3) := by decide +kernel
theorem dJ6_bitCount_0f7a4_32 : decode cJ6_bitCount_0f7a4 32 = .ok (.iand, 1) := by decide +kernel
theorem dJ6_bitCount_0f7a4_33 : decode cJ6_bitCount_0f7a4 33 = .ok (.istore_n 0, 1) := by decide +kernel
theorem dJ6_bitCount_0f7a4_34 : decode cJ6_bitCount_0f7a4 34 = .ok (.iload_n 0, 1) := by decide +kernel
theorem dJ6_bitCount_0f7a4_35 : decode cJ6_bitCount_0f7a4 35 = .ok (.iload_n 0, 1) := by decide +kernel
theorem dJ6_bitCount_0f7a4_36 : decode cJ6_bitCount_0f7a4 36 = .ok (.bipush 8, 2) := by decide +kernel
theorem dJ6_bitCount_0f7a4_38 : decode cJ6_bitCount_0f7a4 38 = .ok (.iushr, 1) := by decide +kernel
theorem dJ6_bitCount_0f7a4_39 : decode cJ6_bitCount_0f7a4 39 = .ok (.iadd, 1) := by decide +kernel
theorem dJ6_bitCount_0f7a4_40 : decode cJ6_bitCount_0f7a4 40 = .ok (.istore_n 0, 1) := by decide +kernel
theorem dJ6_bitCount_0f7a4_41 : decode cJ6_bitCount_0f7a4 41 = .ok (.iload_n 0, 1) := by decide +kernel
theorem dJ6_bitCount_0f7a4_42 : decode cJ6_bitCount_0f7a4 42 = .ok (.iload_n 0, 1) := by decide +kernel
theorem dJ6_bitCount_0f7a4_43 : decode cJ6_bitCount_0f7a4 43 = .ok (.bipush 16, 2) := by decide +kernel
theorem dJ6_bitCount_0f7a4_45 : decode cJ6_bitCount_0f7a4 45 = .ok (.iushr, 1) := by decide +kernel
theorem dJ6_bitCount_0f7a4_46 : decode cJ6_bitCount_0f7a4 46 = .ok (.iadd, 1) := by decide +kernel
theorem dJ6_bitCount_0f7a4_47 : decode cJ6_bitCount_0f7a4 47 = .ok (.istore_n 0, 1) := by decide +kernel
theorem dJ6_bitCount_0f7a4_48 : decode cJ6_bitCount_0f7a4 48 = .ok (.iload_n 0, 1) := by decide +kernel
theorem dJ6_bitCount_0f7a4_49 : decode cJ6_bitCount_0f7a4 49 = .ok (.bipush 63, 2) := by decide +kernel
theorem dJ6_bitCount_0f7a4_51 : decode cJ6_bitCount_0f7a4 51 = .ok (.iand, 1) := by decide +kernel
theorem dJ6_bitCount_0f7a4_52 : decode cJ6_bitCount_0f7a4 52 = .ok (.ireturn, 1) := by decide +kernel
abbrev cxJ6_bitCount_0f7a4 (G : Rg) (X : Ct) : Prop := Cx G X cJ6_bitCount_0f7a4 1 RJ6 (some .int) 0 0 (Cond.code yJ6_bitCount_0f7a4 cJ6_bitCount_0f7a4 1 (some .int))
def fJ6_bitCount_0f7a4 (x0 : Int32) (M : Mm) : Option (Int32 × Mm) :=
lt_ (((x0 - ((jushr x0 (1 : Int32)) &&& (1431655765 : Int32))) &&& (858993459 : Int32)) + ((jushr (x0 - ((jushr x0 (1 : Int32)) &&& (1431655765 : Int32))) (2 : Int32)) &&& (858993459 : Int32))) fun y1 =>
lt_ (((y1 + (jushr y1 (4 : Int32))) &&& (252645135 : Int32)) + (jushr ((y1 + (jushr y1 (4 : Int32))) &&& (252645135 : Int32)) (8 : Int32))) fun y2 =>
some (((y2 + (jushr y2 (16 : Int32))) &&& (63 : Int32)), M)
set_option maxHeartbeats 4000000 in
set_option maxRecDepth 100000 in
theorem mJ6_bitCount_0f7a4 (l : Launch) {G : Rg} {x0 : Int32}  {M Mf : Mm} {r : Int32} (hf : fJ6_bitCount_0f7a4 x0 M = some (r, Mf)) : Mt l G yJ6_bitCount_0f7a4 cJ6_bitCount_0f7a4 1 (some .int) 0 0 [.int x0] M (some (.int r)) Mf := by
  refine Mt.of (by decide) (Nat.le_of_ble_eq_true rfl) ?_
  intro X C hX
  subst hX
  have C : cxJ6_bitCount_0f7a4 G X := C
  show V G X 1 (some (.int r)) Mf 0 [(0, .int x0)] [] M
  rw [fJ6_bitCount_0f7a4] at hf
  refine V.iload_n (pc := 0) C 0 rfl dJ6_bitCount_0f7a4_0 ?_
  refine V.iload_n (pc := 1) C 0 rfl dJ6_bitCount_0f7a4_1 ?_
  refine V.iconst (pc := 2) C (1 : Int32) (by decide) dJ6_bitCount_0f7a4_2 ?_
  refine V.iushr (pc := 3) C dJ6_bitCount_0f7a4_3 ?_
  refine V.ldcw (pc := 4) C wC_J6_265 dJ6_bitCount_0f7a4_4 ?_
  refine V.iand (pc := 7) C dJ6_bitCount_0f7a4_7 ?_
  refine V.isub (pc := 8) C dJ6_bitCount_0f7a4_8 ?_
  refine V.istore_n (pc := 9) (lv' := [(0, .int (x0 - ((jushr x0 (1 : Int32)) &&& (1431655765 : Int32))))]) C (by decide) rfl dJ6_bitCount_0f7a4_9 ?_
  refine V.iload_n (pc := 10) C 0 rfl dJ6_bitCount_0f7a4_10 ?_
  refine V.ldcw (pc := 11) C wC_J6_266 dJ6_bitCount_0f7a4_11 ?_
  refine V.iand (pc := 14) C dJ6_bitCount_0f7a4_14 ?_
  refine V.iload_n (pc := 15) C 0 rfl dJ6_bitCount_0f7a4_15 ?_
  refine V.iconst (pc := 16) C (2 : Int32) (by decide) dJ6_bitCount_0f7a4_16 ?_
  refine V.iushr (pc := 17) C dJ6_bitCount_0f7a4_17 ?_
  refine V.ldcw (pc := 18) C wC_J6_266 dJ6_bitCount_0f7a4_18 ?_
  refine V.iand (pc := 21) C dJ6_bitCount_0f7a4_21 ?_
  refine V.iadd (pc := 22) C dJ6_bitCount_0f7a4_22 ?_
  obtain ⟨y1, e1, hf⟩ := lt_some hf
  refine V.nmI C e1 ?_
  refine V.istore_n (pc := 23) (lv' := [(0, .int y1)]) C (by decide) rfl dJ6_bitCount_0f7a4_23 ?_
  refine V.iload_n (pc := 24) C 0 rfl dJ6_bitCount_0f7a4_24 ?_
  refine V.iload_n (pc := 25) C 0 rfl dJ6_bitCount_0f7a4_25 ?_
  refine V.iconst (pc := 26) C (4 : Int32) (by decide) dJ6_bitCount_0f7a4_26 ?_
  refine V.iushr (pc := 27) C dJ6_bitCount_0f7a4_27 ?_
  refine V.iadd (pc := 28) C dJ6_bitCount_0f7a4_28 ?_
  refine V.ldcw (pc := 29) C wC_J6_267 dJ6_bitCount_0f7a4_29 ?_
  refine V.iand (pc := 32) C dJ6_bitCount_0f7a4_32 ?_
  refine V.istore_n (pc := 33) (lv' := [(0, .int ((y1 + (jushr y1 (4 : Int32))) &&& (252645135 : Int32)))]) C (by decide) rfl dJ6_bitCount_0f7a4_33 ?_
  refine V.iload_n (pc := 34) C 0 rfl dJ6_bitCount_0f7a4_34 ?_
  refine V.iload_n (pc := 35) C 0 rfl dJ6_bitCount_0f7a4_35 ?_
  refine V.bipush (pc := 36) C (8 : Int32) (by decide) dJ6_bitCount_0f7a4_36 ?_
  refine V.iushr (pc := 38) C dJ6_bitCount_0f7a4_38 ?_
  refine V.iadd (pc := 39) C dJ6_bitCount_0f7a4_39 ?_
  obtain ⟨y2, e2, hf⟩ := lt_some hf
  refine V.nmI C e2 ?_
  refine V.istore_n (pc := 40) (lv' := [(0, .int y2)]) C (by decide) rfl dJ6_bitCount_0f7a4_40 ?_
  refine V.iload_n (pc := 41) C 0 rfl dJ6_bitCount_0f7a4_41 ?_
  refine V.iload_n (pc := 42) C 0 rfl dJ6_bitCount_0f7a4_42 ?_
  refine V.bipush (pc := 43) C (16 : Int32) (by decide) dJ6_bitCount_0f7a4_43 ?_
  refine V.iushr (pc := 45) C dJ6_bitCount_0f7a4_45 ?_
  refine V.iadd (pc := 46) C dJ6_bitCount_0f7a4_46 ?_
  refine V.istore_n (pc := 47) (lv' := [(0, .int (y2 + (jushr y2 (16 : Int32))))]) C (by decide) rfl dJ6_bitCount_0f7a4_47 ?_
  refine V.iload_n (pc := 48) C 0 rfl dJ6_bitCount_0f7a4_48 ?_
  refine V.bipush (pc := 49) C (63 : Int32) (by decide) dJ6_bitCount_0f7a4_49 ?_
  refine V.iand (pc := 51) C dJ6_bitCount_0f7a4_51 ?_
  exact V.retI (pc := 52) C hf dJ6_bitCount_0f7a4_52
theorem dX8_officer_0 : decode cX8_officer 0 = .ok (.iload_n 1, 1) := by decide +kernel
theorem dX8_officer_1 : decode cX8_officer 1 = .ok (.iconst 0, 1) := by decide +kernel
theorem dX8_officer_2 : decode cX8_officer 2 = .ok (.bipush 11, 2) := by decide +kernel
theorem dX8_officer_4 : decode cX8_officer 4 = .ok (.invokestatic 73, 3) := by decide +kernel
theorem dX8_officer_7 : decode cX8_officer 7 = .ok (.ifCond .ne 5, 3) := by decide +kernel
theorem dX8_officer_10 : decode cX8_officer 10 = .ok (.iconst (-1), 1) := by decide +kernel
theorem dX8_officer_11 : decode cX8_officer 11 = .ok (.ireturn, 1) := by decide +kernel
theorem dX8_officer_12 : decode cX8_officer 12 = .ok (.iload_n 2, 1) := by decide +kernel
theorem dX8_officer_13 : decode cX8_officer 13 = .ok (.iconst 0, 1) := by decide +kernel
theorem dX8_officer_14 : decode cX8_officer 14 = .ok (.iconst 5, 1) := by decide +kernel
theorem dX8_officer_15 : decode cX8_officer 15 = .ok (.invokestatic 73, 3) := by decide +kernel
theorem dX8_officer_18 : decode cX8_officer 18 = .ok (.ifCond .ne 6, 3) := by decide +kernel
theorem dX8_officer_21 : decode cX8_officer 21 = .ok (.bipush (-2), 2) := by decide +kernel
theorem dX8_officer_23 : decode cX8_officer 23 = .ok (.ireturn, 1) := by decide +kernel
theorem dX8_officer_24 : decode cX8_officer 24 = .ok (.aload_n 0, 1) := by decide +kernel
theorem dX8_officer_25 : decode cX8_officer 25 = .ok (.getfield 12, 3) := by decide +kernel
theorem dX8_officer_28 : decode cX8_officer 28 = .ok (.iload_n 1, 1) := by decide +kernel
theorem dX8_officer_29 : decode cX8_officer 29 = .ok (.iload_n 2, 1) := by decide +kernel
theorem dX8_officer_30 : decode cX8_officer 30 = .ok (.invokevirtual 77, 3) := by decide +kernel
theorem dX8_officer_33 : decode cX8_officer 33 = .ok (.aload_n 0, 1) := by decide +kernel
theorem dX8_officer_34 : decode cX8_officer 34 = .ok (.getfield 12, 3) := by decide +kernel
theorem dX8_officer_37 : decode cX8_officer 37 = .ok (.getfield 81, 3) := by decide +kernel
theorem dX8_officer_40 : decode cX8_officer 40 = .ok (.invokestatic 85, 3) := by decide +kernel
theorem dX8_officer_43 : decode cX8_officer 43 = .ok (.ireturn, 1) := by decide +kernel
abbrev cxX8_officer (G : Rg) (X : Ct) : Prop := Cx G X cX8_officer 3 RX8 (some .int) 1 22 (Cond.code yX8_officer cX8_officer 3 (some .int))
def fX8_officer (x1 : Int32) (x2 : Int32) (M : Mm) : Option (Int32 × Mm) :=
bd (fX8_isWithin x1 (0 : Int32) (11 : Int32) M) fun r1 M1 =>
if r1 = 0 then
(some ((-1 : Int32), M1))
else
(bd (fX8_isWithin x2 (0 : Int32) (5 : Int32) M1) fun r3 M3 =>
if r3 = 0 then
(some ((-2 : Int32), M3))
else
(bd (fX0_enter 1 x1 x2 M3) fun _ M5 =>
bd (fJ6_bitCount_0f7a4 (M5.1 1 0) M5) fun r6 M6 =>
some (r6, M6)))
set_option maxHeartbeats 4000000 in
set_option maxRecDepth 100000 in
theorem mX8_officer (l : Launch) {G : Rg} (hG : gS G = shX) {x1 : Int32} {x2 : Int32}  {M Mf : Mm} {r : Int32} (hf : fX8_officer x1 x2 M = some (r, Mf)) : Mt l G yX8_officer cX8_officer 3 (some .int) 1 22 [.ref (gA G 0), .int x1, .int x2] M (some (.int r)) Mf := by
  refine Mt.of (by decide) (Nat.le_of_ble_eq_true rfl) ?_
  intro X C hX
  subst hX
  have C : cxX8_officer G X := C
  show V G X 3 (some (.int r)) Mf 0 [(0, .ref (gA G 0)), (1, .int x1), (2, .int x2)] [] M
  rw [fX8_officer] at hf
  refine V.iload_n (pc := 0) C 1 rfl dX8_officer_0 ?_
  refine V.iconst (pc := 1) C (0 : Int32) (by decide) dX8_officer_1 ?_
  refine V.bipush (pc := 2) C (11 : Int32) (by decide) dX8_officer_2 ?_
  obtain ⟨r1, M1, h1, hf⟩ := bd_some hf
  refine V.callSi (pc := 4) (As := [.int x1, .int (0 : Int32), .int (11 : Int32)]) (rest := []) C (mX8_isWithin X.2.1 hG  h1) mf_X8_isWithin wM_X8_73 rfl rfl ⟨by decide, by decide⟩ (Nat.le_of_ble_eq_true rfl) dX8_officer_4 ?_
  rcases it_some hf with ⟨h2, hf⟩ | ⟨h2, hf⟩
  · refine V.if_neF (pc := 7) C 12 h2 (by decide) dX8_officer_7 ?_
    refine V.iconst (pc := 10) C (-1 : Int32) (by decide) dX8_officer_10 ?_
    exact V.retI (pc := 11) C hf dX8_officer_11
  · refine V.if_neT (pc := 7) C 12 h2 (by decide) dX8_officer_7 ?_
    refine V.iload_n (pc := 12) C 2 rfl dX8_officer_12 ?_
    refine V.iconst (pc := 13) C (0 : Int32) (by decide) dX8_officer_13 ?_
    refine V.iconst (pc := 14) C (5 : Int32) (by decide) dX8_officer_14 ?_
    obtain ⟨r3, M3, h3, hf⟩ := bd_some hf
    refine V.callSi (pc := 15) (As := [.int x2, .int (0 : Int32), .int (5 : Int32)]) (rest := []) C (mX8_isWithin X.2.1 hG  h3) mf_X8_isWithin wM_X8_73 rfl rfl ⟨by decide, by decide⟩ (Nat.le_of_ble_eq_true rfl) dX8_officer_15 ?_
    rcases it_some hf with ⟨h4, hf⟩ | ⟨h4, hf⟩
    · refine V.if_neF (pc := 18) C 24 h4 (by decide) dX8_officer_18 ?_
      refine V.bipush (pc := 21) C (-2 : Int32) (by decide) dX8_officer_21 ?_
      exact V.retI (pc := 23) C hf dX8_officer_23
    · refine V.if_neT (pc := 18) C 24 h4 (by decide) dX8_officer_18 ?_
      refine V.aload_n (pc := 24) C 0 rfl dX8_officer_24 ?_
      refine V.getR (pc := 25) C clX8 inX8 (sx_0 hG) 0 (by decide) wF_X8_12 rfl dX8_officer_25 ?_
      refine V.iload_n (pc := 28) C 1 rfl dX8_officer_28 ?_
      refine V.iload_n (pc := 29) C 2 rfl dX8_officer_29 ?_
      obtain ⟨_, M5, h5, hf⟩ := bd_some hf
      refine V.callVv (pc := 30) (As := [.int x1, .int x2]) (rest := []) C (mX0_enter X.2.1 hG (bx_1 hG) h5) mf_X0_enter clX0 (sx_1 hG) wM_X8_77 rfl rfl ⟨by decide, by decide⟩ (Nat.le_of_ble_eq_true rfl) dX8_officer_30 ?_
      refine V.aload_n (pc := 33) C 0 rfl dX8_officer_33 ?_
      refine V.getR (pc := 34) C clX8 inX8 (sx_0 hG) 0 (by decide) wF_X8_12 rfl dX8_officer_34 ?_
      refine V.getI (pc := 37) C clX0 inX0 (sx_1 hG) 0 (by decide) wF_X8_81 rfl dX8_officer_37 ?_
      obtain ⟨r6, M6, h6, hf⟩ := bd_some hf
      refine V.callSi (pc := 40) (As := [.int (M5.1 1 0)]) (rest := []) C (mJ6_bitCount_0f7a4 X.2.1  h6) mf_J6_bitCount_0f7a4 wM_X8_85 rfl rfl ⟨by decide, by decide⟩ (Nat.le_of_ble_eq_true rfl) dX8_officer_40 ?_
      exact V.retI (pc := 43) C hf dX8_officer_43
theorem dX0_isThere_0 : decode cX0_isThere 0 = .ok (.iload_n 1, 1) := by decide +kernel
theorem dX0_isThere_1 : decode cX0_isThere 1 = .ok (.ifCond .lt 25, 3) := by decide +kernel
theorem dX0_isThere_4 : decode cX0_isThere 4 = .ok (.iload_n 1, 1) := by decide +kernel
theorem dX0_isThere_5 : decode cX0_isThere 5 = .ok (.bipush 12, 2) := by decide +kernel
theorem dX0_isThere_7 : decode cX0_isThere 7 = .ok (.if_icmp .ge 19, 3) := by decide +kernel
theorem dX0_isThere_10 : decode cX0_isThere 10 = .ok (.aload_n 0, 1) := by decide +kernel
theorem dX0_isThere_11 : decode cX0_isThere 11 = .ok (.getfield 28, 3) := by decide +kernel
theorem dX0_isThere_14 : decode cX0_isThere 14 = .ok (.iload_n 1, 1) := by decide +kernel
theorem dX0_isThere_15 : decode cX0_isThere 15 = .ok (.ishr, 1) := by decide +kernel
theorem dX0_isThere_16 : decode cX0_isThere 16 = .ok (.iconst 1, 1) := by decide +kernel
theorem dX0_isThere_17 : decode cX0_isThere 17 = .ok (.iand, 1) := by decide +kernel
theorem dX0_isThere_18 : decode cX0_isThere 18 = .ok (.iconst 1, 1) := by decide +kernel
theorem dX0_isThere_19 : decode cX0_isThere 19 = .ok (.if_icmp .ne 7, 3) := by decide +kernel
theorem dX0_isThere_22 : decode cX0_isThere 22 = .ok (.iconst 1, 1) := by decide +kernel
theorem dX0_isThere_23 : decode cX0_isThere 23 = .ok (.goto 4, 3) := by decide +kernel
theorem dX0_isThere_26 : decode cX0_isThere 26 = .ok (.iconst 0, 1) := by decide +kernel
theorem dX0_isThere_27 : decode cX0_isThere 27 = .ok (.ireturn, 1) := by decide +kernel
abbrev cxX0_isThere (G : Rg) (X : Ct) : Prop := Cx G X cX0_isThere 2 RX0 (some .boolean) 0 0 (Cond.code yX0_isThere cX0_isThere 2 (some .boolean))
def fX0_isThere (c0 : Nat) (x1 : Int32) (M : Mm) : Option (Int32 × Mm) :=
if x1 < 0 then
(some ((0 : Int32), M))
else
(if (12 : Int32) ≤ x1 then
(some ((0 : Int32), M))
else
(if ((jshr (M.1 c0 0) x1) &&& (1 : Int32)) = (1 : Int32) then
(some ((1 : Int32), M))
else
(some ((0 : Int32), M))))
set_option maxHeartbeats 4000000 in
set_option maxRecDepth 100000 in
theorem mX0_isThere (l : Launch) {G : Rg} (hG : gS G = shX) {c0 : Nat} {x1 : Int32} (hB0 : isB G c0) {M Mf : Mm} {r : Int32} (hf : fX0_isThere c0 x1 M = some (r, Mf)) : Mt l G yX0_isThere cX0_isThere 2 (some .boolean) 0 0 [.ref (gA G c0), .int x1] M (some (.int r)) Mf := by
  refine Mt.of (by decide) (Nat.le_of_ble_eq_true rfl) ?_
  intro X C hX
  subst hX
  have C : cxX0_isThere G X := C
  show V G X 2 (some (.int r)) Mf 0 [(0, .ref (gA G c0)), (1, .int x1)] [] M
  rw [fX0_isThere] at hf
  refine V.iload_n (pc := 0) C 1 rfl dX0_isThere_0 ?_
  rcases it_some hf with ⟨h1, hf⟩ | ⟨h1, hf⟩
  · refine V.if_ltT (pc := 1) C 26 h1 (by decide) dX0_isThere_1 ?_
    refine V.iconst (pc := 26) C (0 : Int32) (by decide) dX0_isThere_26 ?_
    exact V.retZ (pc := 27) C (Or.inl rfl) hf dX0_isThere_27
  · refine V.if_ltF (pc := 1) C 26 h1 (by decide) dX0_isThere_1 ?_
    refine V.iload_n (pc := 4) C 1 rfl dX0_isThere_4 ?_
    refine V.bipush (pc := 5) C (12 : Int32) (by decide) dX0_isThere_5 ?_
    rcases it_some hf with ⟨h2, hf⟩ | ⟨h2, hf⟩
    · refine V.ic_geT (pc := 7) C 26 h2 (by decide) dX0_isThere_7 ?_
      refine V.iconst (pc := 26) C (0 : Int32) (by decide) dX0_isThere_26 ?_
      exact V.retZ (pc := 27) C (Or.inl rfl) hf dX0_isThere_27
    · refine V.ic_geF (pc := 7) C 26 h2 (by decide) dX0_isThere_7 ?_
      refine V.aload_n (pc := 10) C 0 rfl dX0_isThere_10 ?_
      refine V.getI (pc := 11) C clX0 inX0 hB0.1 0 (by decide) wF_X0_28 rfl dX0_isThere_11 ?_
      refine V.iload_n (pc := 14) C 1 rfl dX0_isThere_14 ?_
      refine V.ishr (pc := 15) C dX0_isThere_15 ?_
      refine V.iconst (pc := 16) C (1 : Int32) (by decide) dX0_isThere_16 ?_
      refine V.iand (pc := 17) C dX0_isThere_17 ?_
      refine V.iconst (pc := 18) C (1 : Int32) (by decide) dX0_isThere_18 ?_
      rcases it_some hf with ⟨h3, hf⟩ | ⟨h3, hf⟩
      · refine V.ic_neF (pc := 19) C 26 h3 (by decide) dX0_isThere_19 ?_
        refine V.iconst (pc := 22) C (1 : Int32) (by decide) dX0_isThere_22 ?_
        refine V.goto (pc := 23) C 27 (by decide) dX0_isThere_23 ?_
        exact V.retZ (pc := 27) C (Or.inr rfl) hf dX0_isThere_27
      · refine V.ic_neT (pc := 19) C 26 h3 (by decide) dX0_isThere_19 ?_
        refine V.iconst (pc := 26) C (0 : Int32) (by decide) dX0_isThere_26 ?_
        exact V.retZ (pc := 27) C (Or.inl rfl) hf dX0_isThere_27
theorem dX8_leave_0 : decode cX8_leave 0 = .ok (.aload_n 0, 1) := by decide +kernel
theorem dX8_leave_1 : decode cX8_leave 1 = .ok (.getfield 12, 3) := by decide +kernel
theorem dX8_leave_4 : decode cX8_leave 4 = .ok (.iload_n 1, 1) := by decide +kernel
theorem dX8_leave_5 : decode cX8_leave 5 = .ok (.invokevirtual 91, 3) := by decide +kernel
theorem dX8_leave_8 : decode cX8_leave 8 = .ok (.ifCond .ne 5, 3) := by decide +kernel
theorem dX8_leave_11 : decode cX8_leave 11 = .ok (.iconst (-1), 1) := by decide +kernel
theorem dX8_leave_12 : decode cX8_leave 12 = .ok (.ireturn, 1) := by decide +kernel
theorem dX8_leave_13 : decode cX8_leave 13 = .ok (.aload_n 0, 1) := by decide +kernel
theorem dX8_leave_14 : decode cX8_leave 14 = .ok (.getfield 12, 3) := by decide +kernel
theorem dX8_leave_17 : decode cX8_leave 17 = .ok (.dup, 1) := by decide +kernel
theorem dX8_leave_18 : decode cX8_leave 18 = .ok (.getfield 81, 3) := by decide +kernel
theorem dX8_leave_21 : decode cX8_leave 21 = .ok (.iconst 1, 1) := by decide +kernel
theorem dX8_leave_22 : decode cX8_leave 22 = .ok (.iload_n 1, 1) := by decide +kernel
theorem dX8_leave_23 : decode cX8_leave 23 = .ok (.ishl, 1) := by decide +kernel
theorem dX8_leave_24 : decode cX8_leave 24 = .ok (.iconst (-1), 1) := by decide +kernel
theorem dX8_leave_25 : decode cX8_leave 25 = .ok (.ixor, 1) := by decide +kernel
theorem dX8_leave_26 : decode cX8_leave 26 = .ok (.iand, 1) := by decide +kernel
theorem dX8_leave_27 : decode cX8_leave 27 = .ok (.putfield 81, 3) := by decide +kernel
theorem dX8_leave_30 : decode cX8_leave 30 = .ok (.aload_n 0, 1) := by decide +kernel
theorem dX8_leave_31 : decode cX8_leave 31 = .ok (.getfield 12, 3) := by decide +kernel
theorem dX8_leave_34 : decode cX8_leave 34 = .ok (.getfield 81, 3) := by decide +kernel
theorem dX8_leave_37 : decode cX8_leave 37 = .ok (.invokestatic 85, 3) := by decide +kernel
theorem dX8_leave_40 : decode cX8_leave 40 = .ok (.ireturn, 1) := by decide +kernel
abbrev cxX8_leave (G : Rg) (X : Ct) : Prop := Cx G X cX8_leave 2 RX8 (some .int) 1 21 (Cond.code yX8_leave cX8_leave 2 (some .int))
def fX8_leave (x1 : Int32) (M : Mm) : Option (Int32 × Mm) :=
bd (fX0_isThere 1 x1 M) fun r1 M1 =>
if r1 = 0 then
(some ((-1 : Int32), M1))
else
(bd (fJ6_bitCount_0f7a4 ((sI M1 1 0 ((M1.1 1 0) &&& ((jshl (1 : Int32) x1) ^^^ (-1 : Int32)))).1 1 0) (sI M1 1 0 ((M1.1 1 0) &&& ((jshl (1 : Int32) x1) ^^^ (-1 : Int32))))) fun r3 M3 =>
some (r3, M3))
set_option maxHeartbeats 4000000 in
set_option maxRecDepth 100000 in
theorem mX8_leave (l : Launch) {G : Rg} (hG : gS G = shX) {x1 : Int32}  {M Mf : Mm} {r : Int32} (hf : fX8_leave x1 M = some (r, Mf)) : Mt l G yX8_leave cX8_leave 2 (some .int) 1 21 [.ref (gA G 0), .int x1] M (some (.int r)) Mf := by
  refine Mt.of (by decide) (Nat.le_of_ble_eq_true rfl) ?_
  intro X C hX
  subst hX
  have C : cxX8_leave G X := C
  show V G X 2 (some (.int r)) Mf 0 [(0, .ref (gA G 0)), (1, .int x1)] [] M
  rw [fX8_leave] at hf
  refine V.aload_n (pc := 0) C 0 rfl dX8_leave_0 ?_
  refine V.getR (pc := 1) C clX8 inX8 (sx_0 hG) 0 (by decide) wF_X8_12 rfl dX8_leave_1 ?_
  refine V.iload_n (pc := 4) C 1 rfl dX8_leave_4 ?_
  obtain ⟨r1, M1, h1, hf⟩ := bd_some hf
  refine V.callVi (pc := 5) (As := [.int x1]) (rest := []) C (mX0_isThere X.2.1 hG (bx_1 hG) h1) mf_X0_isThere clX0 (sx_1 hG) wM_X8_91 rfl rfl ⟨by decide, by decide⟩ (Nat.le_of_ble_eq_true rfl) dX8_leave_5 ?_
  rcases it_some hf with ⟨h2, hf⟩ | ⟨h2, hf⟩
  · refine V.if_neF (pc := 8) C 13 h2 (by decide) dX8_leave_8 ?_
    refine V.iconst (pc := 11) C (-1 : Int32) (by decide) dX8_leave_11 ?_
    exact V.retI (pc := 12) C hf dX8_leave_12
  · refine V.if_neT (pc := 8) C 13 h2 (by decide) dX8_leave_8 ?_
    refine V.aload_n (pc := 13) C 0 rfl dX8_leave_13 ?_
    refine V.getR (pc := 14) C clX8 inX8 (sx_0 hG) 0 (by decide) wF_X8_12 rfl dX8_leave_14 ?_
    refine V.dup (pc := 17) C rfl dX8_leave_17 ?_
    refine V.getI (pc := 18) C clX0 inX0 (sx_1 hG) 0 (by decide) wF_X8_81 rfl dX8_leave_18 ?_
    refine V.iconst (pc := 21) C (1 : Int32) (by decide) dX8_leave_21 ?_
    refine V.iload_n (pc := 22) C 1 rfl dX8_leave_22 ?_
    refine V.ishl (pc := 23) C dX8_leave_23 ?_
    refine V.iconst (pc := 24) C (-1 : Int32) (by decide) dX8_leave_24 ?_
    refine V.ixor (pc := 25) C dX8_leave_25 ?_
    refine V.iand (pc := 26) C dX8_leave_26 ?_
    refine V.putI (pc := 27) C clX0 inX0 (sx_1 hG) 0 (by decide) wF_X8_81 tyX0 tyX0_ok nmX0 rfl (tyX0_ok 0 (by decide)) rfl dX8_leave_27 ?_
    refine V.aload_n (pc := 30) C 0 rfl dX8_leave_30 ?_
    refine V.getR (pc := 31) C clX8 inX8 (sx_0 hG) 0 (by decide) wF_X8_12 rfl dX8_leave_31 ?_
    refine V.getI (pc := 34) C clX0 inX0 (sx_1 hG) 0 (by decide) wF_X8_81 rfl dX8_leave_34 ?_
    obtain ⟨r3, M3, h3, hf⟩ := bd_some hf
    refine V.callSi (pc := 37) (As := [.int ((sI M1 1 0 ((M1.1 1 0) &&& ((jshl (1 : Int32) x1) ^^^ (-1 : Int32)))).1 1 0)]) (rest := []) C (mJ6_bitCount_0f7a4 X.2.1  h3) mf_J6_bitCount_0f7a4 wM_X8_85 rfl rfl ⟨by decide, by decide⟩ (Nat.le_of_ble_eq_true rfl) dX8_leave_37 ?_
    exact V.retI (pc := 40) C hf dX8_leave_40
theorem dX8_rate_0 : decode cX8_rate 0 = .ok (.iload_n 1, 1) := by decide +kernel
theorem dX8_rate_1 : decode cX8_rate 1 = .ok (.iconst 0, 1) := by decide +kernel
theorem dX8_rate_2 : decode cX8_rate 2 = .ok (.iconst 5, 1) := by decide +kernel
theorem dX8_rate_3 : decode cX8_rate 3 = .ok (.invokestatic 73, 3) := by decide +kernel
theorem dX8_rate_6 : decode cX8_rate 6 = .ok (.ifCond .eq 13, 3) := by decide +kernel
theorem dX8_rate_9 : decode cX8_rate 9 = .ok (.iload_n 2, 1) := by decide +kernel
theorem dX8_rate_10 : decode cX8_rate 10 = .ok (.iconst 1, 1) := by decide +kernel
theorem dX8_rate_11 : decode cX8_rate 11 = .ok (.bipush 99, 2) := by decide +kernel
theorem dX8_rate_13 : decode cX8_rate 13 = .ok (.invokestatic 73, 3) := by decide +kernel
theorem dX8_rate_16 : decode cX8_rate 16 = .ok (.ifCond .ne 6, 3) := by decide +kernel
theorem dX8_rate_19 : decode cX8_rate 19 = .ok (.bipush (-2), 2) := by decide +kernel
theorem dX8_rate_21 : decode cX8_rate 21 = .ok (.ireturn, 1) := by decide +kernel
theorem dX8_rate_22 : decode cX8_rate 22 = .ok (.aload_n 0, 1) := by decide +kernel
theorem dX8_rate_23 : decode cX8_rate 23 = .ok (.getfield 12, 3) := by decide +kernel
theorem dX8_rate_26 : decode cX8_rate 26 = .ok (.getfield 95, 3) := by decide +kernel
theorem dX8_rate_29 : decode cX8_rate 29 = .ok (.iload_n 1, 1) := by decide +kernel
theorem dX8_rate_30 : decode cX8_rate 30 = .ok (.iaload, 1) := by decide +kernel
theorem dX8_rate_31 : decode cX8_rate 31 = .ok (.istore_n 3, 1) := by decide +kernel
theorem dX8_rate_32 : decode cX8_rate 32 = .ok (.aload_n 0, 1) := by decide +kernel
theorem dX8_rate_33 : decode cX8_rate 33 = .ok (.getfield 12, 3) := by decide +kernel
theorem dX8_rate_36 : decode cX8_rate 36 = .ok (.getfield 95, 3) := by decide +kernel
theorem dX8_rate_39 : decode cX8_rate 39 = .ok (.iload_n 1, 1) := by decide +kernel
theorem dX8_rate_40 : decode cX8_rate 40 = .ok (.iload_n 2, 1) := by decide +kernel
theorem dX8_rate_41 : decode cX8_rate 41 = .ok (.iastore, 1) := by decide +kernel
theorem dX8_rate_42 : decode cX8_rate 42 = .ok (.iload_n 3, 1) := by decide +kernel
theorem dX8_rate_43 : decode cX8_rate 43 = .ok (.ireturn, 1) := by decide +kernel
abbrev cxX8_rate (G : Rg) (X : Ct) : Prop := Cx G X cX8_rate 4 RX8 (some .int) 1 22 (Cond.code yX8_rate cX8_rate 4 (some .int))
def fX8_rate (x1 : Int32) (x2 : Int32) (M : Mm) : Option (Int32 × Mm) :=
bd (fX8_isWithin x1 (0 : Int32) (5 : Int32) M) fun r1 M1 =>
if r1 = 0 then
(some ((-2 : Int32), M1))
else
(bd (fX8_isWithin x2 (1 : Int32) (99 : Int32) M1) fun r3 M3 =>
if r3 = 0 then
(some ((-2 : Int32), M3))
else
(gd (inb x1 6) (
gd (inb x1 6) (
some ((M3.1 4 x1.toNatClampNeg), (sI M3 4 x1.toNatClampNeg x2))))))
set_option maxHeartbeats 4000000 in
set_option maxRecDepth 100000 in
theorem mX8_rate (l : Launch) {G : Rg} (hG : gS G = shX) {x1 : Int32} {x2 : Int32}  {M Mf : Mm} {r : Int32} (hf : fX8_rate x1 x2 M = some (r, Mf)) : Mt l G yX8_rate cX8_rate 4 (some .int) 1 22 [.ref (gA G 0), .int x1, .int x2] M (some (.int r)) Mf := by
  refine Mt.of (by decide) (Nat.le_of_ble_eq_true rfl) ?_
  intro X C hX
  subst hX
  have C : cxX8_rate G X := C
  show V G X 4 (some (.int r)) Mf 0 [(0, .ref (gA G 0)), (1, .int x1), (2, .int x2)] [] M
  rw [fX8_rate] at hf
  refine V.iload_n (pc := 0) C 1 rfl dX8_rate_0 ?_
  refine V.iconst (pc := 1) C (0 : Int32) (by decide) dX8_rate_1 ?_
  refine V.iconst (pc := 2) C (5 : Int32) (by decide) dX8_rate_2 ?_
  obtain ⟨r1, M1, h1, hf⟩ := bd_some hf
  refine V.callSi (pc := 3) (As := [.int x1, .int (0 : Int32), .int (5 : Int32)]) (rest := []) C (mX8_isWithin X.2.1 hG  h1) mf_X8_isWithin wM_X8_73 rfl rfl ⟨by decide, by decide⟩ (Nat.le_of_ble_eq_true rfl) dX8_rate_3 ?_
  rcases it_some hf with ⟨h2, hf⟩ | ⟨h2, hf⟩
  · refine V.if_eqT (pc := 6) C 19 h2 (by decide) dX8_rate_6 ?_
    refine V.bipush (pc := 19) C (-2 : Int32) (by decide) dX8_rate_19 ?_
    exact V.retI (pc := 21) C hf dX8_rate_21
  · refine V.if_eqF (pc := 6) C 19 h2 (by decide) dX8_rate_6 ?_
    refine V.iload_n (pc := 9) C 2 rfl dX8_rate_9 ?_
    refine V.iconst (pc := 10) C (1 : Int32) (by decide) dX8_rate_10 ?_
    refine V.bipush (pc := 11) C (99 : Int32) (by decide) dX8_rate_11 ?_
    obtain ⟨r3, M3, h3, hf⟩ := bd_some hf
    refine V.callSi (pc := 13) (As := [.int x2, .int (1 : Int32), .int (99 : Int32)]) (rest := []) C (mX8_isWithin X.2.1 hG  h3) mf_X8_isWithin wM_X8_73 rfl rfl ⟨by decide, by decide⟩ (Nat.le_of_ble_eq_true rfl) dX8_rate_13 ?_
    rcases it_some hf with ⟨h4, hf⟩ | ⟨h4, hf⟩
    · refine V.if_neF (pc := 16) C 22 h4 (by decide) dX8_rate_16 ?_
      refine V.bipush (pc := 19) C (-2 : Int32) (by decide) dX8_rate_19 ?_
      exact V.retI (pc := 21) C hf dX8_rate_21
    · refine V.if_neT (pc := 16) C 22 h4 (by decide) dX8_rate_16 ?_
      refine V.aload_n (pc := 22) C 0 rfl dX8_rate_22 ?_
      refine V.getR (pc := 23) C clX8 inX8 (sx_0 hG) 0 (by decide) wF_X8_12 rfl dX8_rate_23 ?_
      refine V.getR (pc := 26) C clX0 inX0 (sx_1 hG) 6 (by decide) wF_X8_95 rfl dX8_rate_26 ?_
      refine V.iload_n (pc := 29) C 1 rfl dX8_rate_29 ?_
      obtain ⟨g5, hf⟩ := gd_some hf
      refine V.iald (pc := 30) C (sx_4 hG) (inb_in g5) dX8_rate_30 ?_
      refine V.istore_n (pc := 31) (lv' := [(3, .int (M3.1 4 x1.toNatClampNeg)), (0, .ref (gA G 0)), (1, .int x1), (2, .int x2)]) C (by decide) rfl dX8_rate_31 ?_
      refine V.aload_n (pc := 32) C 1 rfl dX8_rate_32 ?_
      refine V.getR (pc := 33) C clX8 inX8 (sx_0 hG) 0 (by decide) wF_X8_12 rfl dX8_rate_33 ?_
      refine V.getR (pc := 36) C clX0 inX0 (sx_1 hG) 6 (by decide) wF_X8_95 rfl dX8_rate_36 ?_
      refine V.iload_n (pc := 39) C 2 rfl dX8_rate_39 ?_
      refine V.iload_n (pc := 40) C 3 rfl dX8_rate_40 ?_
      obtain ⟨g6, hf⟩ := gd_some hf
      refine V.iast (pc := 41) C (sx_4 hG) (inb_in g6) dX8_rate_41 ?_
      refine V.iload_n (pc := 42) C 0 rfl dX8_rate_42 ?_
      exact V.retI (pc := 43) C hf dX8_rate_43
theorem dX8_trust_0 : decode cX8_trust 0 = .ok (.iload_n 1, 1) := by decide +kernel
theorem dX8_trust_1 : decode cX8_trust 1 = .ok (.iconst 0, 1) := by decide +kernel
theorem dX8_trust_2 : decode cX8_trust 2 = .ok (.bipush 9, 2) := by decide +kernel
theorem dX8_trust_4 : decode cX8_trust 4 = .ok (.invokestatic 73, 3) := by decide +kernel
theorem dX8_trust_7 : decode cX8_trust 7 = .ok (.ifCond .ne 6, 3) := by decide +kernel
theorem dX8_trust_10 : decode cX8_trust 10 = .ok (.bipush (-2), 2) := by decide +kernel
theorem dX8_trust_12 : decode cX8_trust 12 = .ok (.ireturn, 1) := by decide +kernel
theorem dX8_trust_13 : decode cX8_trust 13 = .ok (.aload_n 0, 1) := by decide +kernel
theorem dX8_trust_14 : decode cX8_trust 14 = .ok (.getfield 12, 3) := by decide +kernel
theorem dX8_trust_17 : decode cX8_trust 17 = .ok (.getfield 99, 3) := by decide +kernel
theorem dX8_trust_20 : decode cX8_trust 20 = .ok (.istore_n 2, 1) := by decide +kernel
theorem dX8_trust_21 : decode cX8_trust 21 = .ok (.aload_n 0, 1) := by decide +kernel
theorem dX8_trust_22 : decode cX8_trust 22 = .ok (.getfield 12, 3) := by decide +kernel
theorem dX8_trust_25 : decode cX8_trust 25 = .ok (.iload_n 1, 1) := by decide +kernel
theorem dX8_trust_26 : decode cX8_trust 26 = .ok (.putfield 99, 3) := by decide +kernel
theorem dX8_trust_29 : decode cX8_trust 29 = .ok (.iload_n 2, 1) := by decide +kernel
theorem dX8_trust_30 : decode cX8_trust 30 = .ok (.ireturn, 1) := by decide +kernel
abbrev cxX8_trust (G : Rg) (X : Ct) : Prop := Cx G X cX8_trust 3 RX8 (some .int) 1 22 (Cond.code yX8_trust cX8_trust 3 (some .int))
def fX8_trust (x1 : Int32) (M : Mm) : Option (Int32 × Mm) :=
bd (fX8_isWithin x1 (0 : Int32) (9 : Int32) M) fun r1 M1 =>
if r1 = 0 then
(some ((-2 : Int32), M1))
else
(some ((M1.1 1 1), (sI M1 1 1 x1)))
set_option maxHeartbeats 4000000 in
set_option maxRecDepth 100000 in
theorem mX8_trust (l : Launch) {G : Rg} (hG : gS G = shX) {x1 : Int32}  {M Mf : Mm} {r : Int32} (hf : fX8_trust x1 M = some (r, Mf)) : Mt l G yX8_trust cX8_trust 3 (some .int) 1 22 [.ref (gA G 0), .int x1] M (some (.int r)) Mf := by
  refine Mt.of (by decide) (Nat.le_of_ble_eq_true rfl) ?_
  intro X C hX
  subst hX
  have C : cxX8_trust G X := C
  show V G X 3 (some (.int r)) Mf 0 [(0, .ref (gA G 0)), (1, .int x1)] [] M
  rw [fX8_trust] at hf
  refine V.iload_n (pc := 0) C 1 rfl dX8_trust_0 ?_
  refine V.iconst (pc := 1) C (0 : Int32) (by decide) dX8_trust_1 ?_
  refine V.bipush (pc := 2) C (9 : Int32) (by decide) dX8_trust_2 ?_
  obtain ⟨r1, M1, h1, hf⟩ := bd_some hf
  refine V.callSi (pc := 4) (As := [.int x1, .int (0 : Int32), .int (9 : Int32)]) (rest := []) C (mX8_isWithin X.2.1 hG  h1) mf_X8_isWithin wM_X8_73 rfl rfl ⟨by decide, by decide⟩ (Nat.le_of_ble_eq_true rfl) dX8_trust_4 ?_
  rcases it_some hf with ⟨h2, hf⟩ | ⟨h2, hf⟩
  · refine V.if_neF (pc := 7) C 13 h2 (by decide) dX8_trust_7 ?_
    refine V.bipush (pc := 10) C (-2 : Int32) (by decide) dX8_trust_10 ?_
    exact V.retI (pc := 12) C hf dX8_trust_12
  · refine V.if_neT (pc := 7) C 13 h2 (by decide) dX8_trust_7 ?_
    refine V.aload_n (pc := 13) C 0 rfl dX8_trust_13 ?_
    refine V.getR (pc := 14) C clX8 inX8 (sx_0 hG) 0 (by decide) wF_X8_12 rfl dX8_trust_14 ?_
    refine V.getI (pc := 17) C clX0 inX0 (sx_1 hG) 1 (by decide) wF_X8_99 rfl dX8_trust_17 ?_
    refine V.istore_n (pc := 20) (lv' := [(2, .int (M1.1 1 1)), (0, .ref (gA G 0)), (1, .int x1)]) C (by decide) rfl dX8_trust_20 ?_
    refine V.aload_n (pc := 21) C 1 rfl dX8_trust_21 ?_
    refine V.getR (pc := 22) C clX8 inX8 (sx_0 hG) 0 (by decide) wF_X8_12 rfl dX8_trust_22 ?_
    refine V.iload_n (pc := 25) C 2 rfl dX8_trust_25 ?_
    refine V.putI (pc := 26) C clX0 inX0 (sx_1 hG) 1 (by decide) wF_X8_99 tyX0 tyX0_ok nmX0 rfl (tyX0_ok 1 (by decide)) rfl dX8_trust_26 ?_
    refine V.iload_n (pc := 29) C 0 rfl dX8_trust_29 ?_
    exact V.retI (pc := 30) C hf dX8_trust_30
theorem dX4_write_0 : decode cX4_write 0 = .ok (.aload_n 0, 1) := by decide +kernel
theorem dX4_write_1 : decode cX4_write 1 = .ok (.getfield 15, 3) := by decide +kernel
theorem dX4_write_4 : decode cX4_write 4 = .ok (.bipush 60, 2) := by decide +kernel
theorem dX4_write_6 : decode cX4_write 6 = .ok (.if_icmp .ge 23, 3) := by decide +kernel
theorem dX4_write_9 : decode cX4_write 9 = .ok (.aload_n 0, 1) := by decide +kernel
theorem dX4_write_10 : decode cX4_write 10 = .ok (.getfield 9, 3) := by decide +kernel
theorem dX4_write_13 : decode cX4_write 13 = .ok (.aload_n 0, 1) := by decide +kernel
theorem dX4_write_14 : decode cX4_write 14 = .ok (.getfield 15, 3) := by decide +kernel
theorem dX4_write_17 : decode cX4_write 17 = .ok (.iload_n 1, 1) := by decide +kernel
theorem dX4_write_18 : decode cX4_write 18 = .ok (.iastore, 1) := by decide +kernel
theorem dX4_write_19 : decode cX4_write 19 = .ok (.aload_n 0, 1) := by decide +kernel
theorem dX4_write_20 : decode cX4_write 20 = .ok (.dup, 1) := by decide +kernel
theorem dX4_write_21 : decode cX4_write 21 = .ok (.getfield 15, 3) := by decide +kernel
theorem dX4_write_24 : decode cX4_write 24 = .ok (.iconst 1, 1) := by decide +kernel
theorem dX4_write_25 : decode cX4_write 25 = .ok (.iadd, 1) := by decide +kernel
theorem dX4_write_26 : decode cX4_write 26 = .ok (.putfield 15, 3) := by decide +kernel
theorem dX4_write_29 : decode cX4_write 29 = .ok (.return_, 1) := by decide +kernel
abbrev cxX4_write (G : Rg) (X : Ct) : Prop := Cx G X cX4_write 2 RX4 (none) 0 0 (Cond.code yX4_write cX4_write 2 (none))
def fX4_write (x1 : Int32) (M : Mm) : Option (Unit × Mm) :=
if (60 : Int32) ≤ (M.1 6 1) then
(some ((), M))
else
(gd (inb (M.1 6 1) 60) (
some ((), (sI (sI M 7 (M.1 6 1).toNatClampNeg x1) 6 1 (((sI M 7 (M.1 6 1).toNatClampNeg x1).1 6 1) + (1 : Int32))))))
set_option maxHeartbeats 4000000 in
set_option maxRecDepth 100000 in
theorem mX4_write (l : Launch) {G : Rg} (hG : gS G = shX) {x1 : Int32}  {M Mf : Mm} {r : Unit} (hf : fX4_write x1 M = some (r, Mf)) : Mt l G yX4_write cX4_write 2 (none) 0 0 [.ref (gA G 6), .int x1] M none Mf := by
  refine Mt.of (by decide) (Nat.le_of_ble_eq_true rfl) ?_
  intro X C hX
  subst hX
  have C : cxX4_write G X := C
  show V G X 2 none Mf 0 [(0, .ref (gA G 6)), (1, .int x1)] [] M
  rw [fX4_write] at hf
  refine V.aload_n (pc := 0) C 0 rfl dX4_write_0 ?_
  refine V.getI (pc := 1) C clX4 inX4 (sx_6 hG) 1 (by decide) wF_X4_15 rfl dX4_write_1 ?_
  refine V.bipush (pc := 4) C (60 : Int32) (by decide) dX4_write_4 ?_
  rcases it_some hf with ⟨h1, hf⟩ | ⟨h1, hf⟩
  · refine V.ic_geT (pc := 6) C 29 h1 (by decide) dX4_write_6 ?_
    exact V.retV (pc := 29) C hf dX4_write_29
  · refine V.ic_geF (pc := 6) C 29 h1 (by decide) dX4_write_6 ?_
    refine V.aload_n (pc := 9) C 0 rfl dX4_write_9 ?_
    refine V.getR (pc := 10) C clX4 inX4 (sx_6 hG) 0 (by decide) wF_X4_9 rfl dX4_write_10 ?_
    refine V.aload_n (pc := 13) C 0 rfl dX4_write_13 ?_
    refine V.getI (pc := 14) C clX4 inX4 (sx_6 hG) 1 (by decide) wF_X4_15 rfl dX4_write_14 ?_
    refine V.iload_n (pc := 17) C 1 rfl dX4_write_17 ?_
    obtain ⟨g2, hf⟩ := gd_some hf
    refine V.iast (pc := 18) C (sx_7 hG) (inb_in g2) dX4_write_18 ?_
    refine V.aload_n (pc := 19) C 0 rfl dX4_write_19 ?_
    refine V.dup (pc := 20) C rfl dX4_write_20 ?_
    refine V.getI (pc := 21) C clX4 inX4 (sx_6 hG) 1 (by decide) wF_X4_15 rfl dX4_write_21 ?_
    refine V.iconst (pc := 24) C (1 : Int32) (by decide) dX4_write_24 ?_
    refine V.iadd (pc := 25) C dX4_write_25 ?_
    refine V.putI (pc := 26) C clX4 inX4 (sx_6 hG) 1 (by decide) wF_X4_15 tyX4 tyX4_ok nmX4 rfl (tyX4_ok 1 (by decide)) rfl dX4_write_26 ?_
    exact V.retV (pc := 29) C hf dX4_write_29
theorem dX8_say_0 : decode cX8_say 0 = .ok (.iload_n 1, 1) := by decide +kernel
theorem dX8_say_1 : decode cX8_say 1 = .ok (.bipush 33, 2) := by decide +kernel
theorem dX8_say_3 : decode cX8_say 3 = .ok (.bipush 126, 2) := by decide +kernel
theorem dX8_say_5 : decode cX8_say 5 = .ok (.invokestatic 73, 3) := by decide +kernel
theorem dX8_say_8 : decode cX8_say 8 = .ok (.ifCond .ne 6, 3) := by decide +kernel
theorem dX8_say_11 : decode cX8_say 11 = .ok (.bipush (-2), 2) := by decide +kernel
theorem dX8_say_13 : decode cX8_say 13 = .ok (.ireturn, 1) := by decide +kernel
theorem dX8_say_14 : decode cX8_say 14 = .ok (.aload_n 0, 1) := by decide +kernel
theorem dX8_say_15 : decode cX8_say 15 = .ok (.getfield 19, 3) := by decide +kernel
theorem dX8_say_18 : decode cX8_say 18 = .ok (.getfield 102, 3) := by decide +kernel
theorem dX8_say_21 : decode cX8_say 21 = .ok (.bipush 60, 2) := by decide +kernel
theorem dX8_say_23 : decode cX8_say 23 = .ok (.if_icmp .lt 6, 3) := by decide +kernel
theorem dX8_say_26 : decode cX8_say 26 = .ok (.bipush (-4), 2) := by decide +kernel
theorem dX8_say_28 : decode cX8_say 28 = .ok (.ireturn, 1) := by decide +kernel
theorem dX8_say_29 : decode cX8_say 29 = .ok (.aload_n 0, 1) := by decide +kernel
theorem dX8_say_30 : decode cX8_say 30 = .ok (.getfield 19, 3) := by decide +kernel
theorem dX8_say_33 : decode cX8_say 33 = .ok (.iload_n 1, 1) := by decide +kernel
theorem dX8_say_34 : decode cX8_say 34 = .ok (.invokevirtual 105, 3) := by decide +kernel
theorem dX8_say_37 : decode cX8_say 37 = .ok (.aload_n 0, 1) := by decide +kernel
theorem dX8_say_38 : decode cX8_say 38 = .ok (.getfield 19, 3) := by decide +kernel
theorem dX8_say_41 : decode cX8_say 41 = .ok (.getfield 102, 3) := by decide +kernel
theorem dX8_say_44 : decode cX8_say 44 = .ok (.ireturn, 1) := by decide +kernel
abbrev cxX8_say (G : Rg) (X : Ct) : Prop := Cx G X cX8_say 2 RX8 (some .int) 1 22 (Cond.code yX8_say cX8_say 2 (some .int))
def fX8_say (x1 : Int32) (M : Mm) : Option (Int32 × Mm) :=
bd (fX8_isWithin x1 (33 : Int32) (126 : Int32) M) fun r1 M1 =>
if r1 = 0 then
(some ((-2 : Int32), M1))
else
(if (M1.1 6 1) < (60 : Int32) then
(bd (fX4_write x1 M1) fun _ M4 =>
some ((M4.1 6 1), M4))
else
(some ((-4 : Int32), M1)))
set_option maxHeartbeats 4000000 in
set_option maxRecDepth 100000 in
theorem mX8_say (l : Launch) {G : Rg} (hG : gS G = shX) {x1 : Int32}  {M Mf : Mm} {r : Int32} (hf : fX8_say x1 M = some (r, Mf)) : Mt l G yX8_say cX8_say 2 (some .int) 1 22 [.ref (gA G 0), .int x1] M (some (.int r)) Mf := by
  refine Mt.of (by decide) (Nat.le_of_ble_eq_true rfl) ?_
  intro X C hX
  subst hX
  have C : cxX8_say G X := C
  show V G X 2 (some (.int r)) Mf 0 [(0, .ref (gA G 0)), (1, .int x1)] [] M
  rw [fX8_say] at hf
  refine V.iload_n (pc := 0) C 1 rfl dX8_say_0 ?_
  refine V.bipush (pc := 1) C (33 : Int32) (by decide) dX8_say_1 ?_
  refine V.bipush (pc := 3) C (126 : Int32) (by decide) dX8_say_3 ?_
  obtain ⟨r1, M1, h1, hf⟩ := bd_some hf
  refine V.callSi (pc := 5) (As := [.int x1, .int (33 : Int32), .int (126 : Int32)]) (rest := []) C (mX8_isWithin X.2.1 hG  h1) mf_X8_isWithin wM_X8_73 rfl rfl ⟨by decide, by decide⟩ (Nat.le_of_ble_eq_true rfl) dX8_say_5 ?_
  rcases it_some hf with ⟨h2, hf⟩ | ⟨h2, hf⟩
  · refine V.if_neF (pc := 8) C 14 h2 (by decide) dX8_say_8 ?_
    refine V.bipush (pc := 11) C (-2 : Int32) (by decide) dX8_say_11 ?_
    exact V.retI (pc := 13) C hf dX8_say_13
  · refine V.if_neT (pc := 8) C 14 h2 (by decide) dX8_say_8 ?_
    refine V.aload_n (pc := 14) C 0 rfl dX8_say_14 ?_
    refine V.getR (pc := 15) C clX8 inX8 (sx_0 hG) 1 (by decide) wF_X8_19 rfl dX8_say_15 ?_
    refine V.getI (pc := 18) C clX4 inX4 (sx_6 hG) 1 (by decide) wF_X8_102 rfl dX8_say_18 ?_
    refine V.bipush (pc := 21) C (60 : Int32) (by decide) dX8_say_21 ?_
    rcases it_some hf with ⟨h3, hf⟩ | ⟨h3, hf⟩
    · refine V.ic_ltT (pc := 23) C 29 h3 (by decide) dX8_say_23 ?_
      refine V.aload_n (pc := 29) C 0 rfl dX8_say_29 ?_
      refine V.getR (pc := 30) C clX8 inX8 (sx_0 hG) 1 (by decide) wF_X8_19 rfl dX8_say_30 ?_
      refine V.iload_n (pc := 33) C 1 rfl dX8_say_33 ?_
      obtain ⟨_, M4, h4, hf⟩ := bd_some hf
      refine V.callVv (pc := 34) (As := [.int x1]) (rest := []) C (mX4_write X.2.1 hG  h4) mf_X4_write clX4 (sx_6 hG) wM_X8_105 rfl rfl ⟨by decide, by decide⟩ (Nat.le_of_ble_eq_true rfl) dX8_say_34 ?_
      refine V.aload_n (pc := 37) C 0 rfl dX8_say_37 ?_
      refine V.getR (pc := 38) C clX8 inX8 (sx_0 hG) 1 (by decide) wF_X8_19 rfl dX8_say_38 ?_
      refine V.getI (pc := 41) C clX4 inX4 (sx_6 hG) 1 (by decide) wF_X8_102 rfl dX8_say_41 ?_
      exact V.retI (pc := 44) C hf dX8_say_44
    · refine V.ic_ltF (pc := 23) C 29 h3 (by decide) dX8_say_23 ?_
      refine V.bipush (pc := 26) C (-4 : Int32) (by decide) dX8_say_26 ?_
      exact V.retI (pc := 28) C hf dX8_say_28
theorem dX8_wipe_0 : decode cX8_wipe 0 = .ok (.aload_n 0, 1) := by decide +kernel
theorem dX8_wipe_1 : decode cX8_wipe 1 = .ok (.getfield 19, 3) := by decide +kernel
theorem dX8_wipe_4 : decode cX8_wipe 4 = .ok (.getfield 102, 3) := by decide +kernel
theorem dX8_wipe_7 : decode cX8_wipe 7 = .ok (.istore_n 1, 1) := by decide +kernel
theorem dX8_wipe_8 : decode cX8_wipe 8 = .ok (.aload_n 0, 1) := by decide +kernel
theorem dX8_wipe_9 : decode cX8_wipe 9 = .ok (.getfield 19, 3) := by decide +kernel
theorem dX8_wipe_12 : decode cX8_wipe 12 = .ok (.iconst 0, 1) := by decide +kernel
theorem dX8_wipe_13 : decode cX8_wipe 13 = .ok (.putfield 102, 3) := by decide +kernel
theorem dX8_wipe_16 : decode cX8_wipe 16 = .ok (.iload_n 1, 1) := by decide +kernel
theorem dX8_wipe_17 : decode cX8_wipe 17 = .ok (.ireturn, 1) := by decide +kernel
abbrev cxX8_wipe (G : Rg) (X : Ct) : Prop := Cx G X cX8_wipe 2 RX8 (some .int) 0 0 (Cond.code yX8_wipe cX8_wipe 2 (some .int))
def fX8_wipe  (M : Mm) : Option (Int32 × Mm) :=
some ((M.1 6 1), (sI M 6 1 (0 : Int32)))
set_option maxHeartbeats 4000000 in
set_option maxRecDepth 100000 in
theorem mX8_wipe (l : Launch) {G : Rg} (hG : gS G = shX)   {M Mf : Mm} {r : Int32} (hf : fX8_wipe  M = some (r, Mf)) : Mt l G yX8_wipe cX8_wipe 2 (some .int) 0 0 [.ref (gA G 0)] M (some (.int r)) Mf := by
  refine Mt.of (by decide) (Nat.le_of_ble_eq_true rfl) ?_
  intro X C hX
  subst hX
  have C : cxX8_wipe G X := C
  show V G X 2 (some (.int r)) Mf 0 [(0, .ref (gA G 0))] [] M
  rw [fX8_wipe] at hf
  refine V.aload_n (pc := 0) C 0 rfl dX8_wipe_0 ?_
  refine V.getR (pc := 1) C clX8 inX8 (sx_0 hG) 1 (by decide) wF_X8_19 rfl dX8_wipe_1 ?_
  refine V.getI (pc := 4) C clX4 inX4 (sx_6 hG) 1 (by decide) wF_X8_102 rfl dX8_wipe_4 ?_
  refine V.istore_n (pc := 7) (lv' := [(1, .int (M.1 6 1)), (0, .ref (gA G 0))]) C (by decide) rfl dX8_wipe_7 ?_
  refine V.aload_n (pc := 8) C 1 rfl dX8_wipe_8 ?_
  refine V.getR (pc := 9) C clX8 inX8 (sx_0 hG) 1 (by decide) wF_X8_19 rfl dX8_wipe_9 ?_
  refine V.iconst (pc := 12) C (0 : Int32) (by decide) dX8_wipe_12 ?_
  refine V.putI (pc := 13) C clX4 inX4 (sx_6 hG) 1 (by decide) wF_X8_102 tyX4 tyX4_ok nmX4 rfl (tyX4_ok 1 (by decide)) rfl dX8_wipe_13 ?_
  refine V.iload_n (pc := 16) C 0 rfl dX8_wipe_16 ?_
  exact V.retI (pc := 17) C hf dX8_wipe_17
theorem dX4_officerOf_0 : decode cX4_officerOf 0 = .ok (.iload_n 0, 1) := by decide +kernel
theorem dX4_officerOf_1 : decode cX4_officerOf 1 = .ok (.bipush 65, 2) := by decide +kernel
theorem dX4_officerOf_3 : decode cX4_officerOf 3 = .ok (.bipush 70, 2) := by decide +kernel
theorem dX4_officerOf_5 : decode cX4_officerOf 5 = .ok (.invokestatic 30, 3) := by decide +kernel
theorem dX4_officerOf_8 : decode cX4_officerOf 8 = .ok (.ifCond .eq 8, 3) := by decide +kernel
theorem dX4_officerOf_11 : decode cX4_officerOf 11 = .ok (.iload_n 0, 1) := by decide +kernel
theorem dX4_officerOf_12 : decode cX4_officerOf 12 = .ok (.bipush 65, 2) := by decide +kernel
theorem dX4_officerOf_14 : decode cX4_officerOf 14 = .ok (.isub, 1) := by decide +kernel
theorem dX4_officerOf_15 : decode cX4_officerOf 15 = .ok (.ireturn, 1) := by decide +kernel
theorem dX4_officerOf_16 : decode cX4_officerOf 16 = .ok (.iload_n 0, 1) := by decide +kernel
theorem dX4_officerOf_17 : decode cX4_officerOf 17 = .ok (.bipush 97, 2) := by decide +kernel
theorem dX4_officerOf_19 : decode cX4_officerOf 19 = .ok (.bipush 102, 2) := by decide +kernel
theorem dX4_officerOf_21 : decode cX4_officerOf 21 = .ok (.invokestatic 30, 3) := by decide +kernel
theorem dX4_officerOf_24 : decode cX4_officerOf 24 = .ok (.ifCond .eq 13, 3) := by decide +kernel
theorem dX4_officerOf_27 : decode cX4_officerOf 27 = .ok (.iload_n 0, 1) := by decide +kernel
theorem dX4_officerOf_28 : decode cX4_officerOf 28 = .ok (.bipush 97, 2) := by decide +kernel
theorem dX4_officerOf_30 : decode cX4_officerOf 30 = .ok (.isub, 1) := by decide +kernel
theorem dX4_officerOf_31 : decode cX4_officerOf 31 = .ok (.bipush 6, 2) := by decide +kernel
theorem dX4_officerOf_33 : decode cX4_officerOf 33 = .ok (.iadd, 1) := by decide +kernel
theorem dX4_officerOf_34 : decode cX4_officerOf 34 = .ok (.goto 4, 3) := by decide +kernel
theorem dX4_officerOf_37 : decode cX4_officerOf 37 = .ok (.iconst (-1), 1) := by decide +kernel
theorem dX4_officerOf_38 : decode cX4_officerOf 38 = .ok (.ireturn, 1) := by decide +kernel
abbrev cxX4_officerOf (G : Rg) (X : Ct) : Prop := Cx G X cX4_officerOf 1 RX4 (some .int) 1 22 (Cond.code yX4_officerOf cX4_officerOf 1 (some .int))
def fX4_officerOf (x0 : Int32) (M : Mm) : Option (Int32 × Mm) :=
bd (fX8_isWithin x0 (65 : Int32) (70 : Int32) M) fun r1 M1 =>
if r1 = 0 then
(bd (fX8_isWithin x0 (97 : Int32) (102 : Int32) M1) fun r3 M3 =>
if r3 = 0 then
(some ((-1 : Int32), M3))
else
(some (((x0 - (97 : Int32)) + (6 : Int32)), M3)))
else
(some ((x0 - (65 : Int32)), M1))
set_option maxHeartbeats 4000000 in
set_option maxRecDepth 100000 in
theorem mX4_officerOf (l : Launch) {G : Rg} (hG : gS G = shX) {x0 : Int32}  {M Mf : Mm} {r : Int32} (hf : fX4_officerOf x0 M = some (r, Mf)) : Mt l G yX4_officerOf cX4_officerOf 1 (some .int) 1 22 [.int x0] M (some (.int r)) Mf := by
  refine Mt.of (by decide) (Nat.le_of_ble_eq_true rfl) ?_
  intro X C hX
  subst hX
  have C : cxX4_officerOf G X := C
  show V G X 1 (some (.int r)) Mf 0 [(0, .int x0)] [] M
  rw [fX4_officerOf] at hf
  refine V.iload_n (pc := 0) C 0 rfl dX4_officerOf_0 ?_
  refine V.bipush (pc := 1) C (65 : Int32) (by decide) dX4_officerOf_1 ?_
  refine V.bipush (pc := 3) C (70 : Int32) (by decide) dX4_officerOf_3 ?_
  obtain ⟨r1, M1, h1, hf⟩ := bd_some hf
  refine V.callNi (pc := 5) (As := [.int x0, .int (65 : Int32), .int (70 : Int32)]) (rest := []) C (mX8_isWithin X.2.1 hG  h1) mf_X8_isWithin rfl rfl ⟨by decide, by decide⟩ (Nat.le_of_ble_eq_true rfl) dX4_officerOf_5 ?_
  rcases it_some hf with ⟨h2, hf⟩ | ⟨h2, hf⟩
  · refine V.if_eqT (pc := 8) C 16 h2 (by decide) dX4_officerOf_8 ?_
    refine V.iload_n (pc := 16) C 0 rfl dX4_officerOf_16 ?_
    refine V.bipush (pc := 17) C (97 : Int32) (by decide) dX4_officerOf_17 ?_
    refine V.bipush (pc := 19) C (102 : Int32) (by decide) dX4_officerOf_19 ?_
    obtain ⟨r3, M3, h3, hf⟩ := bd_some hf
    refine V.callNi (pc := 21) (As := [.int x0, .int (97 : Int32), .int (102 : Int32)]) (rest := []) C (mX8_isWithin X.2.1 hG  h3) mf_X8_isWithin rfl rfl ⟨by decide, by decide⟩ (Nat.le_of_ble_eq_true rfl) dX4_officerOf_21 ?_
    rcases it_some hf with ⟨h4, hf⟩ | ⟨h4, hf⟩
    · refine V.if_eqT (pc := 24) C 37 h4 (by decide) dX4_officerOf_24 ?_
      refine V.iconst (pc := 37) C (-1 : Int32) (by decide) dX4_officerOf_37 ?_
      exact V.retI (pc := 38) C hf dX4_officerOf_38
    · refine V.if_eqF (pc := 24) C 37 h4 (by decide) dX4_officerOf_24 ?_
      refine V.iload_n (pc := 27) C 0 rfl dX4_officerOf_27 ?_
      refine V.bipush (pc := 28) C (97 : Int32) (by decide) dX4_officerOf_28 ?_
      refine V.isub (pc := 30) C dX4_officerOf_30 ?_
      refine V.bipush (pc := 31) C (6 : Int32) (by decide) dX4_officerOf_31 ?_
      refine V.iadd (pc := 33) C dX4_officerOf_33 ?_
      refine V.goto (pc := 34) C 38 (by decide) dX4_officerOf_34 ?_
      exact V.retI (pc := 38) C hf dX4_officerOf_38
  · refine V.if_eqF (pc := 8) C 16 h2 (by decide) dX4_officerOf_8 ?_
    refine V.iload_n (pc := 11) C 0 rfl dX4_officerOf_11 ?_
    refine V.bipush (pc := 12) C (65 : Int32) (by decide) dX4_officerOf_12 ?_
    refine V.isub (pc := 14) C dX4_officerOf_14 ?_
    exact V.retI (pc := 15) C hf dX4_officerOf_15
theorem dX4_deedOf_0 : decode cX4_deedOf 0 = .ok (.iload_n 0, 1) := by decide +kernel
theorem dX4_deedOf_1 : decode cX4_deedOf 1 = .ok (.lookupswitch 51 #[(43, 49), (98, 47), (104, 45), (115, 43)], 43) := by decide +kernel
theorem dX4_deedOf_44 : decode cX4_deedOf 44 = .ok (.iconst 0, 1) := by decide +kernel
theorem dX4_deedOf_45 : decode cX4_deedOf 45 = .ok (.ireturn, 1) := by decide +kernel
theorem dX4_deedOf_46 : decode cX4_deedOf 46 = .ok (.iconst 1, 1) := by decide +kernel
theorem dX4_deedOf_47 : decode cX4_deedOf 47 = .ok (.ireturn, 1) := by decide +kernel
theorem dX4_deedOf_48 : decode cX4_deedOf 48 = .ok (.iconst 2, 1) := by decide +kernel
theorem dX4_deedOf_49 : decode cX4_deedOf 49 = .ok (.ireturn, 1) := by decide +kernel
theorem dX4_deedOf_50 : decode cX4_deedOf 50 = .ok (.iconst 3, 1) := by decide +kernel
theorem dX4_deedOf_51 : decode cX4_deedOf 51 = .ok (.ireturn, 1) := by decide +kernel
theorem dX4_deedOf_52 : decode cX4_deedOf 52 = .ok (.iconst (-1), 1) := by decide +kernel
theorem dX4_deedOf_53 : decode cX4_deedOf 53 = .ok (.ireturn, 1) := by decide +kernel
abbrev cxX4_deedOf (G : Rg) (X : Ct) : Prop := Cx G X cX4_deedOf 1 RX4 (some .int) 0 0 (Cond.code yX4_deedOf cX4_deedOf 1 (some .int))
def fX4_deedOf (x0 : Int32) (M : Mm) : Option (Int32 × Mm) :=
if x0 = (43 : Int32) then
(some ((3 : Int32), M))
else
if x0 = (98 : Int32) then
(some ((2 : Int32), M))
else
if x0 = (104 : Int32) then
(some ((1 : Int32), M))
else
if x0 = (115 : Int32) then
(some ((0 : Int32), M))
else
(some ((-1 : Int32), M))
set_option maxHeartbeats 4000000 in
set_option maxRecDepth 100000 in
theorem mX4_deedOf (l : Launch) {G : Rg} (hG : gS G = shX) {x0 : Int32}  {M Mf : Mm} {r : Int32} (hf : fX4_deedOf x0 M = some (r, Mf)) : Mt l G yX4_deedOf cX4_deedOf 1 (some .int) 0 0 [.int x0] M (some (.int r)) Mf := by
  refine Mt.of (by decide) (Nat.le_of_ble_eq_true rfl) ?_
  intro X C hX
  subst hX
  have C : cxX4_deedOf G X := C
  show V G X 1 (some (.int r)) Mf 0 [(0, .int x0)] [] M
  rw [fX4_deedOf] at hf
  refine V.iload_n (pc := 0) C 0 rfl dX4_deedOf_0 ?_
  rcases it_some hf with ⟨h1, hf⟩ | ⟨h1, hf⟩
  · refine V.look (pc := 1) (off := 49) C 50 (by decide) (by rw [h1]; first | done | decide) (by decide) dX4_deedOf_1 ?_
    refine V.iconst (pc := 50) C (3 : Int32) (by decide) dX4_deedOf_50 ?_
    exact V.retI (pc := 51) C hf dX4_deedOf_51
  · skip
    rcases it_some hf with ⟨h2, hf⟩ | ⟨h2, hf⟩
    · refine V.look (pc := 1) (off := 47) C 48 (by decide) (by rw [h2]; first | done | decide) (by decide) dX4_deedOf_1 ?_
      refine V.iconst (pc := 48) C (2 : Int32) (by decide) dX4_deedOf_48 ?_
      exact V.retI (pc := 49) C hf dX4_deedOf_49
    · skip
      rcases it_some hf with ⟨h3, hf⟩ | ⟨h3, hf⟩
      · refine V.look (pc := 1) (off := 45) C 46 (by decide) (by rw [h3]; first | done | decide) (by decide) dX4_deedOf_1 ?_
        refine V.iconst (pc := 46) C (1 : Int32) (by decide) dX4_deedOf_46 ?_
        exact V.retI (pc := 47) C hf dX4_deedOf_47
      · skip
        rcases it_some hf with ⟨h4, hf⟩ | ⟨h4, hf⟩
        · refine V.look (pc := 1) (off := 43) C 44 (by decide) (by rw [h4]; first | done | decide) (by decide) dX4_deedOf_1 ?_
          refine V.iconst (pc := 44) C (0 : Int32) (by decide) dX4_deedOf_44 ?_
          exact V.retI (pc := 45) C hf dX4_deedOf_45
        · skip
          refine V.look (pc := 1) (off := 51) C 52 (by decide) ((lv_osw h1 (by decide)) |>.trans (lv_osw h2 (by decide)) |>.trans (lv_osw h3 (by decide)) |>.trans (lv_osw h4 (by decide))) (by decide) dX4_deedOf_1 ?_
          refine V.iconst (pc := 52) C (-1 : Int32) (by decide) dX4_deedOf_52 ?_
          exact V.retI (pc := 53) C hf dX4_deedOf_53
theorem dX4_next_0 : decode cX4_next 0 = .ok (.iload_n 1, 1) := by decide +kernel
theorem dX4_next_1 : decode cX4_next 1 = .ok (.invokestatic 23, 3) := by decide +kernel
theorem dX4_next_4 : decode cX4_next 4 = .ok (.istore_n 2, 1) := by decide +kernel
theorem dX4_next_5 : decode cX4_next 5 = .ok (.iload_n 2, 1) := by decide +kernel
theorem dX4_next_6 : decode cX4_next 6 = .ok (.ifCond .lt 13, 3) := by decide +kernel
theorem dX4_next_9 : decode cX4_next 9 = .ok (.iload_n 2, 1) := by decide +kernel
theorem dX4_next_10 : decode cX4_next 10 = .ok (.bipush 6, 2) := by decide +kernel
theorem dX4_next_12 : decode cX4_next 12 = .ok (.if_icmp .ge 7, 3) := by decide +kernel
theorem dX4_next_15 : decode cX4_next 15 = .ok (.iconst 1, 1) := by decide +kernel
theorem dX4_next_16 : decode cX4_next 16 = .ok (.goto 4, 3) := by decide +kernel
theorem dX4_next_19 : decode cX4_next 19 = .ok (.iconst 0, 1) := by decide +kernel
theorem dX4_next_20 : decode cX4_next 20 = .ok (.istore_n 3, 1) := by decide +kernel
theorem dX4_next_21 : decode cX4_next 21 = .ok (.iload_n 2, 1) := by decide +kernel
theorem dX4_next_22 : decode cX4_next 22 = .ok (.bipush 6, 2) := by decide +kernel
theorem dX4_next_24 : decode cX4_next 24 = .ok (.if_icmp .lt 7, 3) := by decide +kernel
theorem dX4_next_27 : decode cX4_next 27 = .ok (.iconst 1, 1) := by decide +kernel
theorem dX4_next_28 : decode cX4_next 28 = .ok (.goto 4, 3) := by decide +kernel
theorem dX4_next_31 : decode cX4_next 31 = .ok (.iconst 0, 1) := by decide +kernel
theorem dX4_next_32 : decode cX4_next 32 = .ok (.istore 4, 2) := by decide +kernel
theorem dX4_next_34 : decode cX4_next 34 = .ok (.iload_n 0, 1) := by decide +kernel
theorem dX4_next_35 : decode cX4_next 35 = .ok (.tableswitch 138 0 5 #[37, 58, 72, 83, 104, 116], 37) := by decide +kernel
theorem dX4_next_72 : decode cX4_next 72 = .ok (.iload_n 2, 1) := by decide +kernel
theorem dX4_next_73 : decode cX4_next 73 = .ok (.ifCond .lt 7, 3) := by decide +kernel
theorem dX4_next_76 : decode cX4_next 76 = .ok (.iconst 1, 1) := by decide +kernel
theorem dX4_next_77 : decode cX4_next 77 = .ok (.goto 15, 3) := by decide +kernel
theorem dX4_next_80 : decode cX4_next 80 = .ok (.iload_n 1, 1) := by decide +kernel
theorem dX4_next_81 : decode cX4_next 81 = .ok (.bipush 40, 2) := by decide +kernel
theorem dX4_next_83 : decode cX4_next 83 = .ok (.if_icmp .ne 7, 3) := by decide +kernel
theorem dX4_next_86 : decode cX4_next 86 = .ok (.iconst 2, 1) := by decide +kernel
theorem dX4_next_87 : decode cX4_next 87 = .ok (.goto 5, 3) := by decide +kernel
theorem dX4_next_90 : decode cX4_next 90 = .ok (.bipush 6, 2) := by decide +kernel
theorem dX4_next_92 : decode cX4_next 92 = .ok (.ireturn, 1) := by decide +kernel
theorem dX4_next_93 : decode cX4_next 93 = .ok (.iload_n 1, 1) := by decide +kernel
theorem dX4_next_94 : decode cX4_next 94 = .ok (.invokestatic 27, 3) := by decide +kernel
theorem dX4_next_97 : decode cX4_next 97 = .ok (.ifCond .lt 7, 3) := by decide +kernel
theorem dX4_next_100 : decode cX4_next 100 = .ok (.iconst 0, 1) := by decide +kernel
theorem dX4_next_101 : decode cX4_next 101 = .ok (.goto 5, 3) := by decide +kernel
theorem dX4_next_104 : decode cX4_next 104 = .ok (.bipush 6, 2) := by decide +kernel
theorem dX4_next_106 : decode cX4_next 106 = .ok (.ireturn, 1) := by decide +kernel
theorem dX4_next_107 : decode cX4_next 107 = .ok (.iload_n 3, 1) := by decide +kernel
theorem dX4_next_108 : decode cX4_next 108 = .ok (.ifCond .eq 7, 3) := by decide +kernel
theorem dX4_next_111 : decode cX4_next 111 = .ok (.iconst 3, 1) := by decide +kernel
theorem dX4_next_112 : decode cX4_next 112 = .ok (.goto 5, 3) := by decide +kernel
theorem dX4_next_115 : decode cX4_next 115 = .ok (.bipush 6, 2) := by decide +kernel
theorem dX4_next_117 : decode cX4_next 117 = .ok (.ireturn, 1) := by decide +kernel
theorem dX4_next_118 : decode cX4_next 118 = .ok (.iload_n 3, 1) := by decide +kernel
theorem dX4_next_119 : decode cX4_next 119 = .ok (.ifCond .eq 7, 3) := by decide +kernel
theorem dX4_next_122 : decode cX4_next 122 = .ok (.iconst 3, 1) := by decide +kernel
theorem dX4_next_123 : decode cX4_next 123 = .ok (.goto 15, 3) := by decide +kernel
theorem dX4_next_126 : decode cX4_next 126 = .ok (.iload_n 1, 1) := by decide +kernel
theorem dX4_next_127 : decode cX4_next 127 = .ok (.bipush 58, 2) := by decide +kernel
theorem dX4_next_129 : decode cX4_next 129 = .ok (.if_icmp .ne 7, 3) := by decide +kernel
theorem dX4_next_132 : decode cX4_next 132 = .ok (.iconst 4, 1) := by decide +kernel
theorem dX4_next_133 : decode cX4_next 133 = .ok (.goto 5, 3) := by decide +kernel
theorem dX4_next_136 : decode cX4_next 136 = .ok (.bipush 6, 2) := by decide +kernel
theorem dX4_next_138 : decode cX4_next 138 = .ok (.ireturn, 1) := by decide +kernel
theorem dX4_next_139 : decode cX4_next 139 = .ok (.iload 4, 2) := by decide +kernel
theorem dX4_next_141 : decode cX4_next 141 = .ok (.ifCond .eq 7, 3) := by decide +kernel
theorem dX4_next_144 : decode cX4_next 144 = .ok (.iconst 5, 1) := by decide +kernel
theorem dX4_next_145 : decode cX4_next 145 = .ok (.goto 5, 3) := by decide +kernel
theorem dX4_next_148 : decode cX4_next 148 = .ok (.bipush 6, 2) := by decide +kernel
theorem dX4_next_150 : decode cX4_next 150 = .ok (.ireturn, 1) := by decide +kernel
theorem dX4_next_151 : decode cX4_next 151 = .ok (.iload 4, 2) := by decide +kernel
theorem dX4_next_153 : decode cX4_next 153 = .ok (.ifCond .eq 7, 3) := by decide +kernel
theorem dX4_next_156 : decode cX4_next 156 = .ok (.iconst 5, 1) := by decide +kernel
theorem dX4_next_157 : decode cX4_next 157 = .ok (.goto 15, 3) := by decide +kernel
theorem dX4_next_160 : decode cX4_next 160 = .ok (.iload_n 1, 1) := by decide +kernel
theorem dX4_next_161 : decode cX4_next 161 = .ok (.bipush 41, 2) := by decide +kernel
theorem dX4_next_163 : decode cX4_next 163 = .ok (.if_icmp .ne 7, 3) := by decide +kernel
theorem dX4_next_166 : decode cX4_next 166 = .ok (.iconst 0, 1) := by decide +kernel
theorem dX4_next_167 : decode cX4_next 167 = .ok (.goto 5, 3) := by decide +kernel
theorem dX4_next_170 : decode cX4_next 170 = .ok (.bipush 6, 2) := by decide +kernel
theorem dX4_next_172 : decode cX4_next 172 = .ok (.ireturn, 1) := by decide +kernel
theorem dX4_next_173 : decode cX4_next 173 = .ok (.bipush 6, 2) := by decide +kernel
theorem dX4_next_175 : decode cX4_next 175 = .ok (.ireturn, 1) := by decide +kernel
abbrev cxX4_next (G : Rg) (X : Ct) : Prop := Cx G X cX4_next 5 RX4 (some .int) 2 42 (Cond.code yX4_next cX4_next 5 (some .int))
def fX4_next_b32   (v0 : Int32) (v1 : Int32) (v2 : Int32) (v3 : Int32) (s0 : Int32) (M : Mm) : Option (Int32 × Mm) :=
if v0 = (0 : Int32) then
(if v2 < 0 then
(if v1 = (40 : Int32) then
(some ((2 : Int32), M))
else
(some ((6 : Int32), M)))
else
(some ((1 : Int32), M)))
else
if v0 = (1 : Int32) then
(bd (fX4_deedOf v1 M) fun r5 M5 =>
if r5 < 0 then
(some ((6 : Int32), M5))
else
(some ((0 : Int32), M5)))
else
if v0 = (2 : Int32) then
(if v3 = 0 then
(some ((6 : Int32), M))
else
(some ((3 : Int32), M)))
else
if v0 = (3 : Int32) then
(if v3 = 0 then
(if v1 = (58 : Int32) then
(some ((4 : Int32), M))
else
(some ((6 : Int32), M)))
else
(some ((3 : Int32), M)))
else
if v0 = (4 : Int32) then
(if s0 = 0 then
(some ((6 : Int32), M))
else
(some ((5 : Int32), M)))
else
if v0 = (5 : Int32) then
(if s0 = 0 then
(if v1 = (41 : Int32) then
(some ((0 : Int32), M))
else
(some ((6 : Int32), M)))
else
(some ((5 : Int32), M)))
else
(some ((6 : Int32), M))
set_option maxHeartbeats 4000000 in
set_option maxRecDepth 100000 in
theorem vX4_next_b32 {G : Rg} {X : Ct} {r : Int32} {Mf : Mm}   (C : cxX4_next G X) (hG : gS G = shX)   (v0 : Int32) (v1 : Int32) (v2 : Int32) (v3 : Int32) (s0 : Int32) (M : Mm) (hf : fX4_next_b32 v0 v1 v2 v3 s0 M = some (r, Mf)) : V G X 5 (some (.int r)) Mf 32 [(0, .int v0), (1, .int v1), (2, .int v2), (3, .int v3)] [.int s0] M := by
  rw [fX4_next_b32] at hf
  refine V.istore (pc := 32) (lv' := [(4, .int s0), (0, .int v0), (1, .int v1), (2, .int v2), (3, .int v3)]) C (by decide) rfl dX4_next_32 ?_
  refine V.iload_n (pc := 34) C 1 rfl dX4_next_34 ?_
  rcases it_some hf with ⟨h1, hf⟩ | ⟨h1, hf⟩
  · refine V.tabIn (pc := 35) (off := 37) C (0 : Int32) 72 h1 (by decide) (by decide) (by decide) (by decide) dX4_next_35 ?_
    refine V.iload_n (pc := 72) C 3 rfl dX4_next_72 ?_
    rcases it_some hf with ⟨h2, hf⟩ | ⟨h2, hf⟩
    · refine V.if_ltT (pc := 73) C 80 h2 (by decide) dX4_next_73 ?_
      refine V.iload_n (pc := 80) C 2 rfl dX4_next_80 ?_
      refine V.bipush (pc := 81) C (40 : Int32) (by decide) dX4_next_81 ?_
      rcases it_some hf with ⟨h3, hf⟩ | ⟨h3, hf⟩
      · refine V.ic_neF (pc := 83) C 90 h3 (by decide) dX4_next_83 ?_
        refine V.iconst (pc := 86) C (2 : Int32) (by decide) dX4_next_86 ?_
        refine V.goto (pc := 87) C 92 (by decide) dX4_next_87 ?_
        exact V.retI (pc := 92) C hf dX4_next_92
      · refine V.ic_neT (pc := 83) C 90 h3 (by decide) dX4_next_83 ?_
        refine V.bipush (pc := 90) C (6 : Int32) (by decide) dX4_next_90 ?_
        exact V.retI (pc := 92) C hf dX4_next_92
    · refine V.if_ltF (pc := 73) C 80 h2 (by decide) dX4_next_73 ?_
      refine V.iconst (pc := 76) C (1 : Int32) (by decide) dX4_next_76 ?_
      refine V.goto (pc := 77) C 92 (by decide) dX4_next_77 ?_
      exact V.retI (pc := 92) C hf dX4_next_92
  · skip
    rcases it_some hf with ⟨h4, hf⟩ | ⟨h4, hf⟩
    · refine V.tabIn (pc := 35) (off := 58) C (1 : Int32) 93 h4 (by decide) (by decide) (by decide) (by decide) dX4_next_35 ?_
      refine V.iload_n (pc := 93) C 2 rfl dX4_next_93 ?_
      obtain ⟨r5, M5, h5, hf⟩ := bd_some hf
      refine V.callSi (pc := 94) (As := [.int v1]) (rest := []) C (mX4_deedOf X.2.1 hG  h5) mf_X4_deedOf wM_X4_27 rfl rfl ⟨by decide, by decide⟩ (Nat.le_of_ble_eq_true rfl) dX4_next_94 ?_
      rcases it_some hf with ⟨h6, hf⟩ | ⟨h6, hf⟩
      · refine V.if_ltT (pc := 97) C 104 h6 (by decide) dX4_next_97 ?_
        refine V.bipush (pc := 104) C (6 : Int32) (by decide) dX4_next_104 ?_
        exact V.retI (pc := 106) C hf dX4_next_106
      · refine V.if_ltF (pc := 97) C 104 h6 (by decide) dX4_next_97 ?_
        refine V.iconst (pc := 100) C (0 : Int32) (by decide) dX4_next_100 ?_
        refine V.goto (pc := 101) C 106 (by decide) dX4_next_101 ?_
        exact V.retI (pc := 106) C hf dX4_next_106
    · skip
      rcases it_some hf with ⟨h7, hf⟩ | ⟨h7, hf⟩
      · refine V.tabIn (pc := 35) (off := 72) C (2 : Int32) 107 h7 (by decide) (by decide) (by decide) (by decide) dX4_next_35 ?_
        refine V.iload_n (pc := 107) C 4 rfl dX4_next_107 ?_
        rcases it_some hf with ⟨h8, hf⟩ | ⟨h8, hf⟩
        · refine V.if_eqT (pc := 108) C 115 h8 (by decide) dX4_next_108 ?_
          refine V.bipush (pc := 115) C (6 : Int32) (by decide) dX4_next_115 ?_
          exact V.retI (pc := 117) C hf dX4_next_117
        · refine V.if_eqF (pc := 108) C 115 h8 (by decide) dX4_next_108 ?_
          refine V.iconst (pc := 111) C (3 : Int32) (by decide) dX4_next_111 ?_
          refine V.goto (pc := 112) C 117 (by decide) dX4_next_112 ?_
          exact V.retI (pc := 117) C hf dX4_next_117
      · skip
        rcases it_some hf with ⟨h9, hf⟩ | ⟨h9, hf⟩
        · refine V.tabIn (pc := 35) (off := 83) C (3 : Int32) 118 h9 (by decide) (by decide) (by decide) (by decide) dX4_next_35 ?_
          refine V.iload_n (pc := 118) C 4 rfl dX4_next_118 ?_
          rcases it_some hf with ⟨h10, hf⟩ | ⟨h10, hf⟩
          · refine V.if_eqT (pc := 119) C 126 h10 (by decide) dX4_next_119 ?_
            refine V.iload_n (pc := 126) C 2 rfl dX4_next_126 ?_
            refine V.bipush (pc := 127) C (58 : Int32) (by decide) dX4_next_127 ?_
            rcases it_some hf with ⟨h11, hf⟩ | ⟨h11, hf⟩
            · refine V.ic_neF (pc := 129) C 136 h11 (by decide) dX4_next_129 ?_
              refine V.iconst (pc := 132) C (4 : Int32) (by decide) dX4_next_132 ?_
              refine V.goto (pc := 133) C 138 (by decide) dX4_next_133 ?_
              exact V.retI (pc := 138) C hf dX4_next_138
            · refine V.ic_neT (pc := 129) C 136 h11 (by decide) dX4_next_129 ?_
              refine V.bipush (pc := 136) C (6 : Int32) (by decide) dX4_next_136 ?_
              exact V.retI (pc := 138) C hf dX4_next_138
          · refine V.if_eqF (pc := 119) C 126 h10 (by decide) dX4_next_119 ?_
            refine V.iconst (pc := 122) C (3 : Int32) (by decide) dX4_next_122 ?_
            refine V.goto (pc := 123) C 138 (by decide) dX4_next_123 ?_
            exact V.retI (pc := 138) C hf dX4_next_138
        · skip
          rcases it_some hf with ⟨h12, hf⟩ | ⟨h12, hf⟩
          · refine V.tabIn (pc := 35) (off := 104) C (4 : Int32) 139 h12 (by decide) (by decide) (by decide) (by decide) dX4_next_35 ?_
            refine V.iload (pc := 139) C 0 rfl dX4_next_139 ?_
            rcases it_some hf with ⟨h13, hf⟩ | ⟨h13, hf⟩
            · refine V.if_eqT (pc := 141) C 148 h13 (by decide) dX4_next_141 ?_
              refine V.bipush (pc := 148) C (6 : Int32) (by decide) dX4_next_148 ?_
              exact V.retI (pc := 150) C hf dX4_next_150
            · refine V.if_eqF (pc := 141) C 148 h13 (by decide) dX4_next_141 ?_
              refine V.iconst (pc := 144) C (5 : Int32) (by decide) dX4_next_144 ?_
              refine V.goto (pc := 145) C 150 (by decide) dX4_next_145 ?_
              exact V.retI (pc := 150) C hf dX4_next_150
          · skip
            rcases it_some hf with ⟨h14, hf⟩ | ⟨h14, hf⟩
            · refine V.tabIn (pc := 35) (off := 116) C (5 : Int32) 151 h14 (by decide) (by decide) (by decide) (by decide) dX4_next_35 ?_
              refine V.iload (pc := 151) C 0 rfl dX4_next_151 ?_
              rcases it_some hf with ⟨h15, hf⟩ | ⟨h15, hf⟩
              · refine V.if_eqT (pc := 153) C 160 h15 (by decide) dX4_next_153 ?_
                refine V.iload_n (pc := 160) C 2 rfl dX4_next_160 ?_
                refine V.bipush (pc := 161) C (41 : Int32) (by decide) dX4_next_161 ?_
                rcases it_some hf with ⟨h16, hf⟩ | ⟨h16, hf⟩
                · refine V.ic_neF (pc := 163) C 170 h16 (by decide) dX4_next_163 ?_
                  refine V.iconst (pc := 166) C (0 : Int32) (by decide) dX4_next_166 ?_
                  refine V.goto (pc := 167) C 172 (by decide) dX4_next_167 ?_
                  exact V.retI (pc := 172) C hf dX4_next_172
                · refine V.ic_neT (pc := 163) C 170 h16 (by decide) dX4_next_163 ?_
                  refine V.bipush (pc := 170) C (6 : Int32) (by decide) dX4_next_170 ?_
                  exact V.retI (pc := 172) C hf dX4_next_172
              · refine V.if_eqF (pc := 153) C 160 h15 (by decide) dX4_next_153 ?_
                refine V.iconst (pc := 156) C (5 : Int32) (by decide) dX4_next_156 ?_
                refine V.goto (pc := 157) C 172 (by decide) dX4_next_157 ?_
                exact V.retI (pc := 172) C hf dX4_next_172
            · skip
              refine V.tabOut (pc := 35) C 173 (sw6 h1 h4 h7 h9 h12 h14) (by decide) dX4_next_35 ?_
              refine V.bipush (pc := 173) C (6 : Int32) (by decide) dX4_next_173 ?_
              exact V.retI (pc := 175) C hf dX4_next_175
def fX4_next_b20   (v0 : Int32) (v1 : Int32) (v2 : Int32) (s0 : Int32) (M : Mm) : Option (Int32 × Mm) :=
if v2 < (6 : Int32) then
(fX4_next_b32 v0 v1 v2 s0 (0 : Int32) M)
else
(fX4_next_b32 v0 v1 v2 s0 (1 : Int32) M)
set_option maxHeartbeats 4000000 in
set_option maxRecDepth 100000 in
theorem vX4_next_b20 {G : Rg} {X : Ct} {r : Int32} {Mf : Mm}   (C : cxX4_next G X) (hG : gS G = shX)   (v0 : Int32) (v1 : Int32) (v2 : Int32) (s0 : Int32) (M : Mm) (hf : fX4_next_b20 v0 v1 v2 s0 M = some (r, Mf)) : V G X 5 (some (.int r)) Mf 20 [(0, .int v0), (1, .int v1), (2, .int v2)] [.int s0] M := by
  rw [fX4_next_b20] at hf
  refine V.istore_n (pc := 20) (lv' := [(3, .int s0), (0, .int v0), (1, .int v1), (2, .int v2)]) C (by decide) rfl dX4_next_20 ?_
  refine V.iload_n (pc := 21) C 3 rfl dX4_next_21 ?_
  refine V.bipush (pc := 22) C (6 : Int32) (by decide) dX4_next_22 ?_
  rcases it_some hf with ⟨h1, hf⟩ | ⟨h1, hf⟩
  · refine V.ic_ltT (pc := 24) C 31 h1 (by decide) dX4_next_24 ?_
    refine V.iconst (pc := 31) C (0 : Int32) (by decide) dX4_next_31 ?_
    refine V.sub C [1, 2, 3, 0] (lv' := [(0, .int v0), (1, .int v1), (2, .int v2), (3, .int s0)]) rfl ?_
    exact vX4_next_b32 C hG    _ _ _ _ _ _ hf
  · refine V.ic_ltF (pc := 24) C 31 h1 (by decide) dX4_next_24 ?_
    refine V.iconst (pc := 27) C (1 : Int32) (by decide) dX4_next_27 ?_
    refine V.goto (pc := 28) C 32 (by decide) dX4_next_28 ?_
    refine V.sub C [1, 2, 3, 0] (lv' := [(0, .int v0), (1, .int v1), (2, .int v2), (3, .int s0)]) rfl ?_
    exact vX4_next_b32 C hG    _ _ _ _ _ _ hf
def fX4_next_b19   (v0 : Int32) (v1 : Int32) (v2 : Int32) (M : Mm) : Option (Int32 × Mm) :=
fX4_next_b20 v0 v1 v2 (0 : Int32) M
set_option maxHeartbeats 4000000 in
set_option maxRecDepth 100000 in
theorem vX4_next_b19 {G : Rg} {X : Ct} {r : Int32} {Mf : Mm}   (C : cxX4_next G X) (hG : gS G = shX)   (v0 : Int32) (v1 : Int32) (v2 : Int32) (M : Mm) (hf : fX4_next_b19 v0 v1 v2 M = some (r, Mf)) : V G X 5 (some (.int r)) Mf 19 [(0, .int v0), (1, .int v1), (2, .int v2)] [] M := by
  rw [fX4_next_b19] at hf
  refine V.iconst (pc := 19) C (0 : Int32) (by decide) dX4_next_19 ?_
  exact vX4_next_b20 C hG    _ _ _ _ _ hf
def fX4_next (x0 : Int32) (x1 : Int32) (M : Mm) : Option (Int32 × Mm) :=
bd (fX4_officerOf x1 M) fun r1 M1 =>
if r1 < 0 then
(fX4_next_b19 x0 x1 r1 M1)
else
(if (6 : Int32) ≤ r1 then
(fX4_next_b19 x0 x1 r1 M1)
else
(fX4_next_b20 x0 x1 r1 (1 : Int32) M1))
set_option maxHeartbeats 4000000 in
set_option maxRecDepth 100000 in
theorem mX4_next (l : Launch) {G : Rg} (hG : gS G = shX) {x0 : Int32} {x1 : Int32}  {M Mf : Mm} {r : Int32} (hf : fX4_next x0 x1 M = some (r, Mf)) : Mt l G yX4_next cX4_next 5 (some .int) 2 42 [.int x0, .int x1] M (some (.int r)) Mf := by
  refine Mt.of (by decide) (Nat.le_of_ble_eq_true rfl) ?_
  intro X C hX
  subst hX
  have C : cxX4_next G X := C
  show V G X 5 (some (.int r)) Mf 0 [(0, .int x0), (1, .int x1)] [] M
  rw [fX4_next] at hf
  refine V.iload_n (pc := 0) C 1 rfl dX4_next_0 ?_
  obtain ⟨r1, M1, h1, hf⟩ := bd_some hf
  refine V.callSi (pc := 1) (As := [.int x1]) (rest := []) C (mX4_officerOf X.2.1 hG  h1) mf_X4_officerOf wM_X4_23 rfl rfl ⟨by decide, by decide⟩ (Nat.le_of_ble_eq_true rfl) dX4_next_1 ?_
  refine V.istore_n (pc := 4) (lv' := [(2, .int r1), (0, .int x0), (1, .int x1)]) C (by decide) rfl dX4_next_4 ?_
  refine V.iload_n (pc := 5) C 0 rfl dX4_next_5 ?_
  rcases it_some hf with ⟨h2, hf⟩ | ⟨h2, hf⟩
  · refine V.if_ltT (pc := 6) C 19 h2 (by decide) dX4_next_6 ?_
    refine V.sub C [1, 2, 0] (lv' := [(0, .int x0), (1, .int x1), (2, .int r1)]) rfl ?_
    exact vX4_next_b19 C hG    _ _ _ _ hf
  · refine V.if_ltF (pc := 6) C 19 h2 (by decide) dX4_next_6 ?_
    refine V.iload_n (pc := 9) C 0 rfl dX4_next_9 ?_
    refine V.bipush (pc := 10) C (6 : Int32) (by decide) dX4_next_10 ?_
    rcases it_some hf with ⟨h3, hf⟩ | ⟨h3, hf⟩
    · refine V.ic_geT (pc := 12) C 19 h3 (by decide) dX4_next_12 ?_
      refine V.sub C [1, 2, 0] (lv' := [(0, .int x0), (1, .int x1), (2, .int r1)]) rfl ?_
      exact vX4_next_b19 C hG    _ _ _ _ hf
    · refine V.ic_geF (pc := 12) C 19 h3 (by decide) dX4_next_12 ?_
      refine V.iconst (pc := 15) C (1 : Int32) (by decide) dX4_next_15 ?_
      refine V.goto (pc := 16) C 20 (by decide) dX4_next_16 ?_
      refine V.sub C [1, 2, 0] (lv' := [(0, .int x0), (1, .int x1), (2, .int r1)]) rfl ?_
      exact vX4_next_b20 C hG    _ _ _ _ _ hf
theorem dX4_firstFault_0 : decode cX4_firstFault 0 = .ok (.iconst 0, 1) := by decide +kernel
theorem dX4_firstFault_1 : decode cX4_firstFault 1 = .ok (.istore_n 1, 1) := by decide +kernel
theorem dX4_firstFault_2 : decode cX4_firstFault 2 = .ok (.iconst 0, 1) := by decide +kernel
theorem dX4_firstFault_3 : decode cX4_firstFault 3 = .ok (.istore_n 2, 1) := by decide +kernel
theorem dX4_firstFault_4 : decode cX4_firstFault 4 = .ok (.iload_n 2, 1) := by decide +kernel
theorem dX4_firstFault_5 : decode cX4_firstFault 5 = .ok (.aload_n 0, 1) := by decide +kernel
theorem dX4_firstFault_6 : decode cX4_firstFault 6 = .ok (.getfield 15, 3) := by decide +kernel
theorem dX4_firstFault_9 : decode cX4_firstFault 9 = .ok (.if_icmp .ge 28, 3) := by decide +kernel
theorem dX4_firstFault_12 : decode cX4_firstFault 12 = .ok (.iload_n 1, 1) := by decide +kernel
theorem dX4_firstFault_13 : decode cX4_firstFault 13 = .ok (.aload_n 0, 1) := by decide +kernel
theorem dX4_firstFault_14 : decode cX4_firstFault 14 = .ok (.getfield 9, 3) := by decide +kernel
theorem dX4_firstFault_17 : decode cX4_firstFault 17 = .ok (.iload_n 2, 1) := by decide +kernel
theorem dX4_firstFault_18 : decode cX4_firstFault 18 = .ok (.iaload, 1) := by decide +kernel
theorem dX4_firstFault_19 : decode cX4_firstFault 19 = .ok (.invokestatic 19, 3) := by decide +kernel
theorem dX4_firstFault_22 : decode cX4_firstFault 22 = .ok (.istore_n 1, 1) := by decide +kernel
theorem dX4_firstFault_23 : decode cX4_firstFault 23 = .ok (.iload_n 1, 1) := by decide +kernel
theorem dX4_firstFault_24 : decode cX4_firstFault 24 = .ok (.bipush 6, 2) := by decide +kernel
theorem dX4_firstFault_26 : decode cX4_firstFault 26 = .ok (.if_icmp .ne 5, 3) := by decide +kernel
theorem dX4_firstFault_29 : decode cX4_firstFault 29 = .ok (.iload_n 2, 1) := by decide +kernel
theorem dX4_firstFault_30 : decode cX4_firstFault 30 = .ok (.ireturn, 1) := by decide +kernel
theorem dX4_firstFault_31 : decode cX4_firstFault 31 = .ok (.iinc 2 1, 3) := by decide +kernel
theorem dX4_firstFault_34 : decode cX4_firstFault 34 = .ok (.goto (-30), 3) := by decide +kernel
theorem dX4_firstFault_37 : decode cX4_firstFault 37 = .ok (.iload_n 1, 1) := by decide +kernel
theorem dX4_firstFault_38 : decode cX4_firstFault 38 = .ok (.ifCond .ne 8, 3) := by decide +kernel
theorem dX4_firstFault_41 : decode cX4_firstFault 41 = .ok (.bipush (-6), 2) := by decide +kernel
theorem dX4_firstFault_43 : decode cX4_firstFault 43 = .ok (.goto 7, 3) := by decide +kernel
theorem dX4_firstFault_46 : decode cX4_firstFault 46 = .ok (.aload_n 0, 1) := by decide +kernel
theorem dX4_firstFault_47 : decode cX4_firstFault 47 = .ok (.getfield 15, 3) := by decide +kernel
theorem dX4_firstFault_50 : decode cX4_firstFault 50 = .ok (.ireturn, 1) := by decide +kernel
abbrev cxX4_firstFault (G : Rg) (X : Ct) : Prop := Cx G X cX4_firstFault 3 RX4 (some .int) 3 66 (Cond.code yX4_firstFault cX4_firstFault 3 (some .int))
def fX4_firstFault_b37   (v1 : Int32) (M : Mm) : Option (Int32 × Mm) :=
if v1 = 0 then
(some ((-6 : Int32), M))
else
(some ((M.1 6 1), M))
set_option maxHeartbeats 4000000 in
set_option maxRecDepth 100000 in
theorem vX4_firstFault_b37 {G : Rg} {X : Ct} {r : Int32} {Mf : Mm}   (C : cxX4_firstFault G X) (hG : gS G = shX)   (v1 : Int32) (M : Mm) (hf : fX4_firstFault_b37 v1 M = some (r, Mf)) : V G X 3 (some (.int r)) Mf 37 [(0, .ref (gA G 6)), (1, .int v1)] [] M := by
  rw [fX4_firstFault_b37] at hf
  refine V.iload_n (pc := 37) C 1 rfl dX4_firstFault_37 ?_
  rcases it_some hf with ⟨h1, hf⟩ | ⟨h1, hf⟩
  · refine V.if_neF (pc := 38) C 46 h1 (by decide) dX4_firstFault_38 ?_
    refine V.bipush (pc := 41) C (-6 : Int32) (by decide) dX4_firstFault_41 ?_
    refine V.goto (pc := 43) C 50 (by decide) dX4_firstFault_43 ?_
    exact V.retI (pc := 50) C hf dX4_firstFault_50
  · refine V.if_neT (pc := 38) C 46 h1 (by decide) dX4_firstFault_38 ?_
    refine V.aload_n (pc := 46) C 0 rfl dX4_firstFault_46 ?_
    refine V.getI (pc := 47) C clX4 inX4 (sx_6 hG) 1 (by decide) wF_X4_15 rfl dX4_firstFault_47 ?_
    exact V.retI (pc := 50) C hf dX4_firstFault_50
def fX4_firstFault_b4   : Nat → Int32 → Int32 → Mm → Option (Int32 × Mm)
  | 0, _, _, _ => none
  | n + 1, v1, v2, M =>
    if (M.1 6 1) ≤ v2 then
    (fX4_firstFault_b37 v1 M)
    else
    (gd (inb v2 60) (
    bd (fX4_next v1 (M.1 7 v2.toNatClampNeg) M) fun r3 M3 =>
    if r3 = (6 : Int32) then
    (some (v2, M3))
    else
    (fX4_firstFault_b4  n r3 (v2 + (1 : Int32)) M3)))
set_option maxHeartbeats 4000000 in
set_option maxRecDepth 100000 in
theorem vX4_firstFault_b4 {G : Rg} {X : Ct} {r : Int32} {Mf : Mm}   (C : cxX4_firstFault G X) (hG : gS G = shX)   : ∀ (n : Nat) (v1 : Int32) (v2 : Int32) (M : Mm), fX4_firstFault_b4 n v1 v2 M = some (r, Mf) → V G X 3 (some (.int r)) Mf 4 [(0, .ref (gA G 6)), (1, .int v1), (2, .int v2)] [] M := by
  intro n
  induction n with
  | zero => intro v1 v2 M hf; rw [fX4_firstFault_b4] at hf; cases hf
  | succ n ih =>
    intro v1 v2 M hf
    rw [fX4_firstFault_b4] at hf
    refine V.iload_n (pc := 4) C 2 rfl dX4_firstFault_4 ?_
    refine V.aload_n (pc := 5) C 0 rfl dX4_firstFault_5 ?_
    refine V.getI (pc := 6) C clX4 inX4 (sx_6 hG) 1 (by decide) wF_X4_15 rfl dX4_firstFault_6 ?_
    rcases it_some hf with ⟨h1, hf⟩ | ⟨h1, hf⟩
    · refine V.ic_geT (pc := 9) C 37 h1 (by decide) dX4_firstFault_9 ?_
      refine V.sub C [0, 1] (lv' := [(0, .ref (gA G 6)), (1, .int v1)]) rfl ?_
      exact vX4_firstFault_b37 C hG    _ _ hf
    · refine V.ic_geF (pc := 9) C 37 h1 (by decide) dX4_firstFault_9 ?_
      refine V.iload_n (pc := 12) C 1 rfl dX4_firstFault_12 ?_
      refine V.aload_n (pc := 13) C 0 rfl dX4_firstFault_13 ?_
      refine V.getR (pc := 14) C clX4 inX4 (sx_6 hG) 0 (by decide) wF_X4_9 rfl dX4_firstFault_14 ?_
      refine V.iload_n (pc := 17) C 2 rfl dX4_firstFault_17 ?_
      obtain ⟨g2, hf⟩ := gd_some hf
      refine V.iald (pc := 18) C (sx_7 hG) (inb_in g2) dX4_firstFault_18 ?_
      obtain ⟨r3, M3, h3, hf⟩ := bd_some hf
      refine V.callSi (pc := 19) (As := [.int v1, .int (M.1 7 v2.toNatClampNeg)]) (rest := []) C (mX4_next X.2.1 hG  h3) mf_X4_next wM_X4_19 rfl rfl ⟨by decide, by decide⟩ (Nat.le_of_ble_eq_true rfl) dX4_firstFault_19 ?_
      refine V.istore_n (pc := 22) (lv' := [(1, .int r3), (0, .ref (gA G 6)), (2, .int v2)]) C (by decide) rfl dX4_firstFault_22 ?_
      refine V.iload_n (pc := 23) C 0 rfl dX4_firstFault_23 ?_
      refine V.bipush (pc := 24) C (6 : Int32) (by decide) dX4_firstFault_24 ?_
      rcases it_some hf with ⟨h4, hf⟩ | ⟨h4, hf⟩
      · refine V.ic_neF (pc := 26) C 31 h4 (by decide) dX4_firstFault_26 ?_
        refine V.iload_n (pc := 29) C 2 rfl dX4_firstFault_29 ?_
        exact V.retI (pc := 30) C hf dX4_firstFault_30
      · refine V.ic_neT (pc := 26) C 31 h4 (by decide) dX4_firstFault_26 ?_
        refine V.iinc (pc := 31) (lv' := [(2, .int (v2 + (1 : Int32))), (1, .int r3), (0, .ref (gA G 6))]) C (v2 + (1 : Int32)) 2 rfl rfl (by decide) rfl dX4_firstFault_31 ?_
        refine V.goto (pc := 34) C 4 (by decide) dX4_firstFault_34 ?_
        refine V.sub C [2, 1, 0] (lv' := [(0, .ref (gA G 6)), (1, .int r3), (2, .int (v2 + (1 : Int32)))]) rfl ?_
        exact ih _ _ _ hf
def fX4_firstFault  (M : Mm) : Option (Int32 × Mm) :=
fX4_firstFault_b4 fu (0 : Int32) (0 : Int32) M
set_option maxHeartbeats 4000000 in
set_option maxRecDepth 100000 in
theorem mX4_firstFault (l : Launch) {G : Rg} (hG : gS G = shX)   {M Mf : Mm} {r : Int32} (hf : fX4_firstFault  M = some (r, Mf)) : Mt l G yX4_firstFault cX4_firstFault 3 (some .int) 3 66 [.ref (gA G 6)] M (some (.int r)) Mf := by
  refine Mt.of (by decide) (Nat.le_of_ble_eq_true rfl) ?_
  intro X C hX
  subst hX
  have C : cxX4_firstFault G X := C
  show V G X 3 (some (.int r)) Mf 0 [(0, .ref (gA G 6))] [] M
  rw [fX4_firstFault] at hf
  refine V.iconst (pc := 0) C (0 : Int32) (by decide) dX4_firstFault_0 ?_
  refine V.istore_n (pc := 1) (lv' := [(1, .int (0 : Int32)), (0, .ref (gA G 6))]) C (by decide) rfl dX4_firstFault_1 ?_
  refine V.iconst (pc := 2) C (0 : Int32) (by decide) dX4_firstFault_2 ?_
  refine V.istore_n (pc := 3) (lv' := [(2, .int (0 : Int32)), (1, .int (0 : Int32)), (0, .ref (gA G 6))]) C (by decide) rfl dX4_firstFault_3 ?_
  refine V.sub C [2, 1, 0] (lv' := [(0, .ref (gA G 6)), (1, .int (0 : Int32)), (2, .int (0 : Int32))]) rfl ?_
  exact vX4_firstFault_b4 C hG   fu _ _ _ hf
theorem dX8_fault_0 : decode cX8_fault 0 = .ok (.aload_n 0, 1) := by decide +kernel
theorem dX8_fault_1 : decode cX8_fault 1 = .ok (.getfield 19, 3) := by decide +kernel
theorem dX8_fault_4 : decode cX8_fault 4 = .ok (.invokevirtual 109, 3) := by decide +kernel
theorem dX8_fault_7 : decode cX8_fault 7 = .ok (.ireturn, 1) := by decide +kernel
abbrev cxX8_fault (G : Rg) (X : Ct) : Prop := Cx G X cX8_fault 1 RX8 (some .int) 4 88 (Cond.code yX8_fault cX8_fault 1 (some .int))
def fX8_fault  (M : Mm) : Option (Int32 × Mm) :=
bd (fX4_firstFault M) fun r1 M1 =>
some (r1, M1)
set_option maxHeartbeats 4000000 in
set_option maxRecDepth 100000 in
theorem mX8_fault (l : Launch) {G : Rg} (hG : gS G = shX)   {M Mf : Mm} {r : Int32} (hf : fX8_fault  M = some (r, Mf)) : Mt l G yX8_fault cX8_fault 1 (some .int) 4 88 [.ref (gA G 0)] M (some (.int r)) Mf := by
  refine Mt.of (by decide) (Nat.le_of_ble_eq_true rfl) ?_
  intro X C hX
  subst hX
  have C : cxX8_fault G X := C
  show V G X 1 (some (.int r)) Mf 0 [(0, .ref (gA G 0))] [] M
  rw [fX8_fault] at hf
  refine V.aload_n (pc := 0) C 0 rfl dX8_fault_0 ?_
  refine V.getR (pc := 1) C clX8 inX8 (sx_0 hG) 1 (by decide) wF_X8_19 rfl dX8_fault_1 ?_
  obtain ⟨r1, M1, h1, hf⟩ := bd_some hf
  refine V.callVi (pc := 4) (As := []) (rest := []) C (mX4_firstFault X.2.1 hG  h1) mf_X4_firstFault clX4 (sx_6 hG) wM_X8_109 rfl rfl ⟨by decide, by decide⟩ (Nat.le_of_ble_eq_true rfl) dX8_fault_4 ?_
  exact V.retI (pc := 7) C hf dX8_fault_7
theorem dX0_copyFrom_0 : decode cX0_copyFrom 0 = .ok (.aload_n 0, 1) := by decide +kernel
theorem dX0_copyFrom_1 : decode cX0_copyFrom 1 = .ok (.aload_n 1, 1) := by decide +kernel
theorem dX0_copyFrom_2 : decode cX0_copyFrom 2 = .ok (.getfield 28, 3) := by decide +kernel
theorem dX0_copyFrom_5 : decode cX0_copyFrom 5 = .ok (.putfield 28, 3) := by decide +kernel
theorem dX0_copyFrom_8 : decode cX0_copyFrom 8 = .ok (.aload_n 0, 1) := by decide +kernel
theorem dX0_copyFrom_9 : decode cX0_copyFrom 9 = .ok (.aload_n 1, 1) := by decide +kernel
theorem dX0_copyFrom_10 : decode cX0_copyFrom 10 = .ok (.getfield 9, 3) := by decide +kernel
theorem dX0_copyFrom_13 : decode cX0_copyFrom 13 = .ok (.putfield 9, 3) := by decide +kernel
theorem dX0_copyFrom_16 : decode cX0_copyFrom 16 = .ok (.aload_n 0, 1) := by decide +kernel
theorem dX0_copyFrom_17 : decode cX0_copyFrom 17 = .ok (.aload_n 1, 1) := by decide +kernel
theorem dX0_copyFrom_18 : decode cX0_copyFrom 18 = .ok (.getfield 31, 3) := by decide +kernel
theorem dX0_copyFrom_21 : decode cX0_copyFrom 21 = .ok (.putfield 31, 3) := by decide +kernel
theorem dX0_copyFrom_24 : decode cX0_copyFrom 24 = .ok (.aload_n 0, 1) := by decide +kernel
theorem dX0_copyFrom_25 : decode cX0_copyFrom 25 = .ok (.aload_n 1, 1) := by decide +kernel
theorem dX0_copyFrom_26 : decode cX0_copyFrom 26 = .ok (.getfield 34, 3) := by decide +kernel
theorem dX0_copyFrom_29 : decode cX0_copyFrom 29 = .ok (.putfield 34, 3) := by decide +kernel
theorem dX0_copyFrom_32 : decode cX0_copyFrom 32 = .ok (.aload_n 1, 1) := by decide +kernel
theorem dX0_copyFrom_33 : decode cX0_copyFrom 33 = .ok (.getfield 15, 3) := by decide +kernel
theorem dX0_copyFrom_36 : decode cX0_copyFrom 36 = .ok (.iconst 0, 1) := by decide +kernel
theorem dX0_copyFrom_37 : decode cX0_copyFrom 37 = .ok (.aload_n 0, 1) := by decide +kernel
theorem dX0_copyFrom_38 : decode cX0_copyFrom 38 = .ok (.getfield 15, 3) := by decide +kernel
theorem dX0_copyFrom_41 : decode cX0_copyFrom 41 = .ok (.iconst 0, 1) := by decide +kernel
theorem dX0_copyFrom_42 : decode cX0_copyFrom 42 = .ok (.bipush 12, 2) := by decide +kernel
theorem dX0_copyFrom_44 : decode cX0_copyFrom 44 = .ok (.invokestatic 37, 3) := by decide +kernel
theorem dX0_copyFrom_47 : decode cX0_copyFrom 47 = .ok (.aload_n 1, 1) := by decide +kernel
theorem dX0_copyFrom_48 : decode cX0_copyFrom 48 = .ok (.getfield 19, 3) := by decide +kernel
theorem dX0_copyFrom_51 : decode cX0_copyFrom 51 = .ok (.iconst 0, 1) := by decide +kernel
theorem dX0_copyFrom_52 : decode cX0_copyFrom 52 = .ok (.aload_n 0, 1) := by decide +kernel
theorem dX0_copyFrom_53 : decode cX0_copyFrom 53 = .ok (.getfield 19, 3) := by decide +kernel
theorem dX0_copyFrom_56 : decode cX0_copyFrom 56 = .ok (.iconst 0, 1) := by decide +kernel
theorem dX0_copyFrom_57 : decode cX0_copyFrom 57 = .ok (.bipush 12, 2) := by decide +kernel
theorem dX0_copyFrom_59 : decode cX0_copyFrom 59 = .ok (.invokestatic 37, 3) := by decide +kernel
theorem dX0_copyFrom_62 : decode cX0_copyFrom 62 = .ok (.aload_n 1, 1) := by decide +kernel
theorem dX0_copyFrom_63 : decode cX0_copyFrom 63 = .ok (.getfield 22, 3) := by decide +kernel
theorem dX0_copyFrom_66 : decode cX0_copyFrom 66 = .ok (.iconst 0, 1) := by decide +kernel
theorem dX0_copyFrom_67 : decode cX0_copyFrom 67 = .ok (.aload_n 0, 1) := by decide +kernel
theorem dX0_copyFrom_68 : decode cX0_copyFrom 68 = .ok (.getfield 22, 3) := by decide +kernel
theorem dX0_copyFrom_71 : decode cX0_copyFrom 71 = .ok (.iconst 0, 1) := by decide +kernel
theorem dX0_copyFrom_72 : decode cX0_copyFrom 72 = .ok (.bipush 6, 2) := by decide +kernel
theorem dX0_copyFrom_74 : decode cX0_copyFrom 74 = .ok (.invokestatic 37, 3) := by decide +kernel
theorem dX0_copyFrom_77 : decode cX0_copyFrom 77 = .ok (.aload_n 1, 1) := by decide +kernel
theorem dX0_copyFrom_78 : decode cX0_copyFrom 78 = .ok (.getfield 25, 3) := by decide +kernel
theorem dX0_copyFrom_81 : decode cX0_copyFrom 81 = .ok (.iconst 0, 1) := by decide +kernel
theorem dX0_copyFrom_82 : decode cX0_copyFrom 82 = .ok (.aload_n 0, 1) := by decide +kernel
theorem dX0_copyFrom_83 : decode cX0_copyFrom 83 = .ok (.getfield 25, 3) := by decide +kernel
theorem dX0_copyFrom_86 : decode cX0_copyFrom 86 = .ok (.iconst 0, 1) := by decide +kernel
theorem dX0_copyFrom_87 : decode cX0_copyFrom 87 = .ok (.bipush 8, 2) := by decide +kernel
theorem dX0_copyFrom_89 : decode cX0_copyFrom 89 = .ok (.invokestatic 37, 3) := by decide +kernel
theorem dX0_copyFrom_92 : decode cX0_copyFrom 92 = .ok (.return_, 1) := by decide +kernel
abbrev cxX0_copyFrom (G : Rg) (X : Ct) : Prop := Cx G X cX0_copyFrom 2 RX0 (none) 1 40 (Cond.code yX0_copyFrom cX0_copyFrom 2 (none))
def fX0_copyFrom (c0 : Nat) (c1 : Nat) (M : Mm) : Option (Unit × Mm) :=
some ((), (cpI (cpI (cpI (cpI (sI (sI (sI (sI M c0 0 (M.1 c1 0)) c0 1 ((sI M c0 0 (M.1 c1 0)).1 c1 1)) c0 2 ((sI (sI M c0 0 (M.1 c1 0)) c0 1 ((sI M c0 0 (M.1 c1 0)).1 c1 1)).1 c1 2)) c0 3 ((sI (sI (sI M c0 0 (M.1 c1 0)) c0 1 ((sI M c0 0 (M.1 c1 0)).1 c1 1)) c0 2 ((sI (sI M c0 0 (M.1 c1 0)) c0 1 ((sI M c0 0 (M.1 c1 0)).1 c1 1)).1 c1 2)).1 c1 3)) (c1 + 1) (c0 + 1) (12 : Int32).toNatClampNeg) (c1 + 2) (c0 + 2) (12 : Int32).toNatClampNeg) (c1 + 3) (c0 + 3) (6 : Int32).toNatClampNeg) (c1 + 4) (c0 + 4) (8 : Int32).toNatClampNeg))
set_option maxHeartbeats 4000000 in
set_option maxRecDepth 100000 in
theorem mX0_copyFrom (l : Launch) {G : Rg} (hG : gS G = shX) {c0 : Nat} {c1 : Nat} (hB0 : isB G c0) (hB1 : isB G c1) {M Mf : Mm} {r : Unit} (hf : fX0_copyFrom c0 c1 M = some (r, Mf)) : Mt l G yX0_copyFrom cX0_copyFrom 2 (none) 1 40 [.ref (gA G c0), .ref (gA G c1)] M none Mf := by
  refine Mt.of (by decide) (Nat.le_of_ble_eq_true rfl) ?_
  intro X C hX
  subst hX
  have C : cxX0_copyFrom G X := C
  show V G X 2 none Mf 0 [(0, .ref (gA G c0)), (1, .ref (gA G c1))] [] M
  rw [fX0_copyFrom] at hf
  refine V.aload_n (pc := 0) C 0 rfl dX0_copyFrom_0 ?_
  refine V.aload_n (pc := 1) C 1 rfl dX0_copyFrom_1 ?_
  refine V.getI (pc := 2) C clX0 inX0 hB1.1 0 (by decide) wF_X0_28 rfl dX0_copyFrom_2 ?_
  refine V.putI (pc := 5) C clX0 inX0 hB0.1 0 (by decide) wF_X0_28 tyX0 tyX0_ok nmX0 rfl (tyX0_ok 0 (by decide)) rfl dX0_copyFrom_5 ?_
  refine V.aload_n (pc := 8) C 0 rfl dX0_copyFrom_8 ?_
  refine V.aload_n (pc := 9) C 1 rfl dX0_copyFrom_9 ?_
  refine V.getI (pc := 10) C clX0 inX0 hB1.1 1 (by decide) wF_X0_9 rfl dX0_copyFrom_10 ?_
  refine V.putI (pc := 13) C clX0 inX0 hB0.1 1 (by decide) wF_X0_9 tyX0 tyX0_ok nmX0 rfl (tyX0_ok 1 (by decide)) rfl dX0_copyFrom_13 ?_
  refine V.aload_n (pc := 16) C 0 rfl dX0_copyFrom_16 ?_
  refine V.aload_n (pc := 17) C 1 rfl dX0_copyFrom_17 ?_
  refine V.getI (pc := 18) C clX0 inX0 hB1.1 2 (by decide) wF_X0_31 rfl dX0_copyFrom_18 ?_
  refine V.putI (pc := 21) C clX0 inX0 hB0.1 2 (by decide) wF_X0_31 tyX0 tyX0_ok nmX0 rfl (tyX0_ok 2 (by decide)) rfl dX0_copyFrom_21 ?_
  refine V.aload_n (pc := 24) C 0 rfl dX0_copyFrom_24 ?_
  refine V.aload_n (pc := 25) C 1 rfl dX0_copyFrom_25 ?_
  refine V.getI (pc := 26) C clX0 inX0 hB1.1 3 (by decide) wF_X0_34 rfl dX0_copyFrom_26 ?_
  refine V.putI (pc := 29) C clX0 inX0 hB0.1 3 (by decide) wF_X0_34 tyX0 tyX0_ok nmX0 rfl (tyX0_ok 3 (by decide)) rfl dX0_copyFrom_29 ?_
  refine V.aload_n (pc := 32) C 1 rfl dX0_copyFrom_32 ?_
  refine V.getR (pc := 33) C clX0 inX0 hB1.1 4 (by decide) wF_X0_15 rfl dX0_copyFrom_33 ?_
  refine V.iconst (pc := 36) C (0 : Int32) (by decide) dX0_copyFrom_36 ?_
  refine V.aload_n (pc := 37) C 0 rfl dX0_copyFrom_37 ?_
  refine V.getR (pc := 38) C clX0 inX0 hB0.1 4 (by decide) wF_X0_15 rfl dX0_copyFrom_38 ?_
  refine V.iconst (pc := 41) C (0 : Int32) (by decide) dX0_copyFrom_41 ?_
  refine V.bipush (pc := 42) C (12 : Int32) (by decide) dX0_copyFrom_42 ?_
  refine V.copyI (pc := 44) C mc_X0_37 hB1.2.1 hB0.2.1 (by decide) (by decide) (by decide) (by decide) (by decide) dX0_copyFrom_44 ?_
  refine V.aload_n (pc := 47) C 1 rfl dX0_copyFrom_47 ?_
  refine V.getR (pc := 48) C clX0 inX0 hB1.1 5 (by decide) wF_X0_19 rfl dX0_copyFrom_48 ?_
  refine V.iconst (pc := 51) C (0 : Int32) (by decide) dX0_copyFrom_51 ?_
  refine V.aload_n (pc := 52) C 0 rfl dX0_copyFrom_52 ?_
  refine V.getR (pc := 53) C clX0 inX0 hB0.1 5 (by decide) wF_X0_19 rfl dX0_copyFrom_53 ?_
  refine V.iconst (pc := 56) C (0 : Int32) (by decide) dX0_copyFrom_56 ?_
  refine V.bipush (pc := 57) C (12 : Int32) (by decide) dX0_copyFrom_57 ?_
  refine V.copyI (pc := 59) C mc_X0_37 hB1.2.2.1 hB0.2.2.1 (by decide) (by decide) (by decide) (by decide) (by decide) dX0_copyFrom_59 ?_
  refine V.aload_n (pc := 62) C 1 rfl dX0_copyFrom_62 ?_
  refine V.getR (pc := 63) C clX0 inX0 hB1.1 6 (by decide) wF_X0_22 rfl dX0_copyFrom_63 ?_
  refine V.iconst (pc := 66) C (0 : Int32) (by decide) dX0_copyFrom_66 ?_
  refine V.aload_n (pc := 67) C 0 rfl dX0_copyFrom_67 ?_
  refine V.getR (pc := 68) C clX0 inX0 hB0.1 6 (by decide) wF_X0_22 rfl dX0_copyFrom_68 ?_
  refine V.iconst (pc := 71) C (0 : Int32) (by decide) dX0_copyFrom_71 ?_
  refine V.bipush (pc := 72) C (6 : Int32) (by decide) dX0_copyFrom_72 ?_
  refine V.copyI (pc := 74) C mc_X0_37 hB1.2.2.2.1 hB0.2.2.2.1 (by decide) (by decide) (by decide) (by decide) (by decide) dX0_copyFrom_74 ?_
  refine V.aload_n (pc := 77) C 1 rfl dX0_copyFrom_77 ?_
  refine V.getR (pc := 78) C clX0 inX0 hB1.1 7 (by decide) wF_X0_25 rfl dX0_copyFrom_78 ?_
  refine V.iconst (pc := 81) C (0 : Int32) (by decide) dX0_copyFrom_81 ?_
  refine V.aload_n (pc := 82) C 0 rfl dX0_copyFrom_82 ?_
  refine V.getR (pc := 83) C clX0 inX0 hB0.1 7 (by decide) wF_X0_25 rfl dX0_copyFrom_83 ?_
  refine V.iconst (pc := 86) C (0 : Int32) (by decide) dX0_copyFrom_86 ?_
  refine V.bipush (pc := 87) C (8 : Int32) (by decide) dX0_copyFrom_87 ?_
  refine V.copyI (pc := 89) C mc_X0_37 hB1.2.2.2.2 hB0.2.2.2.2 (by decide) (by decide) (by decide) (by decide) (by decide) dX0_copyFrom_89 ?_
  exact V.retV (pc := 92) C hf dX0_copyFrom_92
theorem dX0_crowdIn_0 : decode cX0_crowdIn 0 = .ok (.iconst 0, 1) := by decide +kernel
theorem dX0_crowdIn_1 : decode cX0_crowdIn 1 = .ok (.istore_n 2, 1) := by decide +kernel
theorem dX0_crowdIn_2 : decode cX0_crowdIn 2 = .ok (.iconst 0, 1) := by decide +kernel
theorem dX0_crowdIn_3 : decode cX0_crowdIn 3 = .ok (.istore_n 3, 1) := by decide +kernel
theorem dX0_crowdIn_4 : decode cX0_crowdIn 4 = .ok (.iload_n 3, 1) := by decide +kernel
theorem dX0_crowdIn_5 : decode cX0_crowdIn 5 = .ok (.bipush 12, 2) := by decide +kernel
theorem dX0_crowdIn_7 : decode cX0_crowdIn 7 = .ok (.if_icmp .ge 41, 3) := by decide +kernel
theorem dX0_crowdIn_10 : decode cX0_crowdIn 10 = .ok (.aload_n 0, 1) := by decide +kernel
theorem dX0_crowdIn_11 : decode cX0_crowdIn 11 = .ok (.getfield 28, 3) := by decide +kernel
theorem dX0_crowdIn_14 : decode cX0_crowdIn 14 = .ok (.iload_n 3, 1) := by decide +kernel
theorem dX0_crowdIn_15 : decode cX0_crowdIn 15 = .ok (.ishr, 1) := by decide +kernel
theorem dX0_crowdIn_16 : decode cX0_crowdIn 16 = .ok (.iconst 1, 1) := by decide +kernel
theorem dX0_crowdIn_17 : decode cX0_crowdIn 17 = .ok (.iand, 1) := by decide +kernel
theorem dX0_crowdIn_18 : decode cX0_crowdIn 18 = .ok (.iconst 1, 1) := by decide +kernel
theorem dX0_crowdIn_19 : decode cX0_crowdIn 19 = .ok (.if_icmp .ne 23, 3) := by decide +kernel
theorem dX0_crowdIn_22 : decode cX0_crowdIn 22 = .ok (.iload_n 1, 1) := by decide +kernel
theorem dX0_crowdIn_23 : decode cX0_crowdIn 23 = .ok (.aload_n 0, 1) := by decide +kernel
theorem dX0_crowdIn_24 : decode cX0_crowdIn 24 = .ok (.getfield 19, 3) := by decide +kernel
theorem dX0_crowdIn_27 : decode cX0_crowdIn 27 = .ok (.iload_n 3, 1) := by decide +kernel
theorem dX0_crowdIn_28 : decode cX0_crowdIn 28 = .ok (.iaload, 1) := by decide +kernel
theorem dX0_crowdIn_29 : decode cX0_crowdIn 29 = .ok (.ishr, 1) := by decide +kernel
theorem dX0_crowdIn_30 : decode cX0_crowdIn 30 = .ok (.iconst 1, 1) := by decide +kernel
theorem dX0_crowdIn_31 : decode cX0_crowdIn 31 = .ok (.iand, 1) := by decide +kernel
theorem dX0_crowdIn_32 : decode cX0_crowdIn 32 = .ok (.iconst 1, 1) := by decide +kernel
theorem dX0_crowdIn_33 : decode cX0_crowdIn 33 = .ok (.if_icmp .ne 9, 3) := by decide +kernel
theorem dX0_crowdIn_36 : decode cX0_crowdIn 36 = .ok (.iload_n 2, 1) := by decide +kernel
theorem dX0_crowdIn_37 : decode cX0_crowdIn 37 = .ok (.iconst 1, 1) := by decide +kernel
theorem dX0_crowdIn_38 : decode cX0_crowdIn 38 = .ok (.iload_n 3, 1) := by decide +kernel
theorem dX0_crowdIn_39 : decode cX0_crowdIn 39 = .ok (.ishl, 1) := by decide +kernel
theorem dX0_crowdIn_40 : decode cX0_crowdIn 40 = .ok (.ior, 1) := by decide +kernel
theorem dX0_crowdIn_41 : decode cX0_crowdIn 41 = .ok (.istore_n 2, 1) := by decide +kernel
theorem dX0_crowdIn_42 : decode cX0_crowdIn 42 = .ok (.iinc 3 1, 3) := by decide +kernel
theorem dX0_crowdIn_45 : decode cX0_crowdIn 45 = .ok (.goto (-41), 3) := by decide +kernel
theorem dX0_crowdIn_48 : decode cX0_crowdIn 48 = .ok (.iload_n 2, 1) := by decide +kernel
theorem dX0_crowdIn_49 : decode cX0_crowdIn 49 = .ok (.ireturn, 1) := by decide +kernel
abbrev cxX0_crowdIn (G : Rg) (X : Ct) : Prop := Cx G X cX0_crowdIn 4 RX0 (some .int) 0 0 (Cond.code yX0_crowdIn cX0_crowdIn 4 (some .int))
def fX0_crowdIn_b4  (c0 : Nat) : Nat → Int32 → Int32 → Int32 → Mm → Option (Int32 × Mm)
  | 0, _, _, _, _ => none
  | n + 1, v1, v2, v3, M =>
    if (12 : Int32) ≤ v3 then
    (some (v2, M))
    else
    (if ((jshr (M.1 c0 0) v3) &&& (1 : Int32)) = (1 : Int32) then
    (gd (inb v3 12) (
    if ((jshr v1 (M.1 (c0 + 2) v3.toNatClampNeg)) &&& (1 : Int32)) = (1 : Int32) then
    (fX0_crowdIn_b4 c0 n v1 (v2 ||| (jshl (1 : Int32) v3)) (v3 + (1 : Int32)) M)
    else
    (fX0_crowdIn_b4 c0 n v1 v2 (v3 + (1 : Int32)) M)))
    else
    (fX0_crowdIn_b4 c0 n v1 v2 (v3 + (1 : Int32)) M))
set_option maxHeartbeats 4000000 in
set_option maxRecDepth 100000 in
theorem vX0_crowdIn_b4 {G : Rg} {X : Ct} {r : Int32} {Mf : Mm} {c0 : Nat}  (C : cxX0_crowdIn G X) (hG : gS G = shX) (hB0 : isB G c0)  : ∀ (n : Nat) (v1 : Int32) (v2 : Int32) (v3 : Int32) (M : Mm), fX0_crowdIn_b4 c0 n v1 v2 v3 M = some (r, Mf) → V G X 4 (some (.int r)) Mf 4 [(0, .ref (gA G c0)), (1, .int v1), (2, .int v2), (3, .int v3)] [] M := by
  intro n
  induction n with
  | zero => intro v1 v2 v3 M hf; rw [fX0_crowdIn_b4] at hf; cases hf
  | succ n ih =>
    intro v1 v2 v3 M hf
    rw [fX0_crowdIn_b4] at hf
    refine V.iload_n (pc := 4) C 3 rfl dX0_crowdIn_4 ?_
    refine V.bipush (pc := 5) C (12 : Int32) (by decide) dX0_crowdIn_5 ?_
    rcases it_some hf with ⟨h1, hf⟩ | ⟨h1, hf⟩
    · refine V.ic_geT (pc := 7) C 48 h1 (by decide) dX0_crowdIn_7 ?_
      refine V.iload_n (pc := 48) C 2 rfl dX0_crowdIn_48 ?_
      exact V.retI (pc := 49) C hf dX0_crowdIn_49
    · refine V.ic_geF (pc := 7) C 48 h1 (by decide) dX0_crowdIn_7 ?_
      refine V.aload_n (pc := 10) C 0 rfl dX0_crowdIn_10 ?_
      refine V.getI (pc := 11) C clX0 inX0 hB0.1 0 (by decide) wF_X0_28 rfl dX0_crowdIn_11 ?_
      refine V.iload_n (pc := 14) C 3 rfl dX0_crowdIn_14 ?_
      refine V.ishr (pc := 15) C dX0_crowdIn_15 ?_
      refine V.iconst (pc := 16) C (1 : Int32) (by decide) dX0_crowdIn_16 ?_
      refine V.iand (pc := 17) C dX0_crowdIn_17 ?_
      refine V.iconst (pc := 18) C (1 : Int32) (by decide) dX0_crowdIn_18 ?_
      rcases it_some hf with ⟨h2, hf⟩ | ⟨h2, hf⟩
      · refine V.ic_neF (pc := 19) C 42 h2 (by decide) dX0_crowdIn_19 ?_
        refine V.iload_n (pc := 22) C 1 rfl dX0_crowdIn_22 ?_
        refine V.aload_n (pc := 23) C 0 rfl dX0_crowdIn_23 ?_
        refine V.getR (pc := 24) C clX0 inX0 hB0.1 5 (by decide) wF_X0_19 rfl dX0_crowdIn_24 ?_
        refine V.iload_n (pc := 27) C 3 rfl dX0_crowdIn_27 ?_
        obtain ⟨g3, hf⟩ := gd_some hf
        refine V.iald (pc := 28) C hB0.2.2.1 (inb_in g3) dX0_crowdIn_28 ?_
        refine V.ishr (pc := 29) C dX0_crowdIn_29 ?_
        refine V.iconst (pc := 30) C (1 : Int32) (by decide) dX0_crowdIn_30 ?_
        refine V.iand (pc := 31) C dX0_crowdIn_31 ?_
        refine V.iconst (pc := 32) C (1 : Int32) (by decide) dX0_crowdIn_32 ?_
        rcases it_some hf with ⟨h4, hf⟩ | ⟨h4, hf⟩
        · refine V.ic_neF (pc := 33) C 42 h4 (by decide) dX0_crowdIn_33 ?_
          refine V.iload_n (pc := 36) C 2 rfl dX0_crowdIn_36 ?_
          refine V.iconst (pc := 37) C (1 : Int32) (by decide) dX0_crowdIn_37 ?_
          refine V.iload_n (pc := 38) C 3 rfl dX0_crowdIn_38 ?_
          refine V.ishl (pc := 39) C dX0_crowdIn_39 ?_
          refine V.ior (pc := 40) C dX0_crowdIn_40 ?_
          refine V.istore_n (pc := 41) (lv' := [(2, .int (v2 ||| (jshl (1 : Int32) v3))), (0, .ref (gA G c0)), (1, .int v1), (3, .int v3)]) C (by decide) rfl dX0_crowdIn_41 ?_
          refine V.iinc (pc := 42) (lv' := [(3, .int (v3 + (1 : Int32))), (2, .int (v2 ||| (jshl (1 : Int32) v3))), (0, .ref (gA G c0)), (1, .int v1)]) C (v3 + (1 : Int32)) 3 rfl rfl (by decide) rfl dX0_crowdIn_42 ?_
          refine V.goto (pc := 45) C 4 (by decide) dX0_crowdIn_45 ?_
          refine V.sub C [2, 3, 1, 0] (lv' := [(0, .ref (gA G c0)), (1, .int v1), (2, .int (v2 ||| (jshl (1 : Int32) v3))), (3, .int (v3 + (1 : Int32)))]) rfl ?_
          exact ih _ _ _ _ hf
        · refine V.ic_neT (pc := 33) C 42 h4 (by decide) dX0_crowdIn_33 ?_
          refine V.iinc (pc := 42) (lv' := [(3, .int (v3 + (1 : Int32))), (0, .ref (gA G c0)), (1, .int v1), (2, .int v2)]) C (v3 + (1 : Int32)) 3 rfl rfl (by decide) rfl dX0_crowdIn_42 ?_
          refine V.goto (pc := 45) C 4 (by decide) dX0_crowdIn_45 ?_
          refine V.sub C [1, 2, 3, 0] (lv' := [(0, .ref (gA G c0)), (1, .int v1), (2, .int v2), (3, .int (v3 + (1 : Int32)))]) rfl ?_
          exact ih _ _ _ _ hf
      · refine V.ic_neT (pc := 19) C 42 h2 (by decide) dX0_crowdIn_19 ?_
        refine V.iinc (pc := 42) (lv' := [(3, .int (v3 + (1 : Int32))), (0, .ref (gA G c0)), (1, .int v1), (2, .int v2)]) C (v3 + (1 : Int32)) 3 rfl rfl (by decide) rfl dX0_crowdIn_42 ?_
        refine V.goto (pc := 45) C 4 (by decide) dX0_crowdIn_45 ?_
        refine V.sub C [1, 2, 3, 0] (lv' := [(0, .ref (gA G c0)), (1, .int v1), (2, .int v2), (3, .int (v3 + (1 : Int32)))]) rfl ?_
        exact ih _ _ _ _ hf
def fX0_crowdIn (c0 : Nat) (x1 : Int32) (M : Mm) : Option (Int32 × Mm) :=
fX0_crowdIn_b4 c0 fu x1 (0 : Int32) (0 : Int32) M
set_option maxHeartbeats 4000000 in
set_option maxRecDepth 100000 in
theorem mX0_crowdIn (l : Launch) {G : Rg} (hG : gS G = shX) {c0 : Nat} {x1 : Int32} (hB0 : isB G c0) {M Mf : Mm} {r : Int32} (hf : fX0_crowdIn c0 x1 M = some (r, Mf)) : Mt l G yX0_crowdIn cX0_crowdIn 4 (some .int) 0 0 [.ref (gA G c0), .int x1] M (some (.int r)) Mf := by
  refine Mt.of (by decide) (Nat.le_of_ble_eq_true rfl) ?_
  intro X C hX
  subst hX
  have C : cxX0_crowdIn G X := C
  show V G X 4 (some (.int r)) Mf 0 [(0, .ref (gA G c0)), (1, .int x1)] [] M
  rw [fX0_crowdIn] at hf
  refine V.iconst (pc := 0) C (0 : Int32) (by decide) dX0_crowdIn_0 ?_
  refine V.istore_n (pc := 1) (lv' := [(2, .int (0 : Int32)), (0, .ref (gA G c0)), (1, .int x1)]) C (by decide) rfl dX0_crowdIn_1 ?_
  refine V.iconst (pc := 2) C (0 : Int32) (by decide) dX0_crowdIn_2 ?_
  refine V.istore_n (pc := 3) (lv' := [(3, .int (0 : Int32)), (2, .int (0 : Int32)), (0, .ref (gA G c0)), (1, .int x1)]) C (by decide) rfl dX0_crowdIn_3 ?_
  refine V.sub C [2, 3, 1, 0] (lv' := [(0, .ref (gA G c0)), (1, .int x1), (2, .int (0 : Int32)), (3, .int (0 : Int32))]) rfl ?_
  exact vX0_crowdIn_b4 C hG hB0  fu _ _ _ _ hf
theorem dX0_worth_0 : decode cX0_worth 0 = .ok (.aload_n 0, 1) := by decide +kernel
theorem dX0_worth_1 : decode cX0_worth 1 = .ok (.getfield 22, 3) := by decide +kernel
theorem dX0_worth_4 : decode cX0_worth 4 = .ok (.aload_n 0, 1) := by decide +kernel
theorem dX0_worth_5 : decode cX0_worth 5 = .ok (.getfield 15, 3) := by decide +kernel
theorem dX0_worth_8 : decode cX0_worth 8 = .ok (.iload_n 1, 1) := by decide +kernel
theorem dX0_worth_9 : decode cX0_worth 9 = .ok (.iaload, 1) := by decide +kernel
theorem dX0_worth_10 : decode cX0_worth 10 = .ok (.iaload, 1) := by decide +kernel
theorem dX0_worth_11 : decode cX0_worth 11 = .ok (.ireturn, 1) := by decide +kernel
abbrev cxX0_worth (G : Rg) (X : Ct) : Prop := Cx G X cX0_worth 2 RX0 (some .int) 0 0 (Cond.code yX0_worth cX0_worth 2 (some .int))
def fX0_worth (c0 : Nat) (x1 : Int32) (M : Mm) : Option (Int32 × Mm) :=
gd (inb x1 12) (
gd (inb (M.1 (c0 + 1) x1.toNatClampNeg) 6) (
some ((M.1 (c0 + 3) (M.1 (c0 + 1) x1.toNatClampNeg).toNatClampNeg), M)))
set_option maxHeartbeats 4000000 in
set_option maxRecDepth 100000 in
theorem mX0_worth (l : Launch) {G : Rg} (hG : gS G = shX) {c0 : Nat} {x1 : Int32} (hB0 : isB G c0) {M Mf : Mm} {r : Int32} (hf : fX0_worth c0 x1 M = some (r, Mf)) : Mt l G yX0_worth cX0_worth 2 (some .int) 0 0 [.ref (gA G c0), .int x1] M (some (.int r)) Mf := by
  refine Mt.of (by decide) (Nat.le_of_ble_eq_true rfl) ?_
  intro X C hX
  subst hX
  have C : cxX0_worth G X := C
  show V G X 2 (some (.int r)) Mf 0 [(0, .ref (gA G c0)), (1, .int x1)] [] M
  rw [fX0_worth] at hf
  refine V.aload_n (pc := 0) C 0 rfl dX0_worth_0 ?_
  refine V.getR (pc := 1) C clX0 inX0 hB0.1 6 (by decide) wF_X0_22 rfl dX0_worth_1 ?_
  refine V.aload_n (pc := 4) C 0 rfl dX0_worth_4 ?_
  refine V.getR (pc := 5) C clX0 inX0 hB0.1 4 (by decide) wF_X0_15 rfl dX0_worth_5 ?_
  refine V.iload_n (pc := 8) C 1 rfl dX0_worth_8 ?_
  obtain ⟨g1, hf⟩ := gd_some hf
  refine V.iald (pc := 9) C hB0.2.1 (inb_in g1) dX0_worth_9 ?_
  obtain ⟨g2, hf⟩ := gd_some hf
  refine V.iald (pc := 10) C hB0.2.2.2.1 (inb_in g2) dX0_worth_10 ?_
  exact V.retI (pc := 11) C hf dX0_worth_11
theorem dX0_lead_0 : decode cX0_lead 0 = .ok (.iconst 0, 1) := by decide +kernel
theorem dX0_lead_1 : decode cX0_lead 1 = .ok (.istore_n 2, 1) := by decide +kernel
theorem dX0_lead_2 : decode cX0_lead 2 = .ok (.iconst 0, 1) := by decide +kernel
theorem dX0_lead_3 : decode cX0_lead 3 = .ok (.istore_n 3, 1) := by decide +kernel
theorem dX0_lead_4 : decode cX0_lead 4 = .ok (.iload_n 3, 1) := by decide +kernel
theorem dX0_lead_5 : decode cX0_lead 5 = .ok (.bipush 12, 2) := by decide +kernel
theorem dX0_lead_7 : decode cX0_lead 7 = .ok (.if_icmp .ge 45, 3) := by decide +kernel
theorem dX0_lead_10 : decode cX0_lead 10 = .ok (.iload_n 1, 1) := by decide +kernel
theorem dX0_lead_11 : decode cX0_lead 11 = .ok (.aload_n 0, 1) := by decide +kernel
theorem dX0_lead_12 : decode cX0_lead 12 = .ok (.getfield 28, 3) := by decide +kernel
theorem dX0_lead_15 : decode cX0_lead 15 = .ok (.iand, 1) := by decide +kernel
theorem dX0_lead_16 : decode cX0_lead 16 = .ok (.iconst 1, 1) := by decide +kernel
theorem dX0_lead_17 : decode cX0_lead 17 = .ok (.iload_n 3, 1) := by decide +kernel
theorem dX0_lead_18 : decode cX0_lead 18 = .ok (.ishl, 1) := by decide +kernel
theorem dX0_lead_19 : decode cX0_lead 19 = .ok (.iand, 1) := by decide +kernel
theorem dX0_lead_20 : decode cX0_lead 20 = .ok (.ifCond .eq 26, 3) := by decide +kernel
theorem dX0_lead_23 : decode cX0_lead 23 = .ok (.iload_n 2, 1) := by decide +kernel
theorem dX0_lead_24 : decode cX0_lead 24 = .ok (.iload_n 3, 1) := by decide +kernel
theorem dX0_lead_25 : decode cX0_lead 25 = .ok (.bipush 6, 2) := by decide +kernel
theorem dX0_lead_27 : decode cX0_lead 27 = .ok (.if_icmp .ge 11, 3) := by decide +kernel
theorem dX0_lead_30 : decode cX0_lead 30 = .ok (.aload_n 0, 1) := by decide +kernel
theorem dX0_lead_31 : decode cX0_lead 31 = .ok (.iload_n 3, 1) := by decide +kernel
theorem dX0_lead_32 : decode cX0_lead 32 = .ok (.invokevirtual 47, 3) := by decide +kernel
theorem dX0_lead_35 : decode cX0_lead 35 = .ok (.goto 9, 3) := by decide +kernel
theorem dX0_lead_38 : decode cX0_lead 38 = .ok (.aload_n 0, 1) := by decide +kernel
theorem dX0_lead_39 : decode cX0_lead 39 = .ok (.iload_n 3, 1) := by decide +kernel
theorem dX0_lead_40 : decode cX0_lead 40 = .ok (.invokevirtual 47, 3) := by decide +kernel
theorem dX0_lead_43 : decode cX0_lead 43 = .ok (.ineg, 1) := by decide +kernel
theorem dX0_lead_44 : decode cX0_lead 44 = .ok (.iadd, 1) := by decide +kernel
theorem dX0_lead_45 : decode cX0_lead 45 = .ok (.istore_n 2, 1) := by decide +kernel
theorem dX0_lead_46 : decode cX0_lead 46 = .ok (.iinc 3 1, 3) := by decide +kernel
theorem dX0_lead_49 : decode cX0_lead 49 = .ok (.goto (-45), 3) := by decide +kernel
theorem dX0_lead_52 : decode cX0_lead 52 = .ok (.iload_n 2, 1) := by decide +kernel
theorem dX0_lead_53 : decode cX0_lead 53 = .ok (.ireturn, 1) := by decide +kernel
abbrev cxX0_lead (G : Rg) (X : Ct) : Prop := Cx G X cX0_lead 4 RX0 (some .int) 1 21 (Cond.code yX0_lead cX0_lead 4 (some .int))
def fX0_lead_b4  (c0 : Nat) : Nat → Int32 → Int32 → Int32 → Mm → Option (Int32 × Mm)
  | 0, _, _, _, _ => none
  | n + 1, v1, v2, v3, M =>
    if (12 : Int32) ≤ v3 then
    (some (v2, M))
    else
    (if ((v1 &&& (M.1 c0 0)) &&& (jshl (1 : Int32) v3)) = 0 then
    (fX0_lead_b4 c0 n v1 v2 (v3 + (1 : Int32)) M)
    else
    (if (6 : Int32) ≤ v3 then
    (bd (fX0_worth c0 v3 M) fun r4 M4 =>
    fX0_lead_b4 c0 n v1 (v2 + (-r4)) (v3 + (1 : Int32)) M4)
    else
    (bd (fX0_worth c0 v3 M) fun r5 M5 =>
    fX0_lead_b4 c0 n v1 (v2 + r5) (v3 + (1 : Int32)) M5)))
set_option maxHeartbeats 4000000 in
set_option maxRecDepth 100000 in
theorem vX0_lead_b4 {G : Rg} {X : Ct} {r : Int32} {Mf : Mm} {c0 : Nat}  (C : cxX0_lead G X) (hG : gS G = shX) (hB0 : isB G c0)  : ∀ (n : Nat) (v1 : Int32) (v2 : Int32) (v3 : Int32) (M : Mm), fX0_lead_b4 c0 n v1 v2 v3 M = some (r, Mf) → V G X 4 (some (.int r)) Mf 4 [(0, .ref (gA G c0)), (1, .int v1), (2, .int v2), (3, .int v3)] [] M := by
  intro n
  induction n with
  | zero => intro v1 v2 v3 M hf; rw [fX0_lead_b4] at hf; cases hf
  | succ n ih =>
    intro v1 v2 v3 M hf
    rw [fX0_lead_b4] at hf
    refine V.iload_n (pc := 4) C 3 rfl dX0_lead_4 ?_
    refine V.bipush (pc := 5) C (12 : Int32) (by decide) dX0_lead_5 ?_
    rcases it_some hf with ⟨h1, hf⟩ | ⟨h1, hf⟩
    · refine V.ic_geT (pc := 7) C 52 h1 (by decide) dX0_lead_7 ?_
      refine V.iload_n (pc := 52) C 2 rfl dX0_lead_52 ?_
      exact V.retI (pc := 53) C hf dX0_lead_53
    · refine V.ic_geF (pc := 7) C 52 h1 (by decide) dX0_lead_7 ?_
      refine V.iload_n (pc := 10) C 1 rfl dX0_lead_10 ?_
      refine V.aload_n (pc := 11) C 0 rfl dX0_lead_11 ?_
      refine V.getI (pc := 12) C clX0 inX0 hB0.1 0 (by decide) wF_X0_28 rfl dX0_lead_12 ?_
      refine V.iand (pc := 15) C dX0_lead_15 ?_
      refine V.iconst (pc := 16) C (1 : Int32) (by decide) dX0_lead_16 ?_
      refine V.iload_n (pc := 17) C 3 rfl dX0_lead_17 ?_
      refine V.ishl (pc := 18) C dX0_lead_18 ?_
      refine V.iand (pc := 19) C dX0_lead_19 ?_
      rcases it_some hf with ⟨h2, hf⟩ | ⟨h2, hf⟩
      · refine V.if_eqT (pc := 20) C 46 h2 (by decide) dX0_lead_20 ?_
        refine V.iinc (pc := 46) (lv' := [(3, .int (v3 + (1 : Int32))), (0, .ref (gA G c0)), (1, .int v1), (2, .int v2)]) C (v3 + (1 : Int32)) 3 rfl rfl (by decide) rfl dX0_lead_46 ?_
        refine V.goto (pc := 49) C 4 (by decide) dX0_lead_49 ?_
        refine V.sub C [1, 2, 3, 0] (lv' := [(0, .ref (gA G c0)), (1, .int v1), (2, .int v2), (3, .int (v3 + (1 : Int32)))]) rfl ?_
        exact ih _ _ _ _ hf
      · refine V.if_eqF (pc := 20) C 46 h2 (by decide) dX0_lead_20 ?_
        refine V.iload_n (pc := 23) C 2 rfl dX0_lead_23 ?_
        refine V.iload_n (pc := 24) C 3 rfl dX0_lead_24 ?_
        refine V.bipush (pc := 25) C (6 : Int32) (by decide) dX0_lead_25 ?_
        rcases it_some hf with ⟨h3, hf⟩ | ⟨h3, hf⟩
        · refine V.ic_geT (pc := 27) C 38 h3 (by decide) dX0_lead_27 ?_
          refine V.aload_n (pc := 38) C 0 rfl dX0_lead_38 ?_
          refine V.iload_n (pc := 39) C 3 rfl dX0_lead_39 ?_
          obtain ⟨r4, M4, h4, hf⟩ := bd_some hf
          refine V.callVi (pc := 40) (As := [.int v3]) (rest := [.int v2]) C (mX0_worth X.2.1 hG hB0 h4) mf_X0_worth clX0 hB0.1 wM_X0_47 rfl rfl ⟨by decide, by decide⟩ (Nat.le_of_ble_eq_true rfl) dX0_lead_40 ?_
          refine V.ineg (pc := 43) C dX0_lead_43 ?_
          refine V.iadd (pc := 44) C dX0_lead_44 ?_
          refine V.istore_n (pc := 45) (lv' := [(2, .int (v2 + (-r4))), (0, .ref (gA G c0)), (1, .int v1), (3, .int v3)]) C (by decide) rfl dX0_lead_45 ?_
          refine V.iinc (pc := 46) (lv' := [(3, .int (v3 + (1 : Int32))), (2, .int (v2 + (-r4))), (0, .ref (gA G c0)), (1, .int v1)]) C (v3 + (1 : Int32)) 3 rfl rfl (by decide) rfl dX0_lead_46 ?_
          refine V.goto (pc := 49) C 4 (by decide) dX0_lead_49 ?_
          refine V.sub C [2, 3, 1, 0] (lv' := [(0, .ref (gA G c0)), (1, .int v1), (2, .int (v2 + (-r4))), (3, .int (v3 + (1 : Int32)))]) rfl ?_
          exact ih _ _ _ _ hf
        · refine V.ic_geF (pc := 27) C 38 h3 (by decide) dX0_lead_27 ?_
          refine V.aload_n (pc := 30) C 0 rfl dX0_lead_30 ?_
          refine V.iload_n (pc := 31) C 3 rfl dX0_lead_31 ?_
          obtain ⟨r5, M5, h5, hf⟩ := bd_some hf
          refine V.callVi (pc := 32) (As := [.int v3]) (rest := [.int v2]) C (mX0_worth X.2.1 hG hB0 h5) mf_X0_worth clX0 hB0.1 wM_X0_47 rfl rfl ⟨by decide, by decide⟩ (Nat.le_of_ble_eq_true rfl) dX0_lead_32 ?_
          refine V.goto (pc := 35) C 44 (by decide) dX0_lead_35 ?_
          refine V.iadd (pc := 44) C dX0_lead_44 ?_
          refine V.istore_n (pc := 45) (lv' := [(2, .int (v2 + r5)), (0, .ref (gA G c0)), (1, .int v1), (3, .int v3)]) C (by decide) rfl dX0_lead_45 ?_
          refine V.iinc (pc := 46) (lv' := [(3, .int (v3 + (1 : Int32))), (2, .int (v2 + r5)), (0, .ref (gA G c0)), (1, .int v1)]) C (v3 + (1 : Int32)) 3 rfl rfl (by decide) rfl dX0_lead_46 ?_
          refine V.goto (pc := 49) C 4 (by decide) dX0_lead_49 ?_
          refine V.sub C [2, 3, 1, 0] (lv' := [(0, .ref (gA G c0)), (1, .int v1), (2, .int (v2 + r5)), (3, .int (v3 + (1 : Int32)))]) rfl ?_
          exact ih _ _ _ _ hf
def fX0_lead (c0 : Nat) (x1 : Int32) (M : Mm) : Option (Int32 × Mm) :=
fX0_lead_b4 c0 fu x1 (0 : Int32) (0 : Int32) M
set_option maxHeartbeats 4000000 in
set_option maxRecDepth 100000 in
theorem mX0_lead (l : Launch) {G : Rg} (hG : gS G = shX) {c0 : Nat} {x1 : Int32} (hB0 : isB G c0) {M Mf : Mm} {r : Int32} (hf : fX0_lead c0 x1 M = some (r, Mf)) : Mt l G yX0_lead cX0_lead 4 (some .int) 1 21 [.ref (gA G c0), .int x1] M (some (.int r)) Mf := by
  refine Mt.of (by decide) (Nat.le_of_ble_eq_true rfl) ?_
  intro X C hX
  subst hX
  have C : cxX0_lead G X := C
  show V G X 4 (some (.int r)) Mf 0 [(0, .ref (gA G c0)), (1, .int x1)] [] M
  rw [fX0_lead] at hf
  refine V.iconst (pc := 0) C (0 : Int32) (by decide) dX0_lead_0 ?_
  refine V.istore_n (pc := 1) (lv' := [(2, .int (0 : Int32)), (0, .ref (gA G c0)), (1, .int x1)]) C (by decide) rfl dX0_lead_1 ?_
  refine V.iconst (pc := 2) C (0 : Int32) (by decide) dX0_lead_2 ?_
  refine V.istore_n (pc := 3) (lv' := [(3, .int (0 : Int32)), (2, .int (0 : Int32)), (0, .ref (gA G c0)), (1, .int x1)]) C (by decide) rfl dX0_lead_3 ?_
  refine V.sub C [2, 3, 1, 0] (lv' := [(0, .ref (gA G c0)), (1, .int x1), (2, .int (0 : Int32)), (3, .int (0 : Int32))]) rfl ?_
  exact vX0_lead_b4 C hG hB0  fu _ _ _ _ hf
theorem dX0_whyNoExchange_0 : decode cX0_whyNoExchange 0 = .ok (.iload_n 1, 1) := by decide +kernel
theorem dX0_whyNoExchange_1 : decode cX0_whyNoExchange 1 = .ok (.aload_n 0, 1) := by decide +kernel
theorem dX0_whyNoExchange_2 : decode cX0_whyNoExchange 2 = .ok (.getfield 28, 3) := by decide +kernel
theorem dX0_whyNoExchange_5 : decode cX0_whyNoExchange 5 = .ok (.iconst (-1), 1) := by decide +kernel
theorem dX0_whyNoExchange_6 : decode cX0_whyNoExchange 6 = .ok (.ixor, 1) := by decide +kernel
theorem dX0_whyNoExchange_7 : decode cX0_whyNoExchange 7 = .ok (.iand, 1) := by decide +kernel
theorem dX0_whyNoExchange_8 : decode cX0_whyNoExchange 8 = .ok (.ifCond .eq 5, 3) := by decide +kernel
theorem dX0_whyNoExchange_11 : decode cX0_whyNoExchange 11 = .ok (.iconst 1, 1) := by decide +kernel
theorem dX0_whyNoExchange_12 : decode cX0_whyNoExchange 12 = .ok (.ireturn, 1) := by decide +kernel
theorem dX0_whyNoExchange_13 : decode cX0_whyNoExchange 13 = .ok (.iload_n 2, 1) := by decide +kernel
theorem dX0_whyNoExchange_14 : decode cX0_whyNoExchange 14 = .ok (.ifCond .eq 5, 3) := by decide +kernel
theorem dX0_whyNoExchange_17 : decode cX0_whyNoExchange 17 = .ok (.iconst 2, 1) := by decide +kernel
theorem dX0_whyNoExchange_18 : decode cX0_whyNoExchange 18 = .ok (.ireturn, 1) := by decide +kernel
theorem dX0_whyNoExchange_19 : decode cX0_whyNoExchange 19 = .ok (.iload_n 1, 1) := by decide +kernel
theorem dX0_whyNoExchange_20 : decode cX0_whyNoExchange 20 = .ok (.aload_n 0, 1) := by decide +kernel
theorem dX0_whyNoExchange_21 : decode cX0_whyNoExchange 21 = .ok (.bipush 7, 2) := by decide +kernel
theorem dX0_whyNoExchange_23 : decode cX0_whyNoExchange 23 = .ok (.invokevirtual 43, 3) := by decide +kernel
theorem dX0_whyNoExchange_26 : decode cX0_whyNoExchange 26 = .ok (.iconst (-1), 1) := by decide +kernel
theorem dX0_whyNoExchange_27 : decode cX0_whyNoExchange 27 = .ok (.ixor, 1) := by decide +kernel
theorem dX0_whyNoExchange_28 : decode cX0_whyNoExchange 28 = .ok (.iand, 1) := by decide +kernel
theorem dX0_whyNoExchange_29 : decode cX0_whyNoExchange 29 = .ok (.ifCond .eq 5, 3) := by decide +kernel
theorem dX0_whyNoExchange_32 : decode cX0_whyNoExchange 32 = .ok (.iconst 3, 1) := by decide +kernel
theorem dX0_whyNoExchange_33 : decode cX0_whyNoExchange 33 = .ok (.ireturn, 1) := by decide +kernel
theorem dX0_whyNoExchange_34 : decode cX0_whyNoExchange 34 = .ok (.aload_n 0, 1) := by decide +kernel
theorem dX0_whyNoExchange_35 : decode cX0_whyNoExchange 35 = .ok (.getfield 9, 3) := by decide +kernel
theorem dX0_whyNoExchange_38 : decode cX0_whyNoExchange 38 = .ok (.ifCond .ne 5, 3) := by decide +kernel
theorem dX0_whyNoExchange_41 : decode cX0_whyNoExchange 41 = .ok (.iconst 5, 1) := by decide +kernel
theorem dX0_whyNoExchange_42 : decode cX0_whyNoExchange 42 = .ok (.ireturn, 1) := by decide +kernel
theorem dX0_whyNoExchange_43 : decode cX0_whyNoExchange 43 = .ok (.aload_n 0, 1) := by decide +kernel
theorem dX0_whyNoExchange_44 : decode cX0_whyNoExchange 44 = .ok (.iload_n 1, 1) := by decide +kernel
theorem dX0_whyNoExchange_45 : decode cX0_whyNoExchange 45 = .ok (.invokevirtual 57, 3) := by decide +kernel
theorem dX0_whyNoExchange_48 : decode cX0_whyNoExchange 48 = .ok (.ifCond .ne 7, 3) := by decide +kernel
theorem dX0_whyNoExchange_51 : decode cX0_whyNoExchange 51 = .ok (.iconst 0, 1) := by decide +kernel
theorem dX0_whyNoExchange_52 : decode cX0_whyNoExchange 52 = .ok (.goto 5, 3) := by decide +kernel
theorem dX0_whyNoExchange_55 : decode cX0_whyNoExchange 55 = .ok (.bipush 6, 2) := by decide +kernel
theorem dX0_whyNoExchange_57 : decode cX0_whyNoExchange 57 = .ok (.ireturn, 1) := by decide +kernel
abbrev cxX0_whyNoExchange (G : Rg) (X : Ct) : Prop := Cx G X cX0_whyNoExchange 3 RX0 (some .int) 2 44 (Cond.code yX0_whyNoExchange cX0_whyNoExchange 3 (some .int))
def fX0_whyNoExchange (c0 : Nat) (x1 : Int32) (x2 : Int32) (M : Mm) : Option (Int32 × Mm) :=
if (x1 &&& ((M.1 c0 0) ^^^ (-1 : Int32))) = 0 then
(if x2 = 0 then
(bd (fX0_crowdIn c0 (7 : Int32) M) fun r3 M3 =>
if (x1 &&& (r3 ^^^ (-1 : Int32))) = 0 then
(if (M3.1 c0 1) = 0 then
(some ((5 : Int32), M3))
else
(bd (fX0_lead c0 x1 M3) fun r6 M6 =>
if r6 = 0 then
(some ((0 : Int32), M6))
else
(some ((6 : Int32), M6))))
else
(some ((3 : Int32), M3)))
else
(some ((2 : Int32), M)))
else
(some ((1 : Int32), M))
set_option maxHeartbeats 4000000 in
set_option maxRecDepth 100000 in
theorem mX0_whyNoExchange (l : Launch) {G : Rg} (hG : gS G = shX) {c0 : Nat} {x1 : Int32} {x2 : Int32} (hB0 : isB G c0) {M Mf : Mm} {r : Int32} (hf : fX0_whyNoExchange c0 x1 x2 M = some (r, Mf)) : Mt l G yX0_whyNoExchange cX0_whyNoExchange 3 (some .int) 2 44 [.ref (gA G c0), .int x1, .int x2] M (some (.int r)) Mf := by
  refine Mt.of (by decide) (Nat.le_of_ble_eq_true rfl) ?_
  intro X C hX
  subst hX
  have C : cxX0_whyNoExchange G X := C
  show V G X 3 (some (.int r)) Mf 0 [(0, .ref (gA G c0)), (1, .int x1), (2, .int x2)] [] M
  rw [fX0_whyNoExchange] at hf
  refine V.iload_n (pc := 0) C 1 rfl dX0_whyNoExchange_0 ?_
  refine V.aload_n (pc := 1) C 0 rfl dX0_whyNoExchange_1 ?_
  refine V.getI (pc := 2) C clX0 inX0 hB0.1 0 (by decide) wF_X0_28 rfl dX0_whyNoExchange_2 ?_
  refine V.iconst (pc := 5) C (-1 : Int32) (by decide) dX0_whyNoExchange_5 ?_
  refine V.ixor (pc := 6) C dX0_whyNoExchange_6 ?_
  refine V.iand (pc := 7) C dX0_whyNoExchange_7 ?_
  rcases it_some hf with ⟨h1, hf⟩ | ⟨h1, hf⟩
  · refine V.if_eqT (pc := 8) C 13 h1 (by decide) dX0_whyNoExchange_8 ?_
    refine V.iload_n (pc := 13) C 2 rfl dX0_whyNoExchange_13 ?_
    rcases it_some hf with ⟨h2, hf⟩ | ⟨h2, hf⟩
    · refine V.if_eqT (pc := 14) C 19 h2 (by decide) dX0_whyNoExchange_14 ?_
      refine V.iload_n (pc := 19) C 1 rfl dX0_whyNoExchange_19 ?_
      refine V.aload_n (pc := 20) C 0 rfl dX0_whyNoExchange_20 ?_
      refine V.bipush (pc := 21) C (7 : Int32) (by decide) dX0_whyNoExchange_21 ?_
      obtain ⟨r3, M3, h3, hf⟩ := bd_some hf
      refine V.callVi (pc := 23) (As := [.int (7 : Int32)]) (rest := [.int x1]) C (mX0_crowdIn X.2.1 hG hB0 h3) mf_X0_crowdIn clX0 hB0.1 wM_X0_43 rfl rfl ⟨by decide, by decide⟩ (Nat.le_of_ble_eq_true rfl) dX0_whyNoExchange_23 ?_
      refine V.iconst (pc := 26) C (-1 : Int32) (by decide) dX0_whyNoExchange_26 ?_
      refine V.ixor (pc := 27) C dX0_whyNoExchange_27 ?_
      refine V.iand (pc := 28) C dX0_whyNoExchange_28 ?_
      rcases it_some hf with ⟨h4, hf⟩ | ⟨h4, hf⟩
      · refine V.if_eqT (pc := 29) C 34 h4 (by decide) dX0_whyNoExchange_29 ?_
        refine V.aload_n (pc := 34) C 0 rfl dX0_whyNoExchange_34 ?_
        refine V.getI (pc := 35) C clX0 inX0 hB0.1 1 (by decide) wF_X0_9 rfl dX0_whyNoExchange_35 ?_
        rcases it_some hf with ⟨h5, hf⟩ | ⟨h5, hf⟩
        · refine V.if_neF (pc := 38) C 43 h5 (by decide) dX0_whyNoExchange_38 ?_
          refine V.iconst (pc := 41) C (5 : Int32) (by decide) dX0_whyNoExchange_41 ?_
          exact V.retI (pc := 42) C hf dX0_whyNoExchange_42
        · refine V.if_neT (pc := 38) C 43 h5 (by decide) dX0_whyNoExchange_38 ?_
          refine V.aload_n (pc := 43) C 0 rfl dX0_whyNoExchange_43 ?_
          refine V.iload_n (pc := 44) C 1 rfl dX0_whyNoExchange_44 ?_
          obtain ⟨r6, M6, h6, hf⟩ := bd_some hf
          refine V.callVi (pc := 45) (As := [.int x1]) (rest := []) C (mX0_lead X.2.1 hG hB0 h6) mf_X0_lead clX0 hB0.1 wM_X0_57 rfl rfl ⟨by decide, by decide⟩ (Nat.le_of_ble_eq_true rfl) dX0_whyNoExchange_45 ?_
          rcases it_some hf with ⟨h7, hf⟩ | ⟨h7, hf⟩
          · refine V.if_neF (pc := 48) C 55 h7 (by decide) dX0_whyNoExchange_48 ?_
            refine V.iconst (pc := 51) C (0 : Int32) (by decide) dX0_whyNoExchange_51 ?_
            refine V.goto (pc := 52) C 57 (by decide) dX0_whyNoExchange_52 ?_
            exact V.retI (pc := 57) C hf dX0_whyNoExchange_57
          · refine V.if_neT (pc := 48) C 55 h7 (by decide) dX0_whyNoExchange_48 ?_
            refine V.bipush (pc := 55) C (6 : Int32) (by decide) dX0_whyNoExchange_55 ?_
            exact V.retI (pc := 57) C hf dX0_whyNoExchange_57
      · refine V.if_eqF (pc := 29) C 34 h4 (by decide) dX0_whyNoExchange_29 ?_
        refine V.iconst (pc := 32) C (3 : Int32) (by decide) dX0_whyNoExchange_32 ?_
        exact V.retI (pc := 33) C hf dX0_whyNoExchange_33
    · refine V.if_eqF (pc := 14) C 19 h2 (by decide) dX0_whyNoExchange_14 ?_
      refine V.iconst (pc := 17) C (2 : Int32) (by decide) dX0_whyNoExchange_17 ?_
      exact V.retI (pc := 18) C hf dX0_whyNoExchange_18
  · refine V.if_eqF (pc := 8) C 13 h1 (by decide) dX0_whyNoExchange_8 ?_
    refine V.iconst (pc := 11) C (1 : Int32) (by decide) dX0_whyNoExchange_11 ?_
    exact V.retI (pc := 12) C hf dX0_whyNoExchange_12
theorem dX0_setFree_0 : decode cX0_setFree 0 = .ok (.iconst 0, 1) := by decide +kernel
theorem dX0_setFree_1 : decode cX0_setFree 1 = .ok (.istore_n 2, 1) := by decide +kernel
theorem dX0_setFree_2 : decode cX0_setFree 2 = .ok (.iload_n 2, 1) := by decide +kernel
theorem dX0_setFree_3 : decode cX0_setFree 3 = .ok (.bipush 12, 2) := by decide +kernel
theorem dX0_setFree_5 : decode cX0_setFree 5 = .ok (.if_icmp .ge 24, 3) := by decide +kernel
theorem dX0_setFree_8 : decode cX0_setFree 8 = .ok (.iload_n 1, 1) := by decide +kernel
theorem dX0_setFree_9 : decode cX0_setFree 9 = .ok (.iconst 1, 1) := by decide +kernel
theorem dX0_setFree_10 : decode cX0_setFree 10 = .ok (.iload_n 2, 1) := by decide +kernel
theorem dX0_setFree_11 : decode cX0_setFree 11 = .ok (.ishl, 1) := by decide +kernel
theorem dX0_setFree_12 : decode cX0_setFree 12 = .ok (.iand, 1) := by decide +kernel
theorem dX0_setFree_13 : decode cX0_setFree 13 = .ok (.ifCond .eq 10, 3) := by decide +kernel
theorem dX0_setFree_16 : decode cX0_setFree 16 = .ok (.aload_n 0, 1) := by decide +kernel
theorem dX0_setFree_17 : decode cX0_setFree 17 = .ok (.getfield 19, 3) := by decide +kernel
theorem dX0_setFree_20 : decode cX0_setFree 20 = .ok (.iload_n 2, 1) := by decide +kernel
theorem dX0_setFree_21 : decode cX0_setFree 21 = .ok (.iconst 3, 1) := by decide +kernel
theorem dX0_setFree_22 : decode cX0_setFree 22 = .ok (.iastore, 1) := by decide +kernel
theorem dX0_setFree_23 : decode cX0_setFree 23 = .ok (.iinc 2 1, 3) := by decide +kernel
theorem dX0_setFree_26 : decode cX0_setFree 26 = .ok (.goto (-24), 3) := by decide +kernel
theorem dX0_setFree_29 : decode cX0_setFree 29 = .ok (.aload_n 0, 1) := by decide +kernel
theorem dX0_setFree_30 : decode cX0_setFree 30 = .ok (.bipush 9, 2) := by decide +kernel
theorem dX0_setFree_32 : decode cX0_setFree 32 = .ok (.aload_n 0, 1) := by decide +kernel
theorem dX0_setFree_33 : decode cX0_setFree 33 = .ok (.getfield 9, 3) := by decide +kernel
theorem dX0_setFree_36 : decode cX0_setFree 36 = .ok (.iconst 1, 1) := by decide +kernel
theorem dX0_setFree_37 : decode cX0_setFree 37 = .ok (.iadd, 1) := by decide +kernel
theorem dX0_setFree_38 : decode cX0_setFree 38 = .ok (.invokestatic 66, 3) := by decide +kernel
theorem dX0_setFree_41 : decode cX0_setFree 41 = .ok (.putfield 9, 3) := by decide +kernel
theorem dX0_setFree_44 : decode cX0_setFree 44 = .ok (.return_, 1) := by decide +kernel
abbrev cxX0_setFree (G : Rg) (X : Ct) : Prop := Cx G X cX0_setFree 3 RX0 (none) 1 40 (Cond.code yX0_setFree cX0_setFree 3 (none))
def fX0_setFree_b29  (c0 : Nat) (M : Mm) : Option (Unit × Mm) :=
some ((), (sI M c0 1 (jmin (9 : Int32) ((M.1 c0 1) + (1 : Int32)))))
set_option maxHeartbeats 4000000 in
set_option maxRecDepth 100000 in
theorem vX0_setFree_b29 {G : Rg} {X : Ct} {r : Unit} {Mf : Mm} {c0 : Nat}  (C : cxX0_setFree G X) (hG : gS G = shX) (hB0 : isB G c0)  (M : Mm) (hf : fX0_setFree_b29 c0 M = some (r, Mf)) : V G X 3 none Mf 29 [(0, .ref (gA G c0))] [] M := by
  rw [fX0_setFree_b29] at hf
  refine V.aload_n (pc := 29) C 0 rfl dX0_setFree_29 ?_
  refine V.bipush (pc := 30) C (9 : Int32) (by decide) dX0_setFree_30 ?_
  refine V.aload_n (pc := 32) C 0 rfl dX0_setFree_32 ?_
  refine V.getI (pc := 33) C clX0 inX0 hB0.1 1 (by decide) wF_X0_9 rfl dX0_setFree_33 ?_
  refine V.iconst (pc := 36) C (1 : Int32) (by decide) dX0_setFree_36 ?_
  refine V.iadd (pc := 37) C dX0_setFree_37 ?_
  refine V.mmin (pc := 38) C mm_min wM_X0_66 (by decide) (Nat.le_of_ble_eq_true rfl) dX0_setFree_38 ?_
  refine V.putI (pc := 41) C clX0 inX0 hB0.1 1 (by decide) wF_X0_9 tyX0 tyX0_ok nmX0 rfl (tyX0_ok 1 (by decide)) rfl dX0_setFree_41 ?_
  exact V.retV (pc := 44) C hf dX0_setFree_44
def fX0_setFree_b2  (c0 : Nat) : Nat → Int32 → Int32 → Mm → Option (Unit × Mm)
  | 0, _, _, _ => none
  | n + 1, v1, v2, M =>
    if (12 : Int32) ≤ v2 then
    (fX0_setFree_b29 c0 M)
    else
    (if (v1 &&& (jshl (1 : Int32) v2)) = 0 then
    (fX0_setFree_b2 c0 n v1 (v2 + (1 : Int32)) M)
    else
    (gd (inb v2 12) (
    fX0_setFree_b2 c0 n v1 (v2 + (1 : Int32)) (sI M (c0 + 2) v2.toNatClampNeg (3 : Int32)))))
set_option maxHeartbeats 4000000 in
set_option maxRecDepth 100000 in
theorem vX0_setFree_b2 {G : Rg} {X : Ct} {r : Unit} {Mf : Mm} {c0 : Nat}  (C : cxX0_setFree G X) (hG : gS G = shX) (hB0 : isB G c0)  : ∀ (n : Nat) (v1 : Int32) (v2 : Int32) (M : Mm), fX0_setFree_b2 c0 n v1 v2 M = some (r, Mf) → V G X 3 none Mf 2 [(0, .ref (gA G c0)), (1, .int v1), (2, .int v2)] [] M := by
  intro n
  induction n with
  | zero => intro v1 v2 M hf; rw [fX0_setFree_b2] at hf; cases hf
  | succ n ih =>
    intro v1 v2 M hf
    rw [fX0_setFree_b2] at hf
    refine V.iload_n (pc := 2) C 2 rfl dX0_setFree_2 ?_
    refine V.bipush (pc := 3) C (12 : Int32) (by decide) dX0_setFree_3 ?_
    rcases it_some hf with ⟨h1, hf⟩ | ⟨h1, hf⟩
    · refine V.ic_geT (pc := 5) C 29 h1 (by decide) dX0_setFree_5 ?_
      refine V.sub C [0] (lv' := [(0, .ref (gA G c0))]) rfl ?_
      exact vX0_setFree_b29 C hG hB0   _ hf
    · refine V.ic_geF (pc := 5) C 29 h1 (by decide) dX0_setFree_5 ?_
      refine V.iload_n (pc := 8) C 1 rfl dX0_setFree_8 ?_
      refine V.iconst (pc := 9) C (1 : Int32) (by decide) dX0_setFree_9 ?_
      refine V.iload_n (pc := 10) C 2 rfl dX0_setFree_10 ?_
      refine V.ishl (pc := 11) C dX0_setFree_11 ?_
      refine V.iand (pc := 12) C dX0_setFree_12 ?_
      rcases it_some hf with ⟨h2, hf⟩ | ⟨h2, hf⟩
      · refine V.if_eqT (pc := 13) C 23 h2 (by decide) dX0_setFree_13 ?_
        refine V.iinc (pc := 23) (lv' := [(2, .int (v2 + (1 : Int32))), (0, .ref (gA G c0)), (1, .int v1)]) C (v2 + (1 : Int32)) 2 rfl rfl (by decide) rfl dX0_setFree_23 ?_
        refine V.goto (pc := 26) C 2 (by decide) dX0_setFree_26 ?_
        refine V.sub C [1, 2, 0] (lv' := [(0, .ref (gA G c0)), (1, .int v1), (2, .int (v2 + (1 : Int32)))]) rfl ?_
        exact ih _ _ _ hf
      · refine V.if_eqF (pc := 13) C 23 h2 (by decide) dX0_setFree_13 ?_
        refine V.aload_n (pc := 16) C 0 rfl dX0_setFree_16 ?_
        refine V.getR (pc := 17) C clX0 inX0 hB0.1 5 (by decide) wF_X0_19 rfl dX0_setFree_17 ?_
        refine V.iload_n (pc := 20) C 2 rfl dX0_setFree_20 ?_
        refine V.iconst (pc := 21) C (3 : Int32) (by decide) dX0_setFree_21 ?_
        obtain ⟨g3, hf⟩ := gd_some hf
        refine V.iast (pc := 22) C hB0.2.2.1 (inb_in g3) dX0_setFree_22 ?_
        refine V.iinc (pc := 23) (lv' := [(2, .int (v2 + (1 : Int32))), (0, .ref (gA G c0)), (1, .int v1)]) C (v2 + (1 : Int32)) 2 rfl rfl (by decide) rfl dX0_setFree_23 ?_
        refine V.goto (pc := 26) C 2 (by decide) dX0_setFree_26 ?_
        refine V.sub C [1, 2, 0] (lv' := [(0, .ref (gA G c0)), (1, .int v1), (2, .int (v2 + (1 : Int32)))]) rfl ?_
        exact ih _ _ _ hf
def fX0_setFree (c0 : Nat) (x1 : Int32) (M : Mm) : Option (Unit × Mm) :=
fX0_setFree_b2 c0 fu x1 (0 : Int32) M
set_option maxHeartbeats 4000000 in
set_option maxRecDepth 100000 in
theorem mX0_setFree (l : Launch) {G : Rg} (hG : gS G = shX) {c0 : Nat} {x1 : Int32} (hB0 : isB G c0) {M Mf : Mm} {r : Unit} (hf : fX0_setFree c0 x1 M = some (r, Mf)) : Mt l G yX0_setFree cX0_setFree 3 (none) 1 40 [.ref (gA G c0), .int x1] M none Mf := by
  refine Mt.of (by decide) (Nat.le_of_ble_eq_true rfl) ?_
  intro X C hX
  subst hX
  have C : cxX0_setFree G X := C
  show V G X 3 none Mf 0 [(0, .ref (gA G c0)), (1, .int x1)] [] M
  rw [fX0_setFree] at hf
  refine V.iconst (pc := 0) C (0 : Int32) (by decide) dX0_setFree_0 ?_
  refine V.istore_n (pc := 1) (lv' := [(2, .int (0 : Int32)), (0, .ref (gA G c0)), (1, .int x1)]) C (by decide) rfl dX0_setFree_1 ?_
  refine V.sub C [1, 2, 0] (lv' := [(0, .ref (gA G c0)), (1, .int x1), (2, .int (0 : Int32))]) rfl ?_
  exact vX0_setFree_b2 C hG hB0  fu _ _ _ hf
theorem dX3_endExchange_0 : decode cX3_endExchange 0 = .ok (.aload_n 0, 1) := by decide +kernel
theorem dX3_endExchange_1 : decode cX3_endExchange 1 = .ok (.aload_n 0, 1) := by decide +kernel
theorem dX3_endExchange_2 : decode cX3_endExchange 2 = .ok (.getfield 12, 3) := by decide +kernel
theorem dX3_endExchange_5 : decode cX3_endExchange 5 = .ok (.aload_n 0, 1) := by decide +kernel
theorem dX3_endExchange_6 : decode cX3_endExchange 6 = .ok (.getfield 52, 3) := by decide +kernel
theorem dX3_endExchange_9 : decode cX3_endExchange 9 = .ok (.aload_n 0, 1) := by decide +kernel
theorem dX3_endExchange_10 : decode cX3_endExchange 10 = .ok (.getfield 55, 3) := by decide +kernel
theorem dX3_endExchange_13 : decode cX3_endExchange 13 = .ok (.invokevirtual 74, 3) := by decide +kernel
theorem dX3_endExchange_16 : decode cX3_endExchange 16 = .ok (.putfield 29, 3) := by decide +kernel
theorem dX3_endExchange_19 : decode cX3_endExchange 19 = .ok (.aload_n 0, 1) := by decide +kernel
theorem dX3_endExchange_20 : decode cX3_endExchange 20 = .ok (.getfield 29, 3) := by decide +kernel
theorem dX3_endExchange_23 : decode cX3_endExchange 23 = .ok (.ifCond .ne 34, 3) := by decide +kernel
theorem dX3_endExchange_26 : decode cX3_endExchange 26 = .ok (.aload_n 0, 1) := by decide +kernel
theorem dX3_endExchange_27 : decode cX3_endExchange 27 = .ok (.getfield 12, 3) := by decide +kernel
theorem dX3_endExchange_30 : decode cX3_endExchange 30 = .ok (.aload_n 0, 1) := by decide +kernel
theorem dX3_endExchange_31 : decode cX3_endExchange 31 = .ok (.getfield 52, 3) := by decide +kernel
theorem dX3_endExchange_34 : decode cX3_endExchange 34 = .ok (.invokevirtual 78, 3) := by decide +kernel
theorem dX3_endExchange_37 : decode cX3_endExchange 37 = .ok (.aload_n 0, 1) := by decide +kernel
theorem dX3_endExchange_38 : decode cX3_endExchange 38 = .ok (.dup, 1) := by decide +kernel
theorem dX3_endExchange_39 : decode cX3_endExchange 39 = .ok (.getfield 26, 3) := by decide +kernel
theorem dX3_endExchange_42 : decode cX3_endExchange 42 = .ok (.iconst 1, 1) := by decide +kernel
theorem dX3_endExchange_43 : decode cX3_endExchange 43 = .ok (.iadd, 1) := by decide +kernel
theorem dX3_endExchange_44 : decode cX3_endExchange 44 = .ok (.putfield 26, 3) := by decide +kernel
theorem dX3_endExchange_47 : decode cX3_endExchange 47 = .ok (.aload_n 0, 1) := by decide +kernel
theorem dX3_endExchange_48 : decode cX3_endExchange 48 = .ok (.dup, 1) := by decide +kernel
theorem dX3_endExchange_49 : decode cX3_endExchange 49 = .ok (.getfield 22, 3) := by decide +kernel
theorem dX3_endExchange_52 : decode cX3_endExchange 52 = .ok (.iconst 1, 1) := by decide +kernel
theorem dX3_endExchange_53 : decode cX3_endExchange 53 = .ok (.iadd, 1) := by decide +kernel
theorem dX3_endExchange_54 : decode cX3_endExchange 54 = .ok (.putfield 22, 3) := by decide +kernel
theorem dX3_endExchange_57 : decode cX3_endExchange 57 = .ok (.return_, 1) := by decide +kernel
abbrev cxX3_endExchange (G : Rg) (X : Ct) : Prop := Cx G X cX3_endExchange 1 RX3 (none) 3 66 (Cond.code yX3_endExchange cX3_endExchange 1 (none))
def fX3_endExchange  (M : Mm) : Option (Unit × Mm) :=
bd (fX0_whyNoExchange 9 (M.1 8 6) (M.1 8 7) M) fun r1 M1 =>
if ((sI M1 8 3 r1).1 8 3) = 0 then
(bd (fX0_setFree 9 ((sI M1 8 3 r1).1 8 6) (sI M1 8 3 r1)) fun _ M3 =>
some ((), (sI (sI M3 8 2 ((M3.1 8 2) + (1 : Int32))) 8 1 (((sI M3 8 2 ((M3.1 8 2) + (1 : Int32))).1 8 1) + (1 : Int32)))))
else
(some ((), (sI M1 8 3 r1)))
set_option maxHeartbeats 4000000 in
set_option maxRecDepth 100000 in
theorem mX3_endExchange (l : Launch) {G : Rg} (hG : gS G = shX)   {M Mf : Mm} {r : Unit} (hf : fX3_endExchange  M = some (r, Mf)) : Mt l G yX3_endExchange cX3_endExchange 1 (none) 3 66 [.ref (gA G 8)] M none Mf := by
  refine Mt.of (by decide) (Nat.le_of_ble_eq_true rfl) ?_
  intro X C hX
  subst hX
  have C : cxX3_endExchange G X := C
  show V G X 1 none Mf 0 [(0, .ref (gA G 8))] [] M
  rw [fX3_endExchange] at hf
  refine V.aload_n (pc := 0) C 0 rfl dX3_endExchange_0 ?_
  refine V.aload_n (pc := 1) C 0 rfl dX3_endExchange_1 ?_
  refine V.getR (pc := 2) C clX3 inX3 (sx_8 hG) 0 (by decide) wF_X3_12 rfl dX3_endExchange_2 ?_
  refine V.aload_n (pc := 5) C 0 rfl dX3_endExchange_5 ?_
  refine V.getI (pc := 6) C clX3 inX3 (sx_8 hG) 6 (by decide) wF_X3_52 rfl dX3_endExchange_6 ?_
  refine V.aload_n (pc := 9) C 0 rfl dX3_endExchange_9 ?_
  refine V.getI (pc := 10) C clX3 inX3 (sx_8 hG) 7 (by decide) wF_X3_55 rfl dX3_endExchange_10 ?_
  obtain ⟨r1, M1, h1, hf⟩ := bd_some hf
  refine V.callVi (pc := 13) (As := [.int (M.1 8 6), .int (M.1 8 7)]) (rest := [.ref (gA G 8)]) C (mX0_whyNoExchange X.2.1 hG (bx_9 hG) h1) mf_X0_whyNoExchange clX0 (sx_9 hG) wM_X3_74 rfl rfl ⟨by decide, by decide⟩ (Nat.le_of_ble_eq_true rfl) dX3_endExchange_13 ?_
  refine V.putI (pc := 16) C clX3 inX3 (sx_8 hG) 3 (by decide) wF_X3_29 tyX3 tyX3_ok nmX3 rfl (tyX3_ok 3 (by decide)) rfl dX3_endExchange_16 ?_
  refine V.aload_n (pc := 19) C 0 rfl dX3_endExchange_19 ?_
  refine V.getI (pc := 20) C clX3 inX3 (sx_8 hG) 3 (by decide) wF_X3_29 rfl dX3_endExchange_20 ?_
  rcases it_some hf with ⟨h2, hf⟩ | ⟨h2, hf⟩
  · refine V.if_neF (pc := 23) C 57 h2 (by decide) dX3_endExchange_23 ?_
    refine V.aload_n (pc := 26) C 0 rfl dX3_endExchange_26 ?_
    refine V.getR (pc := 27) C clX3 inX3 (sx_8 hG) 0 (by decide) wF_X3_12 rfl dX3_endExchange_27 ?_
    refine V.aload_n (pc := 30) C 0 rfl dX3_endExchange_30 ?_
    refine V.getI (pc := 31) C clX3 inX3 (sx_8 hG) 6 (by decide) wF_X3_52 rfl dX3_endExchange_31 ?_
    obtain ⟨_, M3, h3, hf⟩ := bd_some hf
    refine V.callVv (pc := 34) (As := [.int ((sI M1 8 3 r1).1 8 6)]) (rest := []) C (mX0_setFree X.2.1 hG (bx_9 hG) h3) mf_X0_setFree clX0 (sx_9 hG) wM_X3_78 rfl rfl ⟨by decide, by decide⟩ (Nat.le_of_ble_eq_true rfl) dX3_endExchange_34 ?_
    refine V.aload_n (pc := 37) C 0 rfl dX3_endExchange_37 ?_
    refine V.dup (pc := 38) C rfl dX3_endExchange_38 ?_
    refine V.getI (pc := 39) C clX3 inX3 (sx_8 hG) 2 (by decide) wF_X3_26 rfl dX3_endExchange_39 ?_
    refine V.iconst (pc := 42) C (1 : Int32) (by decide) dX3_endExchange_42 ?_
    refine V.iadd (pc := 43) C dX3_endExchange_43 ?_
    refine V.putI (pc := 44) C clX3 inX3 (sx_8 hG) 2 (by decide) wF_X3_26 tyX3 tyX3_ok nmX3 rfl (tyX3_ok 2 (by decide)) rfl dX3_endExchange_44 ?_
    refine V.aload_n (pc := 47) C 0 rfl dX3_endExchange_47 ?_
    refine V.dup (pc := 48) C rfl dX3_endExchange_48 ?_
    refine V.getI (pc := 49) C clX3 inX3 (sx_8 hG) 1 (by decide) wF_X3_22 rfl dX3_endExchange_49 ?_
    refine V.iconst (pc := 52) C (1 : Int32) (by decide) dX3_endExchange_52 ?_
    refine V.iadd (pc := 53) C dX3_endExchange_53 ?_
    refine V.putI (pc := 54) C clX3 inX3 (sx_8 hG) 1 (by decide) wF_X3_22 tyX3 tyX3_ok nmX3 rfl (tyX3_ok 1 (by decide)) rfl dX3_endExchange_54 ?_
    exact V.retV (pc := 57) C hf dX3_endExchange_57
  · refine V.if_neT (pc := 23) C 57 h2 (by decide) dX3_endExchange_23 ?_
    exact V.retV (pc := 57) C hf dX3_endExchange_57
theorem dX3_gather_0 : decode cX3_gather 0 = .ok (.iload_n 1, 1) := by decide +kernel
theorem dX3_gather_1 : decode cX3_gather 1 = .ok (.ifCond .lt 40, 3) := by decide +kernel
theorem dX3_gather_4 : decode cX3_gather 4 = .ok (.aload_n 0, 1) := by decide +kernel
theorem dX3_gather_5 : decode cX3_gather 5 = .ok (.dup, 1) := by decide +kernel
theorem dX3_gather_6 : decode cX3_gather 6 = .ok (.getfield 55, 3) := by decide +kernel
theorem dX3_gather_9 : decode cX3_gather 9 = .ok (.aload_n 0, 1) := by decide +kernel
theorem dX3_gather_10 : decode cX3_gather 10 = .ok (.getfield 52, 3) := by decide +kernel
theorem dX3_gather_13 : decode cX3_gather 13 = .ok (.iconst 1, 1) := by decide +kernel
theorem dX3_gather_14 : decode cX3_gather 14 = .ok (.iload_n 1, 1) := by decide +kernel
theorem dX3_gather_15 : decode cX3_gather 15 = .ok (.ishl, 1) := by decide +kernel
theorem dX3_gather_16 : decode cX3_gather 16 = .ok (.iand, 1) := by decide +kernel
theorem dX3_gather_17 : decode cX3_gather 17 = .ok (.ifCond .eq 7, 3) := by decide +kernel
theorem dX3_gather_20 : decode cX3_gather 20 = .ok (.iconst 1, 1) := by decide +kernel
theorem dX3_gather_21 : decode cX3_gather 21 = .ok (.goto 4, 3) := by decide +kernel
theorem dX3_gather_24 : decode cX3_gather 24 = .ok (.iconst 0, 1) := by decide +kernel
theorem dX3_gather_25 : decode cX3_gather 25 = .ok (.ior, 1) := by decide +kernel
theorem dX3_gather_26 : decode cX3_gather 26 = .ok (.putfield 55, 3) := by decide +kernel
theorem dX3_gather_29 : decode cX3_gather 29 = .ok (.aload_n 0, 1) := by decide +kernel
theorem dX3_gather_30 : decode cX3_gather 30 = .ok (.dup, 1) := by decide +kernel
theorem dX3_gather_31 : decode cX3_gather 31 = .ok (.getfield 52, 3) := by decide +kernel
theorem dX3_gather_34 : decode cX3_gather 34 = .ok (.iconst 1, 1) := by decide +kernel
theorem dX3_gather_35 : decode cX3_gather 35 = .ok (.iload_n 1, 1) := by decide +kernel
theorem dX3_gather_36 : decode cX3_gather 36 = .ok (.ishl, 1) := by decide +kernel
theorem dX3_gather_37 : decode cX3_gather 37 = .ok (.ior, 1) := by decide +kernel
theorem dX3_gather_38 : decode cX3_gather 38 = .ok (.putfield 52, 3) := by decide +kernel
theorem dX3_gather_41 : decode cX3_gather 41 = .ok (.return_, 1) := by decide +kernel
abbrev cxX3_gather (G : Rg) (X : Ct) : Prop := Cx G X cX3_gather 2 RX3 (none) 0 0 (Cond.code yX3_gather cX3_gather 2 (none))
def fX3_gather_b25   (v1 : Int32) (s1 : Int32) (s2 : Int32) (M : Mm) : Option (Unit × Mm) :=
gd (decide ((s1 ||| s2) = 0 ∨ (s1 ||| s2) = 1)) (
some ((), (sI (sI M 8 7 (s1 ||| s2)) 8 6 (((sI M 8 7 (s1 ||| s2)).1 8 6) ||| (jshl (1 : Int32) v1)))))
set_option maxHeartbeats 4000000 in
set_option maxRecDepth 100000 in
theorem vX3_gather_b25 {G : Rg} {X : Ct} {r : Unit} {Mf : Mm}   (C : cxX3_gather G X) (hG : gS G = shX)   (v1 : Int32) (s1 : Int32) (s2 : Int32) (M : Mm) (hf : fX3_gather_b25 v1 s1 s2 M = some (r, Mf)) : V G X 2 none Mf 25 [(0, .ref (gA G 8)), (1, .int v1)] [.int s2, .int s1, .ref (gA G 8)] M := by
  rw [fX3_gather_b25] at hf
  refine V.ior (pc := 25) C dX3_gather_25 ?_
  obtain ⟨g1, hf⟩ := gd_some hf
  refine V.putZ (pc := 26) C clX3 inX3 (sx_8 hG) 7 (by decide) wF_X3_55 tyX3 tyX3_ok nmX3 rfl (tyX3_ok 7 (by decide)) (dec_some g1) rfl dX3_gather_26 ?_
  refine V.aload_n (pc := 29) C 0 rfl dX3_gather_29 ?_
  refine V.dup (pc := 30) C rfl dX3_gather_30 ?_
  refine V.getI (pc := 31) C clX3 inX3 (sx_8 hG) 6 (by decide) wF_X3_52 rfl dX3_gather_31 ?_
  refine V.iconst (pc := 34) C (1 : Int32) (by decide) dX3_gather_34 ?_
  refine V.iload_n (pc := 35) C 1 rfl dX3_gather_35 ?_
  refine V.ishl (pc := 36) C dX3_gather_36 ?_
  refine V.ior (pc := 37) C dX3_gather_37 ?_
  refine V.putI (pc := 38) C clX3 inX3 (sx_8 hG) 6 (by decide) wF_X3_52 tyX3 tyX3_ok nmX3 rfl (tyX3_ok 6 (by decide)) rfl dX3_gather_38 ?_
  exact V.retV (pc := 41) C hf dX3_gather_41
def fX3_gather (x1 : Int32) (M : Mm) : Option (Unit × Mm) :=
if x1 < 0 then
(some ((), M))
else
(if ((M.1 8 6) &&& (jshl (1 : Int32) x1)) = 0 then
(fX3_gather_b25 x1 (M.1 8 7) (0 : Int32) M)
else
(fX3_gather_b25 x1 (M.1 8 7) (1 : Int32) M))
set_option maxHeartbeats 4000000 in
set_option maxRecDepth 100000 in
theorem mX3_gather (l : Launch) {G : Rg} (hG : gS G = shX) {x1 : Int32}  {M Mf : Mm} {r : Unit} (hf : fX3_gather x1 M = some (r, Mf)) : Mt l G yX3_gather cX3_gather 2 (none) 0 0 [.ref (gA G 8), .int x1] M none Mf := by
  refine Mt.of (by decide) (Nat.le_of_ble_eq_true rfl) ?_
  intro X C hX
  subst hX
  have C : cxX3_gather G X := C
  show V G X 2 none Mf 0 [(0, .ref (gA G 8)), (1, .int x1)] [] M
  rw [fX3_gather] at hf
  refine V.iload_n (pc := 0) C 1 rfl dX3_gather_0 ?_
  rcases it_some hf with ⟨h1, hf⟩ | ⟨h1, hf⟩
  · refine V.if_ltT (pc := 1) C 41 h1 (by decide) dX3_gather_1 ?_
    exact V.retV (pc := 41) C hf dX3_gather_41
  · refine V.if_ltF (pc := 1) C 41 h1 (by decide) dX3_gather_1 ?_
    refine V.aload_n (pc := 4) C 0 rfl dX3_gather_4 ?_
    refine V.dup (pc := 5) C rfl dX3_gather_5 ?_
    refine V.getI (pc := 6) C clX3 inX3 (sx_8 hG) 7 (by decide) wF_X3_55 rfl dX3_gather_6 ?_
    refine V.aload_n (pc := 9) C 0 rfl dX3_gather_9 ?_
    refine V.getI (pc := 10) C clX3 inX3 (sx_8 hG) 6 (by decide) wF_X3_52 rfl dX3_gather_10 ?_
    refine V.iconst (pc := 13) C (1 : Int32) (by decide) dX3_gather_13 ?_
    refine V.iload_n (pc := 14) C 1 rfl dX3_gather_14 ?_
    refine V.ishl (pc := 15) C dX3_gather_15 ?_
    refine V.iand (pc := 16) C dX3_gather_16 ?_
    rcases it_some hf with ⟨h2, hf⟩ | ⟨h2, hf⟩
    · refine V.if_eqT (pc := 17) C 24 h2 (by decide) dX3_gather_17 ?_
      refine V.iconst (pc := 24) C (0 : Int32) (by decide) dX3_gather_24 ?_
      exact vX3_gather_b25 C hG    _ _ _ _ hf
    · refine V.if_eqF (pc := 17) C 24 h2 (by decide) dX3_gather_17 ?_
      refine V.iconst (pc := 20) C (1 : Int32) (by decide) dX3_gather_20 ?_
      refine V.goto (pc := 21) C 25 (by decide) dX3_gather_21 ?_
      exact vX3_gather_b25 C hG    _ _ _ _ hf
theorem dX0_statesFor_0 : decode cX0_statesFor 0 = .ok (.iload_n 0, 1) := by decide +kernel
theorem dX0_statesFor_1 : decode cX0_statesFor 1 = .ok (.tableswitch 34 0 2 #[27, 29, 31], 27) := by decide +kernel
theorem dX0_statesFor_28 : decode cX0_statesFor 28 = .ok (.iconst 1, 1) := by decide +kernel
theorem dX0_statesFor_29 : decode cX0_statesFor 29 = .ok (.ireturn, 1) := by decide +kernel
theorem dX0_statesFor_30 : decode cX0_statesFor 30 = .ok (.iconst 2, 1) := by decide +kernel
theorem dX0_statesFor_31 : decode cX0_statesFor 31 = .ok (.ireturn, 1) := by decide +kernel
theorem dX0_statesFor_32 : decode cX0_statesFor 32 = .ok (.bipush 6, 2) := by decide +kernel
theorem dX0_statesFor_34 : decode cX0_statesFor 34 = .ok (.ireturn, 1) := by decide +kernel
theorem dX0_statesFor_35 : decode cX0_statesFor 35 = .ok (.bipush 7, 2) := by decide +kernel
theorem dX0_statesFor_37 : decode cX0_statesFor 37 = .ok (.ireturn, 1) := by decide +kernel
abbrev cxX0_statesFor (G : Rg) (X : Ct) : Prop := Cx G X cX0_statesFor 1 RX0 (some .int) 0 0 (Cond.code yX0_statesFor cX0_statesFor 1 (some .int))
def fX0_statesFor (x0 : Int32) (M : Mm) : Option (Int32 × Mm) :=
if x0 = (0 : Int32) then
(some ((1 : Int32), M))
else
if x0 = (1 : Int32) then
(some ((2 : Int32), M))
else
if x0 = (2 : Int32) then
(some ((6 : Int32), M))
else
(some ((7 : Int32), M))
set_option maxHeartbeats 4000000 in
set_option maxRecDepth 100000 in
theorem mX0_statesFor (l : Launch) {G : Rg} (hG : gS G = shX) {x0 : Int32}  {M Mf : Mm} {r : Int32} (hf : fX0_statesFor x0 M = some (r, Mf)) : Mt l G yX0_statesFor cX0_statesFor 1 (some .int) 0 0 [.int x0] M (some (.int r)) Mf := by
  refine Mt.of (by decide) (Nat.le_of_ble_eq_true rfl) ?_
  intro X C hX
  subst hX
  have C : cxX0_statesFor G X := C
  show V G X 1 (some (.int r)) Mf 0 [(0, .int x0)] [] M
  rw [fX0_statesFor] at hf
  refine V.iload_n (pc := 0) C 0 rfl dX0_statesFor_0 ?_
  rcases it_some hf with ⟨h1, hf⟩ | ⟨h1, hf⟩
  · refine V.tabIn (pc := 1) (off := 27) C (0 : Int32) 28 h1 (by decide) (by decide) (by decide) (by decide) dX0_statesFor_1 ?_
    refine V.iconst (pc := 28) C (1 : Int32) (by decide) dX0_statesFor_28 ?_
    exact V.retI (pc := 29) C hf dX0_statesFor_29
  · skip
    rcases it_some hf with ⟨h2, hf⟩ | ⟨h2, hf⟩
    · refine V.tabIn (pc := 1) (off := 29) C (1 : Int32) 30 h2 (by decide) (by decide) (by decide) (by decide) dX0_statesFor_1 ?_
      refine V.iconst (pc := 30) C (2 : Int32) (by decide) dX0_statesFor_30 ?_
      exact V.retI (pc := 31) C hf dX0_statesFor_31
    · skip
      rcases it_some hf with ⟨h3, hf⟩ | ⟨h3, hf⟩
      · refine V.tabIn (pc := 1) (off := 31) C (2 : Int32) 32 h3 (by decide) (by decide) (by decide) (by decide) dX0_statesFor_1 ?_
        refine V.bipush (pc := 32) C (6 : Int32) (by decide) dX0_statesFor_32 ?_
        exact V.retI (pc := 34) C hf dX0_statesFor_34
      · skip
        refine V.tabOut (pc := 1) C 35 (sw3 h1 h2 h3) (by decide) dX0_statesFor_1 ?_
        refine V.bipush (pc := 35) C (7 : Int32) (by decide) dX0_statesFor_35 ?_
        exact V.retI (pc := 37) C hf dX0_statesFor_37
theorem dX0_whyNot_0 : decode cX0_whyNot 0 = .ok (.aload_n 0, 1) := by decide +kernel
theorem dX0_whyNot_1 : decode cX0_whyNot 1 = .ok (.iload_n 1, 1) := by decide +kernel
theorem dX0_whyNot_2 : decode cX0_whyNot 2 = .ok (.invokevirtual 50, 3) := by decide +kernel
theorem dX0_whyNot_5 : decode cX0_whyNot 5 = .ok (.ifCond .ne 5, 3) := by decide +kernel
theorem dX0_whyNot_8 : decode cX0_whyNot 8 = .ok (.iconst 1, 1) := by decide +kernel
theorem dX0_whyNot_9 : decode cX0_whyNot 9 = .ok (.ireturn, 1) := by decide +kernel
theorem dX0_whyNot_10 : decode cX0_whyNot 10 = .ok (.iload_n 2, 1) := by decide +kernel
theorem dX0_whyNot_11 : decode cX0_whyNot 11 = .ok (.invokestatic 54, 3) := by decide +kernel
theorem dX0_whyNot_14 : decode cX0_whyNot 14 = .ok (.aload_n 0, 1) := by decide +kernel
theorem dX0_whyNot_15 : decode cX0_whyNot 15 = .ok (.getfield 19, 3) := by decide +kernel
theorem dX0_whyNot_18 : decode cX0_whyNot 18 = .ok (.iload_n 1, 1) := by decide +kernel
theorem dX0_whyNot_19 : decode cX0_whyNot 19 = .ok (.iaload, 1) := by decide +kernel
theorem dX0_whyNot_20 : decode cX0_whyNot 20 = .ok (.ishr, 1) := by decide +kernel
theorem dX0_whyNot_21 : decode cX0_whyNot 21 = .ok (.iconst 1, 1) := by decide +kernel
theorem dX0_whyNot_22 : decode cX0_whyNot 22 = .ok (.iand, 1) := by decide +kernel
theorem dX0_whyNot_23 : decode cX0_whyNot 23 = .ok (.ifCond .ne 5, 3) := by decide +kernel
theorem dX0_whyNot_26 : decode cX0_whyNot 26 = .ok (.iconst 3, 1) := by decide +kernel
theorem dX0_whyNot_27 : decode cX0_whyNot 27 = .ok (.ireturn, 1) := by decide +kernel
theorem dX0_whyNot_28 : decode cX0_whyNot 28 = .ok (.iload_n 2, 1) := by decide +kernel
theorem dX0_whyNot_29 : decode cX0_whyNot 29 = .ok (.iconst 3, 1) := by decide +kernel
theorem dX0_whyNot_30 : decode cX0_whyNot 30 = .ok (.if_icmp .ne 15, 3) := by decide +kernel
theorem dX0_whyNot_33 : decode cX0_whyNot 33 = .ok (.aload_n 0, 1) := by decide +kernel
theorem dX0_whyNot_34 : decode cX0_whyNot 34 = .ok (.getfield 15, 3) := by decide +kernel
theorem dX0_whyNot_37 : decode cX0_whyNot 37 = .ok (.iload_n 1, 1) := by decide +kernel
theorem dX0_whyNot_38 : decode cX0_whyNot 38 = .ok (.iaload, 1) := by decide +kernel
theorem dX0_whyNot_39 : decode cX0_whyNot 39 = .ok (.iconst 5, 1) := by decide +kernel
theorem dX0_whyNot_40 : decode cX0_whyNot 40 = .ok (.if_icmp .lt 5, 3) := by decide +kernel
theorem dX0_whyNot_43 : decode cX0_whyNot 43 = .ok (.iconst 4, 1) := by decide +kernel
theorem dX0_whyNot_44 : decode cX0_whyNot 44 = .ok (.ireturn, 1) := by decide +kernel
theorem dX0_whyNot_45 : decode cX0_whyNot 45 = .ok (.iload_n 2, 1) := by decide +kernel
theorem dX0_whyNot_46 : decode cX0_whyNot 46 = .ok (.ifCond .ne 14, 3) := by decide +kernel
theorem dX0_whyNot_49 : decode cX0_whyNot 49 = .ok (.aload_n 0, 1) := by decide +kernel
theorem dX0_whyNot_50 : decode cX0_whyNot 50 = .ok (.getfield 9, 3) := by decide +kernel
theorem dX0_whyNot_53 : decode cX0_whyNot 53 = .ok (.ifCond .ne 7, 3) := by decide +kernel
theorem dX0_whyNot_56 : decode cX0_whyNot 56 = .ok (.iconst 5, 1) := by decide +kernel
theorem dX0_whyNot_57 : decode cX0_whyNot 57 = .ok (.goto 4, 3) := by decide +kernel
theorem dX0_whyNot_60 : decode cX0_whyNot 60 = .ok (.iconst 0, 1) := by decide +kernel
theorem dX0_whyNot_61 : decode cX0_whyNot 61 = .ok (.ireturn, 1) := by decide +kernel
abbrev cxX0_whyNot (G : Rg) (X : Ct) : Prop := Cx G X cX0_whyNot 3 RX0 (some .int) 1 21 (Cond.code yX0_whyNot cX0_whyNot 3 (some .int))
def fX0_whyNot_b45  (c0 : Nat) (v2 : Int32) (M : Mm) : Option (Int32 × Mm) :=
if v2 = 0 then
(if (M.1 c0 1) = 0 then
(some ((5 : Int32), M))
else
(some ((0 : Int32), M)))
else
(some ((0 : Int32), M))
set_option maxHeartbeats 4000000 in
set_option maxRecDepth 100000 in
theorem vX0_whyNot_b45 {G : Rg} {X : Ct} {r : Int32} {Mf : Mm} {c0 : Nat}  (C : cxX0_whyNot G X) (hG : gS G = shX) (hB0 : isB G c0)  (v2 : Int32) (M : Mm) (hf : fX0_whyNot_b45 c0 v2 M = some (r, Mf)) : V G X 3 (some (.int r)) Mf 45 [(0, .ref (gA G c0)), (2, .int v2)] [] M := by
  rw [fX0_whyNot_b45] at hf
  refine V.iload_n (pc := 45) C 1 rfl dX0_whyNot_45 ?_
  rcases it_some hf with ⟨h1, hf⟩ | ⟨h1, hf⟩
  · refine V.if_neF (pc := 46) C 60 h1 (by decide) dX0_whyNot_46 ?_
    refine V.aload_n (pc := 49) C 0 rfl dX0_whyNot_49 ?_
    refine V.getI (pc := 50) C clX0 inX0 hB0.1 1 (by decide) wF_X0_9 rfl dX0_whyNot_50 ?_
    rcases it_some hf with ⟨h2, hf⟩ | ⟨h2, hf⟩
    · refine V.if_neF (pc := 53) C 60 h2 (by decide) dX0_whyNot_53 ?_
      refine V.iconst (pc := 56) C (5 : Int32) (by decide) dX0_whyNot_56 ?_
      refine V.goto (pc := 57) C 61 (by decide) dX0_whyNot_57 ?_
      exact V.retI (pc := 61) C hf dX0_whyNot_61
    · refine V.if_neT (pc := 53) C 60 h2 (by decide) dX0_whyNot_53 ?_
      refine V.iconst (pc := 60) C (0 : Int32) (by decide) dX0_whyNot_60 ?_
      exact V.retI (pc := 61) C hf dX0_whyNot_61
  · refine V.if_neT (pc := 46) C 60 h1 (by decide) dX0_whyNot_46 ?_
    refine V.iconst (pc := 60) C (0 : Int32) (by decide) dX0_whyNot_60 ?_
    exact V.retI (pc := 61) C hf dX0_whyNot_61
def fX0_whyNot (c0 : Nat) (x1 : Int32) (x2 : Int32) (M : Mm) : Option (Int32 × Mm) :=
bd (fX0_isThere c0 x1 M) fun r1 M1 =>
if r1 = 0 then
(some ((1 : Int32), M1))
else
(bd (fX0_statesFor x2 M1) fun r3 M3 =>
gd (inb x1 12) (
if ((jshr r3 (M3.1 (c0 + 2) x1.toNatClampNeg)) &&& (1 : Int32)) = 0 then
(some ((3 : Int32), M3))
else
(if x2 = (3 : Int32) then
(gd (inb x1 12) (
if (M3.1 (c0 + 1) x1.toNatClampNeg) < (5 : Int32) then
(fX0_whyNot_b45 c0 x2 M3)
else
(some ((4 : Int32), M3))))
else
(fX0_whyNot_b45 c0 x2 M3))))
set_option maxHeartbeats 4000000 in
set_option maxRecDepth 100000 in
theorem mX0_whyNot (l : Launch) {G : Rg} (hG : gS G = shX) {c0 : Nat} {x1 : Int32} {x2 : Int32} (hB0 : isB G c0) {M Mf : Mm} {r : Int32} (hf : fX0_whyNot c0 x1 x2 M = some (r, Mf)) : Mt l G yX0_whyNot cX0_whyNot 3 (some .int) 1 21 [.ref (gA G c0), .int x1, .int x2] M (some (.int r)) Mf := by
  refine Mt.of (by decide) (Nat.le_of_ble_eq_true rfl) ?_
  intro X C hX
  subst hX
  have C : cxX0_whyNot G X := C
  show V G X 3 (some (.int r)) Mf 0 [(0, .ref (gA G c0)), (1, .int x1), (2, .int x2)] [] M
  rw [fX0_whyNot] at hf
  refine V.aload_n (pc := 0) C 0 rfl dX0_whyNot_0 ?_
  refine V.iload_n (pc := 1) C 1 rfl dX0_whyNot_1 ?_
  obtain ⟨r1, M1, h1, hf⟩ := bd_some hf
  refine V.callVi (pc := 2) (As := [.int x1]) (rest := []) C (mX0_isThere X.2.1 hG hB0 h1) mf_X0_isThere clX0 hB0.1 wM_X0_50 rfl rfl ⟨by decide, by decide⟩ (Nat.le_of_ble_eq_true rfl) dX0_whyNot_2 ?_
  rcases it_some hf with ⟨h2, hf⟩ | ⟨h2, hf⟩
  · refine V.if_neF (pc := 5) C 10 h2 (by decide) dX0_whyNot_5 ?_
    refine V.iconst (pc := 8) C (1 : Int32) (by decide) dX0_whyNot_8 ?_
    exact V.retI (pc := 9) C hf dX0_whyNot_9
  · refine V.if_neT (pc := 5) C 10 h2 (by decide) dX0_whyNot_5 ?_
    refine V.iload_n (pc := 10) C 2 rfl dX0_whyNot_10 ?_
    obtain ⟨r3, M3, h3, hf⟩ := bd_some hf
    refine V.callSi (pc := 11) (As := [.int x2]) (rest := []) C (mX0_statesFor X.2.1 hG  h3) mf_X0_statesFor wM_X0_54 rfl rfl ⟨by decide, by decide⟩ (Nat.le_of_ble_eq_true rfl) dX0_whyNot_11 ?_
    refine V.aload_n (pc := 14) C 0 rfl dX0_whyNot_14 ?_
    refine V.getR (pc := 15) C clX0 inX0 hB0.1 5 (by decide) wF_X0_19 rfl dX0_whyNot_15 ?_
    refine V.iload_n (pc := 18) C 1 rfl dX0_whyNot_18 ?_
    obtain ⟨g4, hf⟩ := gd_some hf
    refine V.iald (pc := 19) C hB0.2.2.1 (inb_in g4) dX0_whyNot_19 ?_
    refine V.ishr (pc := 20) C dX0_whyNot_20 ?_
    refine V.iconst (pc := 21) C (1 : Int32) (by decide) dX0_whyNot_21 ?_
    refine V.iand (pc := 22) C dX0_whyNot_22 ?_
    rcases it_some hf with ⟨h5, hf⟩ | ⟨h5, hf⟩
    · refine V.if_neF (pc := 23) C 28 h5 (by decide) dX0_whyNot_23 ?_
      refine V.iconst (pc := 26) C (3 : Int32) (by decide) dX0_whyNot_26 ?_
      exact V.retI (pc := 27) C hf dX0_whyNot_27
    · refine V.if_neT (pc := 23) C 28 h5 (by decide) dX0_whyNot_23 ?_
      refine V.iload_n (pc := 28) C 2 rfl dX0_whyNot_28 ?_
      refine V.iconst (pc := 29) C (3 : Int32) (by decide) dX0_whyNot_29 ?_
      rcases it_some hf with ⟨h6, hf⟩ | ⟨h6, hf⟩
      · refine V.ic_neF (pc := 30) C 45 h6 (by decide) dX0_whyNot_30 ?_
        refine V.aload_n (pc := 33) C 0 rfl dX0_whyNot_33 ?_
        refine V.getR (pc := 34) C clX0 inX0 hB0.1 4 (by decide) wF_X0_15 rfl dX0_whyNot_34 ?_
        refine V.iload_n (pc := 37) C 1 rfl dX0_whyNot_37 ?_
        obtain ⟨g7, hf⟩ := gd_some hf
        refine V.iald (pc := 38) C hB0.2.1 (inb_in g7) dX0_whyNot_38 ?_
        refine V.iconst (pc := 39) C (5 : Int32) (by decide) dX0_whyNot_39 ?_
        rcases it_some hf with ⟨h8, hf⟩ | ⟨h8, hf⟩
        · refine V.ic_ltT (pc := 40) C 45 h8 (by decide) dX0_whyNot_40 ?_
          refine V.sub C [0, 2] (lv' := [(0, .ref (gA G c0)), (2, .int x2)]) rfl ?_
          exact vX0_whyNot_b45 C hG hB0   _ _ hf
        · refine V.ic_ltF (pc := 40) C 45 h8 (by decide) dX0_whyNot_40 ?_
          refine V.iconst (pc := 43) C (4 : Int32) (by decide) dX0_whyNot_43 ?_
          exact V.retI (pc := 44) C hf dX0_whyNot_44
      · refine V.ic_neT (pc := 30) C 45 h6 (by decide) dX0_whyNot_30 ?_
        refine V.sub C [0, 2] (lv' := [(0, .ref (gA G c0)), (2, .int x2)]) rfl ?_
        exact vX0_whyNot_b45 C hG hB0   _ _ hf
end
