section
/-- a private method of a class that the tables say can be made, by its rows of tables_1 -/
def lw_okq (q : MethodName × Nat) : Prop := (q.1.cls ≠ "java/lang/invoke/MethodHandle" ∧ q.1.cls ≠ "java/lang/invoke/VarHandle") ∧ Cond.instantiable q.1.cls q.2 ∈ tables_1 ∧ Cond.privateMethod q.1 ∈ tables_1 ∧ Cond.instanceMethod q.1 ∈ tables_1
theorem lw_p0 : lw_okq (⟨"ParoleLedger", "readMonths", "()I"⟩, 10) := ⟨⟨by decide +kernel, by decide +kernel⟩, List.mem_of_getElem? (i := 16) (by decide +kernel), List.mem_of_getElem? (i := 341) (by decide +kernel), List.mem_of_getElem? (i := 342) (by decide +kernel)⟩
theorem lw_p1 : lw_okq (⟨"ParoleLedger$Months", "take", "(I)V"⟩, 8) := ⟨⟨by decide +kernel, by decide +kernel⟩, List.mem_of_getElem? (i := 83) (by decide +kernel), List.mem_of_getElem? (i := 356) (by decide +kernel), List.mem_of_getElem? (i := 357) (by decide +kernel)⟩
theorem lw_p2 : lw_okq (⟨"ParoleLedger$Months", "endExchange", "()V"⟩, 8) := ⟨⟨by decide +kernel, by decide +kernel⟩, List.mem_of_getElem? (i := 83) (by decide +kernel), List.mem_of_getElem? (i := 360) (by decide +kernel), List.mem_of_getElem? (i := 361) (by decide +kernel)⟩
theorem lw_p3 : lw_okq (⟨"ParoleLedger$Months", "gather", "(I)V"⟩, 8) := ⟨⟨by decide +kernel, by decide +kernel⟩, List.mem_of_getElem? (i := 83) (by decide +kernel), List.mem_of_getElem? (i := 388) (by decide +kernel), List.mem_of_getElem? (i := 389) (by decide +kernel)⟩
theorem lw_p4 : lw_okq (⟨"ParoleLedger$Months", "endDeed", "(I)V"⟩, 8) := ⟨⟨by decide +kernel, by decide +kernel⟩, List.mem_of_getElem? (i := 83) (by decide +kernel), List.mem_of_getElem? (i := 393) (by decide +kernel), List.mem_of_getElem? (i := 394) (by decide +kernel)⟩
theorem lw_p5 : lw_okq (⟨"ParoleLedger$Exchanges", "find", "(LParoleLedger$Books;IZ)V"⟩, 9) := ⟨⟨by decide +kernel, by decide +kernel⟩, List.mem_of_getElem? (i := 120) (by decide +kernel), List.mem_of_getElem? (i := 450) (by decide +kernel), List.mem_of_getElem? (i := 451) (by decide +kernel)⟩
theorem lw_p6 : lw_okq (⟨"ParoleLedger$Exchanges", "weighLots", "(LParoleLedger$Books;)V"⟩, 9) := ⟨⟨by decide +kernel, by decide +kernel⟩, List.mem_of_getElem? (i := 120) (by decide +kernel), List.mem_of_getElem? (i := 454) (by decide +kernel), List.mem_of_getElem? (i := 455) (by decide +kernel)⟩
theorem lw_p7 : lw_okq (⟨"ParoleLedger$Exchanges", "bestWith", "(IZ)I"⟩, 9) := ⟨⟨by decide +kernel, by decide +kernel⟩, List.mem_of_getElem? (i := 120) (by decide +kernel), List.mem_of_getElem? (i := 467) (by decide +kernel), List.mem_of_getElem? (i := 468) (by decide +kernel)⟩
theorem lw_p8 : lw_okq (⟨"ParoleLedger$Exchanges", "markEven", "()V"⟩, 9) := ⟨⟨by decide +kernel, by decide +kernel⟩, List.mem_of_getElem? (i := 120) (by decide +kernel), List.mem_of_getElem? (i := 496) (by decide +kernel), List.mem_of_getElem? (i := 497) (by decide +kernel)⟩
theorem lw_p9 : lw_okq (⟨"ParoleLedger$Exchanges", "lotsEvenWith", "(I)J"⟩, 9) := ⟨⟨by decide +kernel, by decide +kernel⟩, List.mem_of_getElem? (i := 120) (by decide +kernel), List.mem_of_getElem? (i := 500) (by decide +kernel), List.mem_of_getElem? (i := 501) (by decide +kernel)⟩
theorem lw_p10 : lw_okq (⟨"ParoleLedger$Exchanges", "makeRoomForOneMore", "()V"⟩, 9) := ⟨⟨by decide +kernel, by decide +kernel⟩, List.mem_of_getElem? (i := 120) (by decide +kernel), List.mem_of_getElem? (i := 508) (by decide +kernel), List.mem_of_getElem? (i := 509) (by decide +kernel)⟩
theorem lw_p11 : lw_okq (⟨"ParoleLedger", "bothSidesOpen", "()Z"⟩, 10) := ⟨⟨by decide +kernel, by decide +kernel⟩, List.mem_of_getElem? (i := 16) (by decide +kernel), List.mem_of_getElem? (i := 522) (by decide +kernel), List.mem_of_getElem? (i := 523) (by decide +kernel)⟩
theorem lw_p12 : lw_okq (⟨"ParoleLedger$Worlds", "addIfFits", "(LParoleLedger$Books;II)V"⟩, 6) := ⟨⟨by decide +kernel, by decide +kernel⟩, List.mem_of_getElem? (i := 157) (by decide +kernel), List.mem_of_getElem? (i := 560) (by decide +kernel), List.mem_of_getElem? (i := 561) (by decide +kernel)⟩
theorem lw_p13 : lw_okq (⟨"ParoleLedger$Worlds", "mostLeft", "(LParoleLedger$Books;II)I"⟩, 6) := ⟨⟨by decide +kernel, by decide +kernel⟩, List.mem_of_getElem? (i := 157) (by decide +kernel), List.mem_of_getElem? (i := 586) (by decide +kernel), List.mem_of_getElem? (i := 587) (by decide +kernel)⟩
theorem lw_p14 : lw_okq (⟨"ParoleLedger$Worlds", "worthIn", "(LParoleLedger$Books;II)I"⟩, 6) := ⟨⟨by decide +kernel, by decide +kernel⟩, List.mem_of_getElem? (i := 157) (by decide +kernel), List.mem_of_getElem? (i := 590) (by decide +kernel), List.mem_of_getElem? (i := 591) (by decide +kernel)⟩
theorem lw_p15 : lw_okq (⟨"ParoleLedger$Worlds", "offerPair", "(II)V"⟩, 6) := ⟨⟨by decide +kernel, by decide +kernel⟩, List.mem_of_getElem? (i := 157) (by decide +kernel), List.mem_of_getElem? (i := 595) (by decide +kernel), List.mem_of_getElem? (i := 596) (by decide +kernel)⟩
def lw_privs_1 : List (MethodName × Nat) := [(⟨"ParoleLedger", "readMonths", "()I"⟩, 10), (⟨"ParoleLedger$Months", "take", "(I)V"⟩, 8), (⟨"ParoleLedger$Months", "endExchange", "()V"⟩, 8), (⟨"ParoleLedger$Months", "gather", "(I)V"⟩, 8), (⟨"ParoleLedger$Months", "endDeed", "(I)V"⟩, 8), (⟨"ParoleLedger$Exchanges", "find", "(LParoleLedger$Books;IZ)V"⟩, 9), (⟨"ParoleLedger$Exchanges", "weighLots", "(LParoleLedger$Books;)V"⟩, 9), (⟨"ParoleLedger$Exchanges", "bestWith", "(IZ)I"⟩, 9), (⟨"ParoleLedger$Exchanges", "markEven", "()V"⟩, 9), (⟨"ParoleLedger$Exchanges", "lotsEvenWith", "(I)J"⟩, 9), (⟨"ParoleLedger$Exchanges", "makeRoomForOneMore", "()V"⟩, 9), (⟨"ParoleLedger", "bothSidesOpen", "()Z"⟩, 10), (⟨"ParoleLedger$Worlds", "addIfFits", "(LParoleLedger$Books;II)V"⟩, 6), (⟨"ParoleLedger$Worlds", "mostLeft", "(LParoleLedger$Books;II)I"⟩, 6), (⟨"ParoleLedger$Worlds", "worthIn", "(LParoleLedger$Books;II)I"⟩, 6), (⟨"ParoleLedger$Worlds", "offerPair", "(II)V"⟩, 6)]
theorem lw_r1 : ∀ q ∈ lw_privs_1, lw_okq q := List.forall_mem_cons.mpr ⟨lw_p0, List.forall_mem_cons.mpr ⟨lw_p1, List.forall_mem_cons.mpr ⟨lw_p2, List.forall_mem_cons.mpr ⟨lw_p3, List.forall_mem_cons.mpr ⟨lw_p4, List.forall_mem_cons.mpr ⟨lw_p5, List.forall_mem_cons.mpr ⟨lw_p6, List.forall_mem_cons.mpr ⟨lw_p7, List.forall_mem_cons.mpr ⟨lw_p8, List.forall_mem_cons.mpr ⟨lw_p9, List.forall_mem_cons.mpr ⟨lw_p10, List.forall_mem_cons.mpr ⟨lw_p11, List.forall_mem_cons.mpr ⟨lw_p12, List.forall_mem_cons.mpr ⟨lw_p13, List.forall_mem_cons.mpr ⟨lw_p14, List.forall_mem_cons.mpr ⟨lw_p15, fun _ h => absurd h List.not_mem_nil⟩⟩⟩⟩⟩⟩⟩⟩⟩⟩⟩⟩⟩⟩⟩⟩
theorem lw_p16 : lw_okq (⟨"ParoleLedger$Year", "draw", "(I)V"⟩, 3) := ⟨⟨by decide +kernel, by decide +kernel⟩, List.mem_of_getElem? (i := 220) (by decide +kernel), List.mem_of_getElem? (i := 645) (by decide +kernel), List.mem_of_getElem? (i := 646) (by decide +kernel)⟩
theorem lw_p17 : lw_okq (⟨"ParoleLedger$Year", "tryDeed", "(II)V"⟩, 3) := ⟨⟨by decide +kernel, by decide +kernel⟩, List.mem_of_getElem? (i := 220) (by decide +kernel), List.mem_of_getElem? (i := 649) (by decide +kernel), List.mem_of_getElem? (i := 650) (by decide +kernel)⟩
theorem lw_p18 : lw_okq (⟨"ParoleLedger$Year", "tryExchange", "(I)V"⟩, 3) := ⟨⟨by decide +kernel, by decide +kernel⟩, List.mem_of_getElem? (i := 220) (by decide +kernel), List.mem_of_getElem? (i := 655) (by decide +kernel), List.mem_of_getElem? (i := 656) (by decide +kernel)⟩
theorem lw_p19 : lw_okq (⟨"ParoleLedger", "toldCount", "(I)I"⟩, 10) := ⟨⟨by decide +kernel, by decide +kernel⟩, List.mem_of_getElem? (i := 16) (by decide +kernel), List.mem_of_getElem? (i := 673) (by decide +kernel), List.mem_of_getElem? (i := 674) (by decide +kernel)⟩
theorem lw_p20 : lw_okq (⟨"ParoleLedgerModel", "isOfficer", "(I)Z"⟩, 33) := ⟨⟨by decide +kernel, by decide +kernel⟩, List.mem_of_getElem? (i := 677) (by decide +kernel), List.mem_of_getElem? (i := 802) (by decide +kernel), List.mem_of_getElem? (i := 803) (by decide +kernel)⟩
theorem lw_p21 : lw_okq (⟨"ParoleLedgerModel", "begin", "(I)I"⟩, 33) := ⟨⟨by decide +kernel, by decide +kernel⟩, List.mem_of_getElem? (i := 677) (by decide +kernel), List.mem_of_getElem? (i := 830) (by decide +kernel), List.mem_of_getElem? (i := 831) (by decide +kernel)⟩
theorem lw_p22 : lw_okq (⟨"ParoleLedgerModel", "add", "(I)V"⟩, 33) := ⟨⟨by decide +kernel, by decide +kernel⟩, List.mem_of_getElem? (i := 677) (by decide +kernel), List.mem_of_getElem? (i := 844) (by decide +kernel), List.mem_of_getElem? (i := 845) (by decide +kernel)⟩
theorem lw_p23 : lw_okq (⟨"ParoleLedgerModel", "deed", "(I)I"⟩, 33) := ⟨⟨by decide +kernel, by decide +kernel⟩, List.mem_of_getElem? (i := 677) (by decide +kernel), List.mem_of_getElem? (i := 848) (by decide +kernel), List.mem_of_getElem? (i := 849) (by decide +kernel)⟩
theorem lw_p24 : lw_okq (⟨"ParoleLedgerModel", "inLots", "(II)I"⟩, 33) := ⟨⟨by decide +kernel, by decide +kernel⟩, List.mem_of_getElem? (i := 677) (by decide +kernel), List.mem_of_getElem? (i := 852) (by decide +kernel), List.mem_of_getElem? (i := 853) (by decide +kernel)⟩
theorem lw_p25 : lw_okq (⟨"ParoleLedgerModel", "refusal", "()I"⟩, 33) := ⟨⟨by decide +kernel, by decide +kernel⟩, List.mem_of_getElem? (i := 677) (by decide +kernel), List.mem_of_getElem? (i := 861) (by decide +kernel), List.mem_of_getElem? (i := 862) (by decide +kernel)⟩
theorem lw_p26 : lw_okq (⟨"ParoleLedgerModel", "store", "([I)V"⟩, 33) := ⟨⟨by decide +kernel, by decide +kernel⟩, List.mem_of_getElem? (i := 677) (by decide +kernel), List.mem_of_getElem? (i := 866) (by decide +kernel), List.mem_of_getElem? (i := 867) (by decide +kernel)⟩
theorem lw_p27 : lw_okq (⟨"ParoleLedgerModel", "goMonths", "()V"⟩, 33) := ⟨⟨by decide +kernel, by decide +kernel⟩, List.mem_of_getElem? (i := 677) (by decide +kernel), List.mem_of_getElem? (i := 870) (by decide +kernel), List.mem_of_getElem? (i := 871) (by decide +kernel)⟩
theorem lw_p28 : lw_okq (⟨"ParoleLedgerModel", "whyNot", "(III)I"⟩, 33) := ⟨⟨by decide +kernel, by decide +kernel⟩, List.mem_of_getElem? (i := 677) (by decide +kernel), List.mem_of_getElem? (i := 874) (by decide +kernel), List.mem_of_getElem? (i := 875) (by decide +kernel)⟩
theorem lw_p29 : lw_okq (⟨"ParoleLedgerModel", "areAllOpen", "(I)Z"⟩, 33) := ⟨⟨by decide +kernel, by decide +kernel⟩, List.mem_of_getElem? (i := 677) (by decide +kernel), List.mem_of_getElem? (i := 878) (by decide +kernel), List.mem_of_getElem? (i := 879) (by decide +kernel)⟩
theorem lw_p30 : lw_okq (⟨"ParoleLedgerModel", "isOpen", "(I)Z"⟩, 33) := ⟨⟨by decide +kernel, by decide +kernel⟩, List.mem_of_getElem? (i := 677) (by decide +kernel), List.mem_of_getElem? (i := 882) (by decide +kernel), List.mem_of_getElem? (i := 883) (by decide +kernel)⟩
theorem lw_p31 : lw_okq (⟨"ParoleLedgerModel", "worthOf", "(I)I"⟩, 33) := ⟨⟨by decide +kernel, by decide +kernel⟩, List.mem_of_getElem? (i := 677) (by decide +kernel), List.mem_of_getElem? (i := 886) (by decide +kernel), List.mem_of_getElem? (i := 887) (by decide +kernel)⟩
def lw_privs_2 : List (MethodName × Nat) := [(⟨"ParoleLedger$Year", "draw", "(I)V"⟩, 3), (⟨"ParoleLedger$Year", "tryDeed", "(II)V"⟩, 3), (⟨"ParoleLedger$Year", "tryExchange", "(I)V"⟩, 3), (⟨"ParoleLedger", "toldCount", "(I)I"⟩, 10), (⟨"ParoleLedgerModel", "isOfficer", "(I)Z"⟩, 33), (⟨"ParoleLedgerModel", "begin", "(I)I"⟩, 33), (⟨"ParoleLedgerModel", "add", "(I)V"⟩, 33), (⟨"ParoleLedgerModel", "deed", "(I)I"⟩, 33), (⟨"ParoleLedgerModel", "inLots", "(II)I"⟩, 33), (⟨"ParoleLedgerModel", "refusal", "()I"⟩, 33), (⟨"ParoleLedgerModel", "store", "([I)V"⟩, 33), (⟨"ParoleLedgerModel", "goMonths", "()V"⟩, 33), (⟨"ParoleLedgerModel", "whyNot", "(III)I"⟩, 33), (⟨"ParoleLedgerModel", "areAllOpen", "(I)Z"⟩, 33), (⟨"ParoleLedgerModel", "isOpen", "(I)Z"⟩, 33), (⟨"ParoleLedgerModel", "worthOf", "(I)I"⟩, 33)]
theorem lw_r2 : ∀ q ∈ lw_privs_2, lw_okq q := List.forall_mem_cons.mpr ⟨lw_p16, List.forall_mem_cons.mpr ⟨lw_p17, List.forall_mem_cons.mpr ⟨lw_p18, List.forall_mem_cons.mpr ⟨lw_p19, List.forall_mem_cons.mpr ⟨lw_p20, List.forall_mem_cons.mpr ⟨lw_p21, List.forall_mem_cons.mpr ⟨lw_p22, List.forall_mem_cons.mpr ⟨lw_p23, List.forall_mem_cons.mpr ⟨lw_p24, List.forall_mem_cons.mpr ⟨lw_p25, List.forall_mem_cons.mpr ⟨lw_p26, List.forall_mem_cons.mpr ⟨lw_p27, List.forall_mem_cons.mpr ⟨lw_p28, List.forall_mem_cons.mpr ⟨lw_p29, List.forall_mem_cons.mpr ⟨lw_p30, List.forall_mem_cons.mpr ⟨lw_p31, fun _ h => absurd h List.not_mem_nil⟩⟩⟩⟩⟩⟩⟩⟩⟩⟩⟩⟩⟩⟩⟩⟩
theorem lw_p32 : lw_okq (⟨"ParoleLedgerModel", "rateOf", "(I)I"⟩, 33) := ⟨⟨by decide +kernel, by decide +kernel⟩, List.mem_of_getElem? (i := 677) (by decide +kernel), List.mem_of_getElem? (i := 890) (by decide +kernel), List.mem_of_getElem? (i := 891) (by decide +kernel)⟩
theorem lw_p33 : lw_okq (⟨"ParoleLedgerModel", "canDeed", "(II)Z"⟩, 33) := ⟨⟨by decide +kernel, by decide +kernel⟩, List.mem_of_getElem? (i := 677) (by decide +kernel), List.mem_of_getElem? (i := 897) (by decide +kernel), List.mem_of_getElem? (i := 898) (by decide +kernel)⟩
theorem lw_p34 : lw_okq (⟨"ParoleLedgerModel", "isOut", "(I)Z"⟩, 33) := ⟨⟨by decide +kernel, by decide +kernel⟩, List.mem_of_getElem? (i := 677) (by decide +kernel), List.mem_of_getElem? (i := 901) (by decide +kernel), List.mem_of_getElem? (i := 902) (by decide +kernel)⟩
theorem lw_p35 : lw_okq (⟨"ParoleLedgerModel", "happen", "(II)V"⟩, 33) := ⟨⟨by decide +kernel, by decide +kernel⟩, List.mem_of_getElem? (i := 677) (by decide +kernel), List.mem_of_getElem? (i := 905) (by decide +kernel), List.mem_of_getElem? (i := 906) (by decide +kernel)⟩
theorem lw_p36 : lw_okq (⟨"ParoleLedgerModel", "breakWord", "(I)V"⟩, 33) := ⟨⟨by decide +kernel, by decide +kernel⟩, List.mem_of_getElem? (i := 677) (by decide +kernel), List.mem_of_getElem? (i := 909) (by decide +kernel), List.mem_of_getElem? (i := 910) (by decide +kernel)⟩
theorem lw_p37 : lw_okq (⟨"ParoleLedgerModel", "exchange", "(I)V"⟩, 33) := ⟨⟨by decide +kernel, by decide +kernel⟩, List.mem_of_getElem? (i := 677) (by decide +kernel), List.mem_of_getElem? (i := 913) (by decide +kernel), List.mem_of_getElem? (i := 914) (by decide +kernel)⟩
theorem lw_p38 : lw_okq (⟨"ParoleLedgerModel", "sumOpen", "(I)I"⟩, 33) := ⟨⟨by decide +kernel, by decide +kernel⟩, List.mem_of_getElem? (i := 677) (by decide +kernel), List.mem_of_getElem? (i := 917) (by decide +kernel), List.mem_of_getElem? (i := 918) (by decide +kernel)⟩
theorem lw_p39 : lw_okq (⟨"ParoleLedgerModel", "lay", "([I)V"⟩, 33) := ⟨⟨by decide +kernel, by decide +kernel⟩, List.mem_of_getElem? (i := 677) (by decide +kernel), List.mem_of_getElem? (i := 921) (by decide +kernel), List.mem_of_getElem? (i := 922) (by decide +kernel)⟩
theorem lw_p40 : lw_okq (⟨"ParoleLedgerModel", "findExchange", "(IZ)V"⟩, 33) := ⟨⟨by decide +kernel, by decide +kernel⟩, List.mem_of_getElem? (i := 677) (by decide +kernel), List.mem_of_getElem? (i := 945) (by decide +kernel), List.mem_of_getElem? (i := 946) (by decide +kernel)⟩
theorem lw_p41 : lw_okq (⟨"ParoleLedgerModel", "isBetter", "(IIZ)Z"⟩, 33) := ⟨⟨by decide +kernel, by decide +kernel⟩, List.mem_of_getElem? (i := 677) (by decide +kernel), List.mem_of_getElem? (i := 949) (by decide +kernel), List.mem_of_getElem? (i := 950) (by decide +kernel)⟩
theorem lw_p42 : lw_okq (⟨"ParoleLedgerModel", "canExchange", "(II)Z"⟩, 33) := ⟨⟨by decide +kernel, by decide +kernel⟩, List.mem_of_getElem? (i := 677) (by decide +kernel), List.mem_of_getElem? (i := 953) (by decide +kernel), List.mem_of_getElem? (i := 954) (by decide +kernel)⟩
theorem lw_p43 : lw_okq (⟨"ParoleLedgerModel", "isAllEven", "()Z"⟩, 33) := ⟨⟨by decide +kernel, by decide +kernel⟩, List.mem_of_getElem? (i := 677) (by decide +kernel), List.mem_of_getElem? (i := 969) (by decide +kernel), List.mem_of_getElem? (i := 970) (by decide +kernel)⟩
theorem lw_p44 : lw_okq (⟨"ParoleLedgerModel", "isNobodyOpen", "(I)Z"⟩, 33) := ⟨⟨by decide +kernel, by decide +kernel⟩, List.mem_of_getElem? (i := 677) (by decide +kernel), List.mem_of_getElem? (i := 973) (by decide +kernel), List.mem_of_getElem? (i := 974) (by decide +kernel)⟩
theorem lw_p45 : lw_okq (⟨"ParoleLedgerModel", "findWorlds", "()V"⟩, 33) := ⟨⟨by decide +kernel, by decide +kernel⟩, List.mem_of_getElem? (i := 677) (by decide +kernel), List.mem_of_getElem? (i := 994) (by decide +kernel), List.mem_of_getElem? (i := 995) (by decide +kernel)⟩
theorem lw_p46 : lw_okq (⟨"ParoleLedgerModel", "isWorld", "(I)Z"⟩, 33) := ⟨⟨by decide +kernel, by decide +kernel⟩, List.mem_of_getElem? (i := 677) (by decide +kernel), List.mem_of_getElem? (i := 998) (by decide +kernel), List.mem_of_getElem? (i := 999) (by decide +kernel)⟩
theorem lw_p47 : lw_okq (⟨"ParoleLedgerModel", "isEvenIn", "(III)Z"⟩, 33) := ⟨⟨by decide +kernel, by decide +kernel⟩, List.mem_of_getElem? (i := 677) (by decide +kernel), List.mem_of_getElem? (i := 1002) (by decide +kernel), List.mem_of_getElem? (i := 1003) (by decide +kernel)⟩
def lw_privs_3 : List (MethodName × Nat) := [(⟨"ParoleLedgerModel", "rateOf", "(I)I"⟩, 33), (⟨"ParoleLedgerModel", "canDeed", "(II)Z"⟩, 33), (⟨"ParoleLedgerModel", "isOut", "(I)Z"⟩, 33), (⟨"ParoleLedgerModel", "happen", "(II)V"⟩, 33), (⟨"ParoleLedgerModel", "breakWord", "(I)V"⟩, 33), (⟨"ParoleLedgerModel", "exchange", "(I)V"⟩, 33), (⟨"ParoleLedgerModel", "sumOpen", "(I)I"⟩, 33), (⟨"ParoleLedgerModel", "lay", "([I)V"⟩, 33), (⟨"ParoleLedgerModel", "findExchange", "(IZ)V"⟩, 33), (⟨"ParoleLedgerModel", "isBetter", "(IIZ)Z"⟩, 33), (⟨"ParoleLedgerModel", "canExchange", "(II)Z"⟩, 33), (⟨"ParoleLedgerModel", "isAllEven", "()Z"⟩, 33), (⟨"ParoleLedgerModel", "isNobodyOpen", "(I)Z"⟩, 33), (⟨"ParoleLedgerModel", "findWorlds", "()V"⟩, 33), (⟨"ParoleLedgerModel", "isWorld", "(I)Z"⟩, 33), (⟨"ParoleLedgerModel", "isEvenIn", "(III)Z"⟩, 33)]
theorem lw_r3 : ∀ q ∈ lw_privs_3, lw_okq q := List.forall_mem_cons.mpr ⟨lw_p32, List.forall_mem_cons.mpr ⟨lw_p33, List.forall_mem_cons.mpr ⟨lw_p34, List.forall_mem_cons.mpr ⟨lw_p35, List.forall_mem_cons.mpr ⟨lw_p36, List.forall_mem_cons.mpr ⟨lw_p37, List.forall_mem_cons.mpr ⟨lw_p38, List.forall_mem_cons.mpr ⟨lw_p39, List.forall_mem_cons.mpr ⟨lw_p40, List.forall_mem_cons.mpr ⟨lw_p41, List.forall_mem_cons.mpr ⟨lw_p42, List.forall_mem_cons.mpr ⟨lw_p43, List.forall_mem_cons.mpr ⟨lw_p44, List.forall_mem_cons.mpr ⟨lw_p45, List.forall_mem_cons.mpr ⟨lw_p46, List.forall_mem_cons.mpr ⟨lw_p47, fun _ h => absurd h List.not_mem_nil⟩⟩⟩⟩⟩⟩⟩⟩⟩⟩⟩⟩⟩⟩⟩⟩
theorem lw_p48 : lw_okq (⟨"ParoleLedgerModel", "rateIn", "(II)I"⟩, 33) := ⟨⟨by decide +kernel, by decide +kernel⟩, List.mem_of_getElem? (i := 677) (by decide +kernel), List.mem_of_getElem? (i := 1006) (by decide +kernel), List.mem_of_getElem? (i := 1007) (by decide +kernel)⟩
theorem lw_p49 : lw_okq (⟨"ParoleLedgerModel", "mostLeft", "(II)I"⟩, 33) := ⟨⟨by decide +kernel, by decide +kernel⟩, List.mem_of_getElem? (i := 677) (by decide +kernel), List.mem_of_getElem? (i := 1018) (by decide +kernel), List.mem_of_getElem? (i := 1019) (by decide +kernel)⟩
theorem lw_p50 : lw_okq (⟨"ParoleLedgerModel", "outOf", "(II)I"⟩, 33) := ⟨⟨by decide +kernel, by decide +kernel⟩, List.mem_of_getElem? (i := 677) (by decide +kernel), List.mem_of_getElem? (i := 1029) (by decide +kernel), List.mem_of_getElem? (i := 1030) (by decide +kernel)⟩
theorem lw_p51 : lw_okq (⟨"ParoleLedgerModel", "passAll", "()V"⟩, 33) := ⟨⟨by decide +kernel, by decide +kernel⟩, List.mem_of_getElem? (i := 677) (by decide +kernel), List.mem_of_getElem? (i := 1052) (by decide +kernel), List.mem_of_getElem? (i := 1053) (by decide +kernel)⟩
theorem lw_p52 : lw_okq (⟨"ParoleLedgerModel", "pass", "(I)I"⟩, 33) := ⟨⟨by decide +kernel, by decide +kernel⟩, List.mem_of_getElem? (i := 677) (by decide +kernel), List.mem_of_getElem? (i := 1056) (by decide +kernel), List.mem_of_getElem? (i := 1057) (by decide +kernel)⟩
def lw_privs_4 : List (MethodName × Nat) := [(⟨"ParoleLedgerModel", "rateIn", "(II)I"⟩, 33), (⟨"ParoleLedgerModel", "mostLeft", "(II)I"⟩, 33), (⟨"ParoleLedgerModel", "outOf", "(II)I"⟩, 33), (⟨"ParoleLedgerModel", "passAll", "()V"⟩, 33), (⟨"ParoleLedgerModel", "pass", "(I)I"⟩, 33)]
theorem lw_r4 : ∀ q ∈ lw_privs_4, lw_okq q := List.forall_mem_cons.mpr ⟨lw_p48, List.forall_mem_cons.mpr ⟨lw_p49, List.forall_mem_cons.mpr ⟨lw_p50, List.forall_mem_cons.mpr ⟨lw_p51, List.forall_mem_cons.mpr ⟨lw_p52, fun _ h => absurd h List.not_mem_nil⟩⟩⟩⟩⟩
def lw_privs : List (MethodName × Nat) := lw_privs_1 ++ (lw_privs_2 ++ (lw_privs_3 ++ (lw_privs_4)))
def lw_tbl : List Cond := k2_sels lw_privs ++ tables_1
theorem lw_privs_ok : ∀ q ∈ lw_privs, lw_okq q := by
  show ∀ q ∈ lw_privs_1 ++ (lw_privs_2 ++ (lw_privs_3 ++ (lw_privs_4))), lw_okq q
  exact List.forall_mem_append.mpr ⟨lw_r1, List.forall_mem_append.mpr ⟨lw_r2, List.forall_mem_append.mpr ⟨lw_r3, lw_r4⟩⟩⟩
def RX0 : String := "ParoleLedger$Books"
def TX0 : u_T := fun k => match k with
  | 0 => ("ParoleLedger$Books", "present", "I", false)
  | 1 => ("ParoleLedger$Books", "trust", "I", false)
  | 2 => ("ParoleLedger$Books", "sights", "I", false)
  | 3 => ("ParoleLedger$Books", "evenSights", "I", false)
  | 4 => ("ParoleLedger$Books", "ranks", "[I", true)
  | 5 => ("ParoleLedger$Books", "states", "[I", true)
  | 6 => ("ParoleLedger$Books", "rates", "[I", true)
  | _ => ("ParoleLedger$Books", "sightCrowds", "[I", true)
def tyX0 : Nat → FieldType := fun k => match k with
  | 0 => .int
  | 1 => .int
  | 2 => .int
  | 3 => .int
  | 4 => .array .int
  | 5 => .array .int
  | 6 => .array .int
  | _ => .array .int
abbrev wsX00 : List Cond := u_ws RX0 TX0 8
theorem nmX0 : ∀ a, a < 8 → ∀ b, b < 8 → a ≠ b → (TX0 a).2.1 ≠ (TX0 b).2.1 := by decide +kernel
theorem tyX0_ok : ∀ k, k < 8 → parseFieldDescriptor (TX0 k).2.2.1 = some (tyX0 k) := by decide +kernel
abbrev cX0_init : ByteArray := prog_2_method_1_code
def yX0_init : MethodName := ⟨RX0, "<init>", "()V"⟩
abbrev cX0_copyFrom : ByteArray := prog_2_method_2_code
def yX0_copyFrom : MethodName := ⟨RX0, "copyFrom", "(LParoleLedger$Books;)V"⟩
abbrev cX0_enter : ByteArray := prog_2_method_3_code
def yX0_enter : MethodName := ⟨RX0, "enter", "(II)V"⟩
abbrev cX0_isThere : ByteArray := prog_2_method_4_code
def yX0_isThere : MethodName := ⟨RX0, "isThere", "(I)Z"⟩
abbrev cX0_areThere : ByteArray := prog_2_method_5_code
def yX0_areThere : MethodName := ⟨RX0, "areThere", "(II)Z"⟩
abbrev cX0_crowdIn : ByteArray := prog_2_method_6_code
def yX0_crowdIn : MethodName := ⟨RX0, "crowdIn", "(I)I"⟩
abbrev cX0_lotIn : ByteArray := prog_2_method_7_code
def yX0_lotIn : MethodName := ⟨RX0, "lotIn", "(II)I"⟩
abbrev cX0_worth : ByteArray := prog_2_method_8_code
def yX0_worth : MethodName := ⟨RX0, "worth", "(I)I"⟩
abbrev cX0_lead : ByteArray := prog_2_method_9_code
def yX0_lead : MethodName := ⟨RX0, "lead", "(I)I"⟩
abbrev cX0_evenRate : ByteArray := prog_2_method_10_code
def yX0_evenRate : MethodName := ⟨RX0, "evenRate", "(I)I"⟩
abbrev cX0_addSight : ByteArray := prog_2_method_11_code
def yX0_addSight : MethodName := ⟨RX0, "addSight", "(IZ)V"⟩
abbrev cX0_whyNot : ByteArray := prog_2_method_12_code
def yX0_whyNot : MethodName := ⟨RX0, "whyNot", "(II)I"⟩
abbrev cX0_statesFor : ByteArray := prog_2_method_13_code
def yX0_statesFor : MethodName := ⟨RX0, "statesFor", "(I)I"⟩
abbrev cX0_whyNoExchange : ByteArray := prog_2_method_14_code
def yX0_whyNoExchange : MethodName := ⟨RX0, "whyNoExchange", "(IZ)I"⟩
abbrev cX0_carryOut : ByteArray := prog_2_method_15_code
def yX0_carryOut : MethodName := ⟨RX0, "carryOut", "(II)V"⟩
abbrev cX0_setFree : ByteArray := prog_2_method_16_code
def yX0_setFree : MethodName := ⟨RX0, "setFree", "(I)V"⟩
def RX1 : String := "ParoleLedger$Breaks"
def TX1 : u_T := fun k => match k with
  | 0 => ("ParoleLedger$Breaks", "ways", "[J", true)
  | 1 => ("ParoleLedger$Breaks", "officers", "I", false)
  | _ => ("ParoleLedger$Breaks", "allWays", "J", false)
def tyX1 : Nat → FieldType := fun k => match k with
  | 0 => .array .long
  | 1 => .int
  | _ => .long
abbrev wsX10 : List Cond := u_ws RX1 TX1 3
theorem nmX1 : ∀ a, a < 3 → ∀ b, b < 3 → a ≠ b → (TX1 a).2.1 ≠ (TX1 b).2.1 := by decide +kernel
theorem tyX1_ok : ∀ k, k < 3 → parseFieldDescriptor (TX1 k).2.2.1 = some (tyX1 k) := by decide +kernel
abbrev cX1_init : ByteArray := prog_3_method_1_code
def yX1_init : MethodName := ⟨RX1, "<init>", "()V"⟩
abbrev cX1_spread : ByteArray := prog_3_method_2_code
def yX1_spread : MethodName := ⟨RX1, "spread", "(II)V"⟩
abbrev cX1_waysToKeep : ByteArray := prog_3_method_3_code
def yX1_waysToKeep : MethodName := ⟨RX1, "waysToKeep", "(II)J"⟩
abbrev cX1_trustSum : ByteArray := prog_3_method_4_code
def yX1_trustSum : MethodName := ⟨RX1, "trustSum", "(I)J"⟩
abbrev cX1_lowestTerms : ByteArray := prog_3_method_5_code
def yX1_lowestTerms : MethodName := ⟨RX1, "lowestTerms", "(JI)J"⟩
abbrev cX1_commonDivisor : ByteArray := prog_3_method_6_code
def yX1_commonDivisor : MethodName := ⟨RX1, "commonDivisor", "(JJ)J"⟩
def RX2 : String := "ParoleLedger$Exchanges"
def TX2 : u_T := fun k => match k with
  | 0 => ("ParoleLedger$Exchanges", "bestOurs", "I", false)
  | 1 => ("ParoleLedger$Exchanges", "bestTheirs", "I", false)
  | 2 => ("ParoleLedger$Exchanges", "openOurs", "I", false)
  | 3 => ("ParoleLedger$Exchanges", "openTheirs", "I", false)
  | 4 => ("ParoleLedger$Exchanges", "oursWorth", "[I", true)
  | 5 => ("ParoleLedger$Exchanges", "theirsWorth", "[I", true)
  | 6 => ("ParoleLedger$Exchanges", "evenWith", "[J", true)
  | 7 => ("ParoleLedger$Exchanges", "room", "[J", true)
  | _ => ("ParoleLedger$Exchanges", "nextRoom", "[J", true)
def tyX2 : Nat → FieldType := fun k => match k with
  | 0 => .int
  | 1 => .int
  | 2 => .int
  | 3 => .int
  | 4 => .array .int
  | 5 => .array .int
  | 6 => .array .long
  | 7 => .array .long
  | _ => .array .long
abbrev wsX20 : List Cond := u_ws RX2 TX2 9
theorem nmX2 : ∀ a, a < 9 → ∀ b, b < 9 → a ≠ b → (TX2 a).2.1 ≠ (TX2 b).2.1 := by decide +kernel
theorem tyX2_ok : ∀ k, k < 9 → parseFieldDescriptor (TX2 k).2.2.1 = some (tyX2 k) := by decide +kernel
abbrev cX2_init : ByteArray := prog_4_method_1_code
def yX2_init : MethodName := ⟨RX2, "<init>", "()V"⟩
abbrev cX2_findForMost : ByteArray := prog_4_method_2_code
def yX2_findForMost : MethodName := ⟨RX2, "findForMost", "(LParoleLedger$Books;)V"⟩
abbrev cX2_findForOne : ByteArray := prog_4_method_3_code
def yX2_findForOne : MethodName := ⟨RX2, "findForOne", "(LParoleLedger$Books;I)V"⟩
abbrev cX2_answer : ByteArray := prog_4_method_4_code
def yX2_answer : MethodName := ⟨RX2, "answer", "(II)I"⟩
abbrev cX2_find : ByteArray := prog_4_method_5_code
def yX2_find : MethodName := ⟨RX2, "find", "(LParoleLedger$Books;IZ)V"⟩
abbrev cX2_bestWith : ByteArray := prog_4_method_6_code
def yX2_bestWith : MethodName := ⟨RX2, "bestWith", "(IZ)I"⟩
abbrev cX2_order : ByteArray := prog_4_method_7_code
def yX2_order : MethodName := ⟨RX2, "order", "(IIZ)I"⟩
abbrev cX2_weighLots : ByteArray := prog_4_method_8_code
def yX2_weighLots : MethodName := ⟨RX2, "weighLots", "(LParoleLedger$Books;)V"⟩
abbrev cX2_sumLots : ByteArray := prog_4_method_9_code
def yX2_sumLots : MethodName := ⟨RX2, "sumLots", "(LParoleLedger$Books;I[I)V"⟩
abbrev cX2_mostInARow : ByteArray := prog_4_method_10_code
def yX2_mostInARow : MethodName := ⟨RX2, "mostInARow", "(LParoleLedger$Books;)I"⟩
abbrev cX2_markEven : ByteArray := prog_4_method_11_code
def yX2_markEven : MethodName := ⟨RX2, "markEven", "()V"⟩
abbrev cX2_lotsEvenWith : ByteArray := prog_4_method_12_code
def yX2_lotsEvenWith : MethodName := ⟨RX2, "lotsEvenWith", "(I)J"⟩
abbrev cX2_makeRoomForOneMore : ByteArray := prog_4_method_13_code
def yX2_makeRoomForOneMore : MethodName := ⟨RX2, "makeRoomForOneMore", "()V"⟩
abbrev cX2_withGreaterLots : ByteArray := prog_4_method_14_code
def yX2_withGreaterLots : MethodName := ⟨RX2, "withGreaterLots", "(J)J"⟩
def RX3 : String := "ParoleLedger$Months"
def TX3 : u_T := fun k => match k with
  | 0 => ("ParoleLedger$Months", "books", "LParoleLedger$Books;", true)
  | 1 => ("ParoleLedger$Months", "acts", "I", false)
  | 2 => ("ParoleLedger$Months", "exchanged", "I", false)
  | 3 => ("ParoleLedger$Months", "why", "I", false)
  | 4 => ("ParoleLedger$Months", "named", "I", false)
  | 5 => ("ParoleLedger$Months", "inLots", "Z", false)
  | 6 => ("ParoleLedger$Months", "crowd", "I", false)
  | _ => ("ParoleLedger$Months", "toldTwice", "Z", false)
def tyX3 : Nat → FieldType := fun k => match k with
  | 0 => .object "ParoleLedger$Books"
  | 1 => .int
  | 2 => .int
  | 3 => .int
  | 4 => .int
  | 5 => .boolean
  | 6 => .int
  | _ => .boolean
abbrev wsX30 : List Cond := u_ws RX3 TX3 8
theorem nmX3 : ∀ a, a < 8 → ∀ b, b < 8 → a ≠ b → (TX3 a).2.1 ≠ (TX3 b).2.1 := by decide +kernel
theorem tyX3_ok : ∀ k, k < 8 → parseFieldDescriptor (TX3 k).2.2.1 = some (tyX3 k) := by decide +kernel
abbrev cX3_init : ByteArray := prog_5_method_1_code
def yX3_init : MethodName := ⟨RX3, "<init>", "()V"⟩
abbrev cX3_read : ByteArray := prog_5_method_2_code
def yX3_read : MethodName := ⟨RX3, "read", "(LParoleLedger$Books;LParoleLedger$Pad;)V"⟩
abbrev cX3_failedAct : ByteArray := prog_5_method_3_code
def yX3_failedAct : MethodName := ⟨RX3, "failedAct", "()I"⟩
abbrev cX3_failedWhy : ByteArray := prog_5_method_4_code
def yX3_failedWhy : MethodName := ⟨RX3, "failedWhy", "()I"⟩
abbrev cX3_take : ByteArray := prog_5_method_5_code
def yX3_take : MethodName := ⟨RX3, "take", "(I)V"⟩
abbrev cX3_gather : ByteArray := prog_5_method_6_code
def yX3_gather : MethodName := ⟨RX3, "gather", "(I)V"⟩
abbrev cX3_endExchange : ByteArray := prog_5_method_7_code
def yX3_endExchange : MethodName := ⟨RX3, "endExchange", "()V"⟩
abbrev cX3_endDeed : ByteArray := prog_5_method_8_code
def yX3_endDeed : MethodName := ⟨RX3, "endDeed", "(I)V"⟩
def RX4 : String := "ParoleLedger$Pad"
def TX4 : u_T := fun k => match k with
  | 0 => ("ParoleLedger$Pad", "signs", "[I", true)
  | _ => ("ParoleLedger$Pad", "count", "I", false)
def tyX4 : Nat → FieldType := fun k => match k with
  | 0 => .array .int
  | _ => .int
abbrev wsX40 : List Cond := u_ws RX4 TX4 2
theorem nmX4 : ∀ a, a < 2 → ∀ b, b < 2 → a ≠ b → (TX4 a).2.1 ≠ (TX4 b).2.1 := by decide +kernel
theorem tyX4_ok : ∀ k, k < 2 → parseFieldDescriptor (TX4 k).2.2.1 = some (tyX4 k) := by decide +kernel
abbrev cX4_init : ByteArray := prog_6_method_1_code
def yX4_init : MethodName := ⟨RX4, "<init>", "()V"⟩
abbrev cX4_write : ByteArray := prog_6_method_2_code
def yX4_write : MethodName := ⟨RX4, "write", "(I)V"⟩
abbrev cX4_firstFault : ByteArray := prog_6_method_3_code
def yX4_firstFault : MethodName := ⟨RX4, "firstFault", "()I"⟩
abbrev cX4_next : ByteArray := prog_6_method_4_code
def yX4_next : MethodName := ⟨RX4, "next", "(II)I"⟩
abbrev cX4_officerOf : ByteArray := prog_6_method_5_code
def yX4_officerOf : MethodName := ⟨RX4, "officerOf", "(I)I"⟩
abbrev cX4_deedOf : ByteArray := prog_6_method_6_code
def yX4_deedOf : MethodName := ⟨RX4, "deedOf", "(I)I"⟩
def RX5 : String := "ParoleLedger$Rests"
def TX5 : u_T := fun k => match k with
  | 0 => ("ParoleLedger$Rests", "sets", "I", false)
  | 1 => ("ParoleLedger$Rests", "fewest", "I", false)
  | _ => ("ParoleLedger$Rests", "most", "I", false)
def tyX5 : Nat → FieldType := fun k => match k with
  | 0 => .int
  | 1 => .int
  | _ => .int
abbrev wsX50 : List Cond := u_ws RX5 TX5 3
theorem nmX5 : ∀ a, a < 3 → ∀ b, b < 3 → a ≠ b → (TX5 a).2.1 ≠ (TX5 b).2.1 := by decide +kernel
theorem tyX5_ok : ∀ k, k < 3 → parseFieldDescriptor (TX5 k).2.2.1 = some (tyX5 k) := by decide +kernel
abbrev cX5_init : ByteArray := prog_7_method_1_code
def yX5_init : MethodName := ⟨RX5, "<init>", "()V"⟩
abbrev cX5_count : ByteArray := prog_7_method_2_code
def yX5_count : MethodName := ⟨RX5, "count", "(III)V"⟩
def RX6 : String := "ParoleLedger$Worlds"
def TX6 : u_T := fun k => match k with
  | 0 => ("ParoleLedger$Worlds", "count", "I", false)
  | 1 => ("ParoleLedger$Worlds", "bestPair", "I", false)
  | 2 => ("ParoleLedger$Worlds", "bestLeft", "I", false)
  | 3 => ("ParoleLedger$Worlds", "who", "[I", true)
  | 4 => ("ParoleLedger$Worlds", "had", "[I", true)
  | _ => ("ParoleLedger$Worlds", "leads", "[I", true)
def tyX6 : Nat → FieldType := fun k => match k with
  | 0 => .int
  | 1 => .int
  | 2 => .int
  | 3 => .array .int
  | 4 => .array .int
  | _ => .array .int
abbrev wsX60 : List Cond := u_ws RX6 TX6 6
theorem nmX6 : ∀ a, a < 6 → ∀ b, b < 6 → a ≠ b → (TX6 a).2.1 ≠ (TX6 b).2.1 := by decide +kernel
theorem tyX6_ok : ∀ k, k < 6 → parseFieldDescriptor (TX6 k).2.2.1 = some (tyX6 k) := by decide +kernel
abbrev cX6_init : ByteArray := prog_8_method_1_code
def yX6_init : MethodName := ⟨RX6, "<init>", "()V"⟩
abbrev cX6_find : ByteArray := prog_8_method_2_code
def yX6_find : MethodName := ⟨RX6, "find", "(LParoleLedger$Books;)V"⟩
abbrev cX6_addIfFits : ByteArray := prog_8_method_3_code
def yX6_addIfFits : MethodName := ⟨RX6, "addIfFits", "(LParoleLedger$Books;II)V"⟩
abbrev cX6_forgers : ByteArray := prog_8_method_4_code
def yX6_forgers : MethodName := ⟨RX6, "forgers", "()I"⟩
abbrev cX6_leastRank : ByteArray := prog_8_method_5_code
def yX6_leastRank : MethodName := ⟨RX6, "leastRank", "(I)I"⟩
abbrev cX6_choosePair : ByteArray := prog_8_method_6_code
def yX6_choosePair : MethodName := ⟨RX6, "choosePair", "(LParoleLedger$Books;)V"⟩
abbrev cX6_offerPair : ByteArray := prog_8_method_7_code
def yX6_offerPair : MethodName := ⟨RX6, "offerPair", "(II)V"⟩
abbrev cX6_mostLeft : ByteArray := prog_8_method_8_code
def yX6_mostLeft : MethodName := ⟨RX6, "mostLeft", "(LParoleLedger$Books;II)I"⟩
abbrev cX6_worthIn : ByteArray := prog_8_method_9_code
def yX6_worthIn : MethodName := ⟨RX6, "worthIn", "(LParoleLedger$Books;II)I"⟩
def RX7 : String := "ParoleLedger$Year"
def TX7 : u_T := fun k => match k with
  | 0 => ("ParoleLedger$Year", "books", "LParoleLedger$Books;", true)
  | 1 => ("ParoleLedger$Year", "exchanged", "I", false)
  | _ => ("ParoleLedger$Year", "brokenWords", "I", false)
def tyX7 : Nat → FieldType := fun k => match k with
  | 0 => .object "ParoleLedger$Books"
  | 1 => .int
  | _ => .int
abbrev wsX70 : List Cond := u_ws RX7 TX7 3
theorem nmX7 : ∀ a, a < 3 → ∀ b, b < 3 → a ≠ b → (TX7 a).2.1 ≠ (TX7 b).2.1 := by decide +kernel
theorem tyX7_ok : ∀ k, k < 3 → parseFieldDescriptor (TX7 k).2.2.1 = some (tyX7 k) := by decide +kernel
abbrev cX7_init : ByteArray := prog_9_method_1_code
def yX7_init : MethodName := ⟨RX7, "<init>", "()V"⟩
abbrev cX7_pass : ByteArray := prog_9_method_2_code
def yX7_pass : MethodName := ⟨RX7, "pass", "(LParoleLedger$Books;II)V"⟩
abbrev cX7_draw : ByteArray := prog_9_method_3_code
def yX7_draw : MethodName := ⟨RX7, "draw", "(I)V"⟩
abbrev cX7_tryDeed : ByteArray := prog_9_method_4_code
def yX7_tryDeed : MethodName := ⟨RX7, "tryDeed", "(II)V"⟩
abbrev cX7_tryExchange : ByteArray := prog_9_method_5_code
def yX7_tryExchange : MethodName := ⟨RX7, "tryExchange", "(I)V"⟩
def RX8 : String := "ParoleLedger"
def TX8 : u_T := fun k => match k with
  | 0 => ("ParoleLedger", "now", "LParoleLedger$Books;", true)
  | 1 => ("ParoleLedger", "pad", "LParoleLedger$Pad;", true)
  | 2 => ("ParoleLedger", "months", "LParoleLedger$Months;", true)
  | 3 => ("ParoleLedger", "exchanges", "LParoleLedger$Exchanges;", true)
  | 4 => ("ParoleLedger", "worlds", "LParoleLedger$Worlds;", true)
  | 5 => ("ParoleLedger", "breaks", "LParoleLedger$Breaks;", true)
  | 6 => ("ParoleLedger", "resting", "LParoleLedger$Rests;", true)
  | 7 => ("ParoleLedger", "course", "LParoleLedger$Year;", true)
  | 8 => ("ParoleLedger", "images", "[LParoleLedger$Books;", true)
  | _ => ("ParoleLedger", "kept", "[Z", true)
def tyX8 : Nat → FieldType := fun k => match k with
  | 0 => .object "ParoleLedger$Books"
  | 1 => .object "ParoleLedger$Pad"
  | 2 => .object "ParoleLedger$Months"
  | 3 => .object "ParoleLedger$Exchanges"
  | 4 => .object "ParoleLedger$Worlds"
  | 5 => .object "ParoleLedger$Breaks"
  | 6 => .object "ParoleLedger$Rests"
  | 7 => .object "ParoleLedger$Year"
  | 8 => .array (.object "ParoleLedger$Books")
  | _ => .array .boolean
abbrev wsX80 : List Cond := u_ws RX8 TX8 10
theorem nmX8 : ∀ a, a < 10 → ∀ b, b < 10 → a ≠ b → (TX8 a).2.1 ≠ (TX8 b).2.1 := by decide +kernel
theorem tyX8_ok : ∀ k, k < 10 → parseFieldDescriptor (TX8 k).2.2.1 = some (tyX8 k) := by decide +kernel
abbrev cX8_init : ByteArray := prog_1_method_1_code
def yX8_init : MethodName := ⟨RX8, "<init>", "()V"⟩
abbrev cX8_officer : ByteArray := prog_1_method_2_code
def yX8_officer : MethodName := ⟨RX8, "officer", "(II)I"⟩
abbrev cX8_leave : ByteArray := prog_1_method_3_code
def yX8_leave : MethodName := ⟨RX8, "leave", "(I)I"⟩
abbrev cX8_rate : ByteArray := prog_1_method_4_code
def yX8_rate : MethodName := ⟨RX8, "rate", "(II)I"⟩
abbrev cX8_trust : ByteArray := prog_1_method_5_code
def yX8_trust : MethodName := ⟨RX8, "trust", "(I)I"⟩
abbrev cX8_say : ByteArray := prog_1_method_6_code
def yX8_say : MethodName := ⟨RX8, "say", "(I)I"⟩
abbrev cX8_wipe : ByteArray := prog_1_method_7_code
def yX8_wipe : MethodName := ⟨RX8, "wipe", "()I"⟩
abbrev cX8_fault : ByteArray := prog_1_method_8_code
def yX8_fault : MethodName := ⟨RX8, "fault", "()I"⟩
abbrev cX8_judge : ByteArray := prog_1_method_9_code
def yX8_judge : MethodName := ⟨RX8, "judge", "(I)I"⟩
abbrev cX8_behind : ByteArray := prog_1_method_10_code
def yX8_behind : MethodName := ⟨RX8, "behind", "(II)I"⟩
abbrev cX8_ledger : ByteArray := prog_1_method_11_code
def yX8_ledger : MethodName := ⟨RX8, "ledger", "(I)I"⟩
abbrev cX8_done : ByteArray := prog_1_method_12_code
def yX8_done : MethodName := ⟨RX8, "done", "()I"⟩
abbrev cX8_owed : ByteArray := prog_1_method_13_code
def yX8_owed : MethodName := ⟨RX8, "owed", "()I"⟩
abbrev cX8_home : ByteArray := prog_1_method_14_code
def yX8_home : MethodName := ⟨RX8, "home", "(I)I"⟩
abbrev cX8_bring : ByteArray := prog_1_method_15_code
def yX8_bring : MethodName := ⟨RX8, "bring", "(II)I"⟩
abbrev cX8_lots : ByteArray := prog_1_method_16_code
def yX8_lots : MethodName := ⟨RX8, "lots", "()I"⟩
abbrev cX8_even : ByteArray := prog_1_method_17_code
def yX8_even : MethodName := ⟨RX8, "even", "()I"⟩
abbrev cX8_fair : ByteArray := prog_1_method_18_code
def yX8_fair : MethodName := ⟨RX8, "fair", "(I)I"⟩
abbrev cX8_seen : ByteArray := prog_1_method_19_code
def yX8_seen : MethodName := ⟨RX8, "seen", "(IIZ)I"⟩
abbrev cX8_forget : ByteArray := prog_1_method_20_code
def yX8_forget : MethodName := ⟨RX8, "forget", "()I"⟩
abbrev cX8_forged : ByteArray := prog_1_method_21_code
def yX8_forged : MethodName := ⟨RX8, "forged", "(I)I"⟩
abbrev cX8_rank : ByteArray := prog_1_method_22_code
def yX8_rank : MethodName := ⟨RX8, "rank", "(I)I"⟩
abbrev cX8_weigh : ByteArray := prog_1_method_23_code
def yX8_weigh : MethodName := ⟨RX8, "weigh", "(I)I"⟩
abbrev cX8_broken : ByteArray := prog_1_method_24_code
def yX8_broken : MethodName := ⟨RX8, "broken", "(III)J"⟩
abbrev cX8_rests : ByteArray := prog_1_method_25_code
def yX8_rests : MethodName := ⟨RX8, "rests", "(IIII)I"⟩
abbrev cX8_year : ByteArray := prog_1_method_26_code
def yX8_year : MethodName := ⟨RX8, "year", "(III)I"⟩
abbrev cX8_image : ByteArray := prog_1_method_27_code
def yX8_image : MethodName := ⟨RX8, "image", "(I)I"⟩
abbrev cX8_restore : ByteArray := prog_1_method_28_code
def yX8_restore : MethodName := ⟨RX8, "restore", "(I)I"⟩
abbrev cX8_told : ByteArray := prog_1_method_29_code
def yX8_told : MethodName := ⟨RX8, "told", "(I)I"⟩
abbrev cX8_toldCount : ByteArray := prog_1_method_30_code
def yX8_toldCount : MethodName := ⟨RX8, "toldCount", "(I)I"⟩
abbrev cX8_readMonths : ByteArray := prog_1_method_31_code
def yX8_readMonths : MethodName := ⟨RX8, "readMonths", "()I"⟩
abbrev cX8_bothSidesOpen : ByteArray := prog_1_method_32_code
def yX8_bothSidesOpen : MethodName := ⟨RX8, "bothSidesOpen", "()Z"⟩
abbrev cX8_isWithin : ByteArray := prog_1_method_33_code
def yX8_isWithin : MethodName := ⟨RX8, "isWithin", "(III)Z"⟩
def RX9 : String := "ParoleLedgerModel"
def TX9 : u_T := fun k => match k with
  | 0 => ("ParoleLedgerModel", "officers", "I", false)
  | 1 => ("ParoleLedgerModel", "trusted", "I", false)
  | 2 => ("ParoleLedgerModel", "ranks", "[I", true)
  | 3 => ("ParoleLedgerModel", "is", "[I", true)
  | 4 => ("ParoleLedgerModel", "rates", "[I", true)
  | 5 => ("ParoleLedgerModel", "sightOurs", "[I", true)
  | 6 => ("ParoleLedgerModel", "sightTheirs", "[I", true)
  | 7 => ("ParoleLedgerModel", "sightEven", "[I", true)
  | 8 => ("ParoleLedgerModel", "sights", "I", false)
  | 9 => ("ParoleLedgerModel", "pad", "[I", true)
  | 10 => ("ParoleLedgerModel", "padMany", "I", false)
  | 11 => ("ParoleLedgerModel", "act", "[I", true)
  | 12 => ("ParoleLedgerModel", "lot", "[I", true)
  | 13 => ("ParoleLedgerModel", "twice", "[I", true)
  | 14 => ("ParoleLedgerModel", "acts", "I", false)
  | 15 => ("ParoleLedgerModel", "exchanges", "I", false)
  | 16 => ("ParoleLedgerModel", "brokenWords", "I", false)
  | 17 => ("ParoleLedgerModel", "had", "[I", true)
  | 18 => ("ParoleLedgerModel", "leaves", "[I", true)
  | 19 => ("ParoleLedgerModel", "badAct", "I", false)
  | 20 => ("ParoleLedgerModel", "badWhy", "I", false)
  | 21 => ("ParoleLedgerModel", "oursThen", "I", false)
  | 22 => ("ParoleLedgerModel", "theirsThen", "I", false)
  | 23 => ("ParoleLedgerModel", "bestOurs", "I", false)
  | 24 => ("ParoleLedgerModel", "bestTheirs", "I", false)
  | 25 => ("ParoleLedgerModel", "evens", "[I", true)
  | 26 => ("ParoleLedgerModel", "worldAt", "[I", true)
  | 27 => ("ParoleLedgerModel", "worlds", "I", false)
  | 28 => ("ParoleLedgerModel", "parts", "[J", true)
  | 29 => ("ParoleLedgerModel", "kept", "[I", true)
  | 30 => ("ParoleLedgerModel", "isKept", "[Z", true)
  | 31 => ("ParoleLedgerModel", "keptAt", "I", false)
  | _ => ("ParoleLedgerModel", "isWriting", "Z", false)
def tyX9 : Nat → FieldType := fun k => match k with
  | 0 => .int
  | 1 => .int
  | 2 => .array .int
  | 3 => .array .int
  | 4 => .array .int
  | 5 => .array .int
  | 6 => .array .int
  | 7 => .array .int
  | 8 => .int
  | 9 => .array .int
  | 10 => .int
  | 11 => .array .int
  | 12 => .array .int
  | 13 => .array .int
  | 14 => .int
  | 15 => .int
  | 16 => .int
  | 17 => .array .int
  | 18 => .array .int
  | 19 => .int
  | 20 => .int
  | 21 => .int
  | 22 => .int
  | 23 => .int
  | 24 => .int
  | 25 => .array .int
  | 26 => .array .int
  | 27 => .int
  | 28 => .array .long
  | 29 => .array .int
  | 30 => .array .boolean
  | 31 => .int
  | _ => .boolean
abbrev wsX90 : List Cond := u_ws RX9 TX9 33
theorem nmX9 : ∀ a, a < 33 → ∀ b, b < 33 → a ≠ b → (TX9 a).2.1 ≠ (TX9 b).2.1 := by decide +kernel
theorem tyX9_ok : ∀ k, k < 33 → parseFieldDescriptor (TX9 k).2.2.1 = some (tyX9 k) := by decide +kernel
abbrev cX9_init : ByteArray := prog_11_method_1_code
def yX9_init : MethodName := ⟨RX9, "<init>", "()V"⟩
abbrev cX9_in : ByteArray := prog_11_method_3_code
def yX9_in : MethodName := ⟨RX9, "in", "(JJJ)Z"⟩
abbrev cX9_ones : ByteArray := prog_11_method_4_code
def yX9_ones : MethodName := ⟨RX9, "ones", "(I)I"⟩
abbrev cX9_isOfficer : ByteArray := prog_11_method_5_code
def yX9_isOfficer : MethodName := ⟨RX9, "isOfficer", "(I)Z"⟩
abbrev cX9_isRank : ByteArray := prog_11_method_6_code
def yX9_isRank : MethodName := ⟨RX9, "isRank", "(I)Z"⟩
abbrev cX9_officer : ByteArray := prog_11_method_7_code
def yX9_officer : MethodName := ⟨RX9, "officer", "(II)I"⟩
abbrev cX9_leave : ByteArray := prog_11_method_8_code
def yX9_leave : MethodName := ⟨RX9, "leave", "(I)I"⟩
abbrev cX9_rate : ByteArray := prog_11_method_9_code
def yX9_rate : MethodName := ⟨RX9, "rate", "(II)I"⟩
abbrev cX9_trust : ByteArray := prog_11_method_10_code
def yX9_trust : MethodName := ⟨RX9, "trust", "(I)I"⟩
abbrev cX9_say : ByteArray := prog_11_method_11_code
def yX9_say : MethodName := ⟨RX9, "say", "(I)I"⟩
abbrev cX9_wipe : ByteArray := prog_11_method_12_code
def yX9_wipe : MethodName := ⟨RX9, "wipe", "()I"⟩
abbrev cX9_ours : ByteArray := prog_11_method_13_code
def yX9_ours : MethodName := ⟨RX9, "ours", "(I)I"⟩
abbrev cX9_theirs : ByteArray := prog_11_method_14_code
def yX9_theirs : MethodName := ⟨RX9, "theirs", "(I)I"⟩
abbrev cX9_add : ByteArray := prog_11_method_15_code
def yX9_add : MethodName := ⟨RX9, "add", "(I)V"⟩
abbrev cX9_begin : ByteArray := prog_11_method_16_code
def yX9_begin : MethodName := ⟨RX9, "begin", "(I)I"⟩
abbrev cX9_deed : ByteArray := prog_11_method_17_code
def yX9_deed : MethodName := ⟨RX9, "deed", "(I)I"⟩
abbrev cX9_inLots : ByteArray := prog_11_method_18_code
def yX9_inLots : MethodName := ⟨RX9, "inLots", "(II)I"⟩
abbrev cX9_fault : ByteArray := prog_11_method_19_code
def yX9_fault : MethodName := ⟨RX9, "fault", "()I"⟩
abbrev cX9_rateOf : ByteArray := prog_11_method_20_code
def yX9_rateOf : MethodName := ⟨RX9, "rateOf", "(I)I"⟩
abbrev cX9_isOpen : ByteArray := prog_11_method_21_code
def yX9_isOpen : MethodName := ⟨RX9, "isOpen", "(I)Z"⟩
abbrev cX9_isOut : ByteArray := prog_11_method_22_code
def yX9_isOut : MethodName := ⟨RX9, "isOut", "(I)Z"⟩
abbrev cX9_worthOf : ByteArray := prog_11_method_23_code
def yX9_worthOf : MethodName := ⟨RX9, "worthOf", "(I)I"⟩
abbrev cX9_areAllOpen : ByteArray := prog_11_method_24_code
def yX9_areAllOpen : MethodName := ⟨RX9, "areAllOpen", "(I)Z"⟩
abbrev cX9_only : ByteArray := prog_11_method_25_code
def yX9_only : MethodName := ⟨RX9, "only", "(I)I"⟩
abbrev cX9_canDeed : ByteArray := prog_11_method_26_code
def yX9_canDeed : MethodName := ⟨RX9, "canDeed", "(II)Z"⟩
abbrev cX9_whyNot : ByteArray := prog_11_method_27_code
def yX9_whyNot : MethodName := ⟨RX9, "whyNot", "(III)I"⟩
abbrev cX9_breakWord : ByteArray := prog_11_method_28_code
def yX9_breakWord : MethodName := ⟨RX9, "breakWord", "(I)V"⟩
abbrev cX9_exchange : ByteArray := prog_11_method_29_code
def yX9_exchange : MethodName := ⟨RX9, "exchange", "(I)V"⟩
abbrev cX9_happen : ByteArray := prog_11_method_30_code
def yX9_happen : MethodName := ⟨RX9, "happen", "(II)V"⟩
abbrev cX9_store : ByteArray := prog_11_method_31_code
def yX9_store : MethodName := ⟨RX9, "store", "([I)V"⟩
abbrev cX9_lay : ByteArray := prog_11_method_32_code
def yX9_lay : MethodName := ⟨RX9, "lay", "([I)V"⟩
abbrev cX9_goMonths : ByteArray := prog_11_method_33_code
def yX9_goMonths : MethodName := ⟨RX9, "goMonths", "()V"⟩
abbrev cX9_sumOpen : ByteArray := prog_11_method_34_code
def yX9_sumOpen : MethodName := ⟨RX9, "sumOpen", "(I)I"⟩
abbrev cX9_refusal : ByteArray := prog_11_method_35_code
def yX9_refusal : MethodName := ⟨RX9, "refusal", "()I"⟩
abbrev cX9_judge : ByteArray := prog_11_method_36_code
def yX9_judge : MethodName := ⟨RX9, "judge", "(I)I"⟩
abbrev cX9_behind : ByteArray := prog_11_method_37_code
def yX9_behind : MethodName := ⟨RX9, "behind", "(II)I"⟩
abbrev cX9_ledger : ByteArray := prog_11_method_38_code
def yX9_ledger : MethodName := ⟨RX9, "ledger", "(I)I"⟩
abbrev cX9_done : ByteArray := prog_11_method_39_code
def yX9_done : MethodName := ⟨RX9, "done", "()I"⟩
abbrev cX9_owed : ByteArray := prog_11_method_40_code
def yX9_owed : MethodName := ⟨RX9, "owed", "()I"⟩
abbrev cX9_canExchange : ByteArray := prog_11_method_41_code
def yX9_canExchange : MethodName := ⟨RX9, "canExchange", "(II)Z"⟩
abbrev cX9_isBetter : ByteArray := prog_11_method_42_code
def yX9_isBetter : MethodName := ⟨RX9, "isBetter", "(IIZ)Z"⟩
abbrev cX9_findExchange : ByteArray := prog_11_method_43_code
def yX9_findExchange : MethodName := ⟨RX9, "findExchange", "(IZ)V"⟩
abbrev cX9_home : ByteArray := prog_11_method_44_code
def yX9_home : MethodName := ⟨RX9, "home", "(I)I"⟩
abbrev cX9_bring : ByteArray := prog_11_method_45_code
def yX9_bring : MethodName := ⟨RX9, "bring", "(II)I"⟩
abbrev cX9_lots : ByteArray := prog_11_method_46_code
def yX9_lots : MethodName := ⟨RX9, "lots", "()I"⟩
abbrev cX9_isNobodyOpen : ByteArray := prog_11_method_47_code
def yX9_isNobodyOpen : MethodName := ⟨RX9, "isNobodyOpen", "(I)Z"⟩
abbrev cX9_isAllEven : ByteArray := prog_11_method_48_code
def yX9_isAllEven : MethodName := ⟨RX9, "isAllEven", "()Z"⟩
abbrev cX9_even : ByteArray := prog_11_method_49_code
def yX9_even : MethodName := ⟨RX9, "even", "()I"⟩
abbrev cX9_fair : ByteArray := prog_11_method_50_code
def yX9_fair : MethodName := ⟨RX9, "fair", "(I)I"⟩
abbrev cX9_seen : ByteArray := prog_11_method_51_code
def yX9_seen : MethodName := ⟨RX9, "seen", "(IIZ)I"⟩
abbrev cX9_forget : ByteArray := prog_11_method_52_code
def yX9_forget : MethodName := ⟨RX9, "forget", "()I"⟩
abbrev cX9_rateIn : ByteArray := prog_11_method_53_code
def yX9_rateIn : MethodName := ⟨RX9, "rateIn", "(II)I"⟩
abbrev cX9_isEvenIn : ByteArray := prog_11_method_54_code
def yX9_isEvenIn : MethodName := ⟨RX9, "isEvenIn", "(III)Z"⟩
abbrev cX9_isWorld : ByteArray := prog_11_method_55_code
def yX9_isWorld : MethodName := ⟨RX9, "isWorld", "(I)Z"⟩
abbrev cX9_findWorlds : ByteArray := prog_11_method_56_code
def yX9_findWorlds : MethodName := ⟨RX9, "findWorlds", "()V"⟩
abbrev cX9_forged : ByteArray := prog_11_method_57_code
def yX9_forged : MethodName := ⟨RX9, "forged", "(I)I"⟩
abbrev cX9_rank : ByteArray := prog_11_method_58_code
def yX9_rank : MethodName := ⟨RX9, "rank", "(I)I"⟩
abbrev cX9_mostLeft : ByteArray := prog_11_method_59_code
def yX9_mostLeft : MethodName := ⟨RX9, "mostLeft", "(II)I"⟩
abbrev cX9_weigh : ByteArray := prog_11_method_60_code
def yX9_weigh : MethodName := ⟨RX9, "weigh", "(I)I"⟩
abbrev cX9_outOf : ByteArray := prog_11_method_61_code
def yX9_outOf : MethodName := ⟨RX9, "outOf", "(II)I"⟩
abbrev cX9_lowest : ByteArray := prog_11_method_62_code
def yX9_lowest : MethodName := ⟨RX9, "lowest", "(JJI)J"⟩
abbrev cX9_broken : ByteArray := prog_11_method_63_code
def yX9_broken : MethodName := ⟨RX9, "broken", "(III)J"⟩
abbrev cX9_rests : ByteArray := prog_11_method_64_code
def yX9_rests : MethodName := ⟨RX9, "rests", "(IIII)I"⟩
abbrev cX9_year : ByteArray := prog_11_method_65_code
def yX9_year : MethodName := ⟨RX9, "year", "(III)I"⟩
abbrev cX9_pass : ByteArray := prog_11_method_66_code
def yX9_pass : MethodName := ⟨RX9, "pass", "(I)I"⟩
abbrev cX9_passAll : ByteArray := prog_11_method_67_code
def yX9_passAll : MethodName := ⟨RX9, "passAll", "()V"⟩
abbrev cX9_image : ByteArray := prog_11_method_68_code
def yX9_image : MethodName := ⟨RX9, "image", "(I)I"⟩
abbrev cX9_restore : ByteArray := prog_11_method_69_code
def yX9_restore : MethodName := ⟨RX9, "restore", "(I)I"⟩
abbrev cX9_told : ByteArray := prog_11_method_70_code
def yX9_told : MethodName := ⟨RX9, "told", "(I)I"⟩
def RJ6 : String := "java/lang/Integer"
def TJ6 : u_T := fun k => match k with
  | _ => ("", "", "", false)
def tyJ6 : Nat → FieldType := fun k => match k with
  | _ => .int
abbrev wsJ60 : List Cond := u_ws RJ6 TJ6 0
theorem nmJ6 : ∀ a, a < 0 → ∀ b, b < 0 → a ≠ b → (TJ6 a).2.1 ≠ (TJ6 b).2.1 := by decide +kernel
theorem tyJ6_ok : ∀ k, k < 0 → parseFieldDescriptor (TJ6 k).2.2.1 = some (tyJ6 k) := by decide +kernel
abbrev cJ6_bitCount_0f7a4 : ByteArray := prog_12_method_49_code
def yJ6_bitCount_0f7a4 : MethodName := ⟨RJ6, "bitCount", "(I)I"⟩
def RJ9 : String := "java/lang/Math"
def TJ9 : u_T := fun k => match k with
  | _ => ("", "", "", false)
def tyJ9 : Nat → FieldType := fun k => match k with
  | _ => .int
abbrev wsJ90 : List Cond := u_ws RJ9 TJ9 0
theorem nmJ9 : ∀ a, a < 0 → ∀ b, b < 0 → a ≠ b → (TJ9 a).2.1 ≠ (TJ9 b).2.1 := by decide +kernel
theorem tyJ9_ok : ∀ k, k < 0 → parseFieldDescriptor (TJ9 k).2.2.1 = some (tyJ9 k) := by decide +kernel
abbrev cJ9_abs_0f7a4 : ByteArray := prog_13_method_59_code
def yJ9_abs_0f7a4 : MethodName := ⟨RJ9, "abs", "(I)I"⟩
abbrev cJ9_max_7cf53 : ByteArray := prog_13_method_65_code
def yJ9_max_7cf53 : MethodName := ⟨RJ9, "max", "(II)I"⟩
abbrev cJ9_min_7cf53 : ByteArray := prog_13_method_69_code
def yJ9_min_7cf53 : MethodName := ⟨RJ9, "min", "(II)I"⟩
def RJ10 : String := "java/lang/System"
def TJ10 : u_T := fun k => match k with
  | _ => ("", "", "", false)
def tyJ10 : Nat → FieldType := fun k => match k with
  | _ => .int
abbrev wsJ100 : List Cond := u_ws RJ10 TJ10 0
theorem nmJ10 : ∀ a, a < 0 → ∀ b, b < 0 → a ≠ b → (TJ10 a).2.1 ≠ (TJ10 b).2.1 := by decide +kernel
theorem tyJ10_ok : ∀ k, k < 0 → parseFieldDescriptor (TJ10 k).2.2.1 = some (tyJ10 k) := by decide +kernel
def RJ7 : String := "java/util/Arrays"
def TJ7 : u_T := fun k => match k with
  | _ => ("", "", "", false)
def tyJ7 : Nat → FieldType := fun k => match k with
  | _ => .int
abbrev wsJ70 : List Cond := u_ws RJ7 TJ7 0
theorem nmJ7 : ∀ a, a < 0 → ∀ b, b < 0 → a ≠ b → (TJ7 a).2.1 ≠ (TJ7 b).2.1 := by decide +kernel
theorem tyJ7_ok : ∀ k, k < 0 → parseFieldDescriptor (TJ7 k).2.2.1 = some (tyJ7 k) := by decide +kernel
abbrev cJ7_fill_d0a16 : ByteArray := prog_15_method_101_code
def yJ7_fill_d0a16 : MethodName := ⟨RJ7, "fill", "([JJ)V"⟩
def RL : String := "ParoleLedgerLaw"
abbrev cL_law : ByteArray := code
def yL_law : MethodName := ⟨RL, "law", "([I)Z"⟩
abbrev vwCl : List vw_C := [(RX0, TX0, 8), (RX1, TX1, 3), (RX2, TX2, 9), (RX3, TX3, 8), (RX4, TX4, 2), (RX5, TX5, 3), (RX6, TX6, 6), (RX7, TX7, 3), (RX8, TX8, 10), (RX9, TX9, 33)]
theorem in_ix {big ws : List Cond} (ps : List Nat) (hp : ws = ps.filterMap (fun i => big[i]?)) : ∀ w ∈ ws, w ∈ big := by
  intro w hw
  rw [hp] at hw
  obtain ⟨i, -, hi⟩ := List.mem_filterMap.mp hw
  exact List.mem_of_getElem? hi
set_option maxRecDepth 20000 in
theorem inX0 : ∀ w ∈ wsX00, w ∈ lw_tbl := in_ix [101, 103, 105, 107, 109, 111, 113, 115] (by decide +kernel)
set_option maxRecDepth 20000 in
theorem inX1 : ∀ w ∈ wsX10, w ∈ lw_tbl := in_ix [246, 248, 250] (by decide +kernel)
set_option maxRecDepth 20000 in
theorem inX2 : ∀ w ∈ wsX20, w ∈ lw_tbl := in_ix [189, 191, 193, 195, 197, 199, 201, 203, 205] (by decide +kernel)
set_option maxRecDepth 20000 in
theorem inX3 : ∀ w ∈ wsX30, w ∈ lw_tbl := in_ix [155, 157, 159, 161, 163, 165, 167, 169] (by decide +kernel)
set_option maxRecDepth 20000 in
theorem inX4 : ∀ w ∈ wsX40, w ∈ lw_tbl := in_ix [130, 132] (by decide +kernel)
set_option maxRecDepth 20000 in
theorem inX5 : ∀ w ∈ wsX50, w ∈ lw_tbl := in_ix [265, 267, 269] (by decide +kernel)
set_option maxRecDepth 20000 in
theorem inX6 : ∀ w ∈ wsX60, w ∈ lw_tbl := in_ix [224, 226, 228, 230, 232, 234] (by decide +kernel)
set_option maxRecDepth 20000 in
theorem inX7 : ∀ w ∈ wsX70, w ∈ lw_tbl := in_ix [286, 288, 290] (by decide +kernel)
set_option maxRecDepth 20000 in
theorem inX8 : ∀ w ∈ wsX80, w ∈ lw_tbl := in_ix [304, 306, 308, 310, 312, 314, 316, 318, 320, 322] (by decide +kernel)
set_option maxRecDepth 20000 in
theorem inX9 : ∀ w ∈ wsX90, w ∈ lw_tbl := in_ix [768, 770, 772, 774, 776, 778, 780, 782, 784, 786, 788, 790, 792, 794, 796, 798, 800, 802, 804, 806, 808, 810, 812, 814, 816, 818, 820, 822, 824, 826, 828, 830, 832] (by decide +kernel)
end
section
/-! memory, shapes, the region's picture -/
abbrev Mm : Type := (Nat → Nat → Int32) × (Nat → Nat → Int64)
def sI (M : Mm) (c k : Nat) (v : Int32) : Mm := (fun a b => if a = c ∧ b = k then v else M.1 a b, M.2)
def sL (M : Mm) (c k : Nat) (v : Int64) : Mm := (M.1, fun a b => if a = c ∧ b = k then v else M.2 a b)
def cpI (M : Mm) (c d n : Nat) : Mm := (fun a b => if a = d ∧ b < n then M.1 c b else M.1 a b, M.2)
def cpL (M : Mm) (c d n : Nat) : Mm := (M.1, fun a b => if a = d ∧ b < n then M.2 c b else M.2 a b)
abbrev Fk : Type := Option (Option Nat)
abbrev Sh : Type := (Nat × Nat) ⊕ ((Nat × List Fk) ⊕ List Nat)
abbrev Rg : Type := va_G × (ClassId × ClassId × ClassId × ClassId) × List Sh × (Nat → Nat) × Nat
abbrev gD (G : Rg) : va_G := G.1
abbrev gI (G : Rg) : ClassId := G.2.1.1
abbrev gJ (G : Rg) : ClassId := G.2.1.2.1
abbrev gZ (G : Rg) : ClassId := G.2.1.2.2.1
abbrev gB (G : Rg) : ClassId := G.2.1.2.2.2
abbrev gS (G : Rg) : List Sh := G.2.2.1
abbrev gA (G : Rg) : Nat → Nat := G.2.2.2.1
abbrev gL (G : Rg) : Nat := G.2.2.2.2
def fv (G : Rg) (M : Mm) (c k : Nat) : Fk → Value
  | none => .int (M.1 c k)
  | some none => .long (M.2 c k)
  | some (some r) => .ref (gA G r)
def en (G : Rg) (M : Mm) (c : Nat) : Sh → va_E
  | .inl (0, n) => .inl (gI G, n, .inl (M.1 c))
  | .inl (1, n) => .inl (gJ G, n, .inr (.inl (M.2 c)))
  | .inl (_, n) => .inl (gZ G, n, .inl (M.1 c))
  | .inr (.inl (ci, fl)) => .inr (ci, fl.mapIdx (fun k f => fv G M c k f))
  | .inr (.inr rs) => .inl (gB G, rs.length, .inr (.inr (.inr (.inr (fun k => rs[k]?.map (gA G))))))
def wl (G : Rg) (M : Mm) : va_W := (gS G).mapIdx (fun c x => (gA G c, en G M c x))
theorem wl_at {G : Rg} {c : Nat} {x : Sh} (M : Mm) (h : (gS G)[c]? = some x) : (wl G M)[c]? = some (gA G c, en G M c x) := by
  simp [wl, List.getElem?_mapIdx, h]
def Ar (G : Rg) : Nat → Prop := fun q => ∃ c, c < (gS G).length ∧ q = gA G c
def Rp (G : Rg) (M : Mm) (H : Heap) : Prop := va_P (gD G) vwCl (wl G M) H
abbrev ty4 (G : Rg) : List (ClassId × FieldType) := [(gI G, .int), (gJ G, .long), (gZ G, .boolean), (gB G, .object RX0)]
theorem wl_len (G : Rg) (M : Mm) : (wl G M).length = (gS G).length := by simp [wl]
theorem wl_inv {G : Rg} {M : Mm} {k : Nat} {q : Nat × va_E} (h : (wl G M)[k]? = some q) : k < (gS G).length ∧ q.1 = gA G k := by
  have h1 : k < (wl G M).length := (List.getElem?_eq_some_iff.mp h).1
  rw [wl_len] at h1
  refine ⟨h1, ?_⟩
  have h2 : (gS G)[k]? = some (gS G)[k] := List.getElem?_eq_getElem h1
  rw [wl_at M h2] at h
  cases h; rfl
def Inj (G : Rg) : Prop := ∀ i j, i < (gS G).length → j < (gS G).length → gA G i = gA G j → i = j
theorem wl_D {G : Rg} (M : Mm) (hI : Inj G) : va_D (Ar G) (wl G M) := by
  refine ⟨fun i j p q hp hq e => ?_, fun k q hq => ?_⟩
  · obtain ⟨a1, a2⟩ := wl_inv hp
    obtain ⟨b1, b2⟩ := wl_inv hq
    exact hI i j a1 b1 (by rw [← a2, ← b2]; exact e)
  · obtain ⟨a1, a2⟩ := wl_inv hq
    exact ⟨k, a1, a2⟩
theorem sI_ne {M : Mm} {c k a : Nat} {v : Int32} (h : a ≠ c) : (sI M c k v).1 a = M.1 a := by
  funext b; simp [sI, h]
theorem sI_at {M : Mm} {c k : Nat} {v : Int32} : (sI M c k v).1 c = upd (M.1 c) k v := by
  funext b; simp [sI, upd]
theorem sL_ne {M : Mm} {c k a : Nat} {v : Int64} (h : a ≠ c) : (sL M c k v).2 a = M.2 a := by
  funext b; simp [sL, h]
theorem sL_at {M : Mm} {c k : Nat} {v : Int64} : (sL M c k v).2 c = vp_updL (M.2 c) k v := by
  funext b; simp [sL, vp_updL]
theorem en_sI_ne {G : Rg} {M : Mm} {c k a : Nat} {v : Int32} (h : a ≠ c) (x : Sh) : en G (sI M c k v) a x = en G M a x := by
  rcases x with ⟨t, n⟩ | ⟨ci, fl⟩ | rs
  · match t with
    | 0 => simp only [en, sI_ne h]
    | 1 => rfl
    | t + 2 => simp only [en, sI_ne h]
  · have e : (fun (j : Nat) (f : Fk) => fv G (sI M c k v) a j f) = fun j f => fv G M a j f := by
      funext j f
      rcases f with _ | _ | r <;> simp only [fv, sI_ne h] <;> rfl
    simp only [en, e]
  · rfl
theorem en_sL_ne {G : Rg} {M : Mm} {c k a : Nat} {v : Int64} (h : a ≠ c) (x : Sh) : en G (sL M c k v) a x = en G M a x := by
  rcases x with ⟨t, n⟩ | ⟨ci, fl⟩ | rs
  · match t with
    | 0 => rfl
    | 1 => simp only [en, sL_ne h]
    | t + 2 => rfl
  · have e : (fun (j : Nat) (f : Fk) => fv G (sL M c k v) a j f) = fun j f => fv G M a j f := by
      funext j f
      rcases f with _ | _ | r <;> simp only [fv, sL_ne h] <;> rfl
    simp only [en, e]
  · rfl
/-- the picture with one cell anew -/
theorem wl_set {G : Rg} {M M' : Mm} {c : Nat} {x : Sh} (hc : (gS G)[c]? = some x) (h : ∀ a y, a ≠ c → en G M' a y = en G M a y) : (wl G M).set c (gA G c, en G M' c x) = wl G M' := by
  apply List.ext_getElem?
  intro i
  rw [List.getElem?_set]
  by_cases e : c = i
  · subst e
    have hl : c < (wl G M).length := by rw [wl_len]; exact (List.getElem?_eq_some_iff.mp hc).1
    rw [if_pos rfl, if_pos hl, wl_at M' hc]
  · rw [if_neg e]
    simp only [wl, List.getElem?_mapIdx]
    cases hy : (gS G)[i]? with
    | none => rfl
    | some y => simp only [Option.map_some]; rw [h i y (fun q => e q.symm)]
theorem en_obI {G : Rg} {M : Mm} {c k ci : Nat} {fl : List Fk} {v : Int32} (hf : fl[k]? = some none) : en G (sI M c k v) c (.inr (.inl (ci, fl))) = .inr (ci, (fl.mapIdx (fun j f => fv G M c j f)).set k (.int v)) := by
  simp only [en]
  congr 2
  apply List.ext_getElem?
  intro i
  rw [List.getElem?_set, List.getElem?_mapIdx, List.getElem?_mapIdx]
  by_cases e : k = i
  · subst e
    have hl : k < fl.length := (List.getElem?_eq_some_iff.mp hf).1
    rw [if_pos rfl, List.length_mapIdx, if_pos hl, hf]
    simp [fv, sI]
  · rw [if_neg e]
    cases hy : fl[i]? with
    | none => rfl
    | some y =>
      simp only [Option.map_some]
      rcases y with _ | _ | r
      · simp [fv, sI, Ne.symm e]
      · rfl
      · rfl
theorem en_obL {G : Rg} {M : Mm} {c k ci : Nat} {fl : List Fk} {v : Int64} (hf : fl[k]? = some (some none)) : en G (sL M c k v) c (.inr (.inl (ci, fl))) = .inr (ci, (fl.mapIdx (fun j f => fv G M c j f)).set k (.long v)) := by
  simp only [en]
  congr 2
  apply List.ext_getElem?
  intro i
  rw [List.getElem?_set, List.getElem?_mapIdx, List.getElem?_mapIdx]
  by_cases e : k = i
  · subst e
    have hl : k < fl.length := (List.getElem?_eq_some_iff.mp hf).1
    rw [if_pos rfl, List.length_mapIdx, if_pos hl, hf]
    simp [fv, sL]
  · rw [if_neg e]
    cases hy : fl[i]? with
    | none => rfl
    | some y =>
      simp only [Option.map_some]
      rcases y with _ | _ | r
      · rfl
      · simp [fv, sL, Ne.symm e]
      · rfl
/-! the words: good ones of the tables -/
def bg : List Cond := lw_tbl.filter goodWord
theorem bg_of {w : Cond} (h : w ∈ lw_tbl) (g : goodWord w = true) : w ∈ bg := List.mem_filter.mpr ⟨h, g⟩
theorem bg_good {w : Cond} (h : w ∈ bg) : (w.onTables && w.keeps) = true ∨ ∃ ty, w = .arrayClass ty := good_of_word (List.mem_filter.mp h).2
theorem bg_GoodIn {y : MethodName} {cc : ByteArray} {n : Nat} {r : Option FieldType} {c0 : Cond} (hc : Cond.code y cc n r ∈ lw_tbl) (xs : List Cond) (hx : ∀ w ∈ xs, w ∈ bg) : GoodIn (c0 :: bg) (xs ++ (Cond.code y cc n r :: bg)) := by
  intro w hw
  rcases List.mem_append.mp hw with h | h
  · exact ⟨List.mem_cons_of_mem _ (hx w h), bg_good (hx w h)⟩
  · rcases List.mem_cons.mp h with h | h
    · subst h
      exact ⟨List.mem_cons_of_mem _ (bg_of hc rfl), Or.inl rfl⟩
    · exact ⟨List.mem_cons_of_mem _ h, bg_good h⟩
/-! the static row of masks, the one nest link -/
def lkF : Nat → Int64 := fun k => match k with
  | 0 => 6148914691236517205
  | 1 => 3689348814741910323
  | 2 => 1085102592571150095
  | 3 => 71777214294589695
  | 4 => 281470681808895
  | _ => 4294967295
def Lk (G : Rg) (U : State) (H : Heap) : Prop := va_Z RX2 "LACKING" "[J" (.ref (gL G)) (Ar G) U H ∧ (∃ cell : Cell, H[gL G]? = some cell ∧ U.isArrayOf cell .long ∧ cell.vm ≠ .unknown ∧ cell.slots.size = 6 ∧ ∀ j : Nat, j < 6 → cell.slots[j]? = some (.long (lkF j))) ∧ ¬ Ar G (gL G)
abbrev nst : Cond := .methodLinkNest RX4 30 yX8_isWithin RX8
def Kn (G : Rg) (U : State) (H : Heap) : Prop := va_K (gD G) vwCl (ty4 G) U ∧ Inj G ∧ va_Nw nst U ∧ Lk G U H
theorem Kn.moved {G : Rg} {s U : State} {H H' : Heap} {locs : List Loc} (h : Kn G s H) (hW : s.WarmedH U.vm) (hS : va_S (Ar G) H H' locs) : Kn G U H' := by
  obtain ⟨h1, h2, h3, h4, ⟨cell, c1, c2, c3⟩, h6⟩ := h
  refine ⟨va_K.moved hW.alike h1, h2, va_Nw.warmM hW h3, (h4.kept (fun a ha hn => hS.2.1 a ha hn)).moved hW.alike, ⟨cell, ?_, State.isArrayOf_alike hW.alike c2, c3⟩, h6⟩
  rw [hS.2.1 _ (Array.getElem?_eq_some_iff.mp c1).1 h6]
  exact c1
/-! the judgement -/
abbrev Ct : Type := Program × Launch × Env × Room × State × MethodId × Array Value × List Frame × Method × Code
def vQ (G : Rg) (ov : Option Value) (M : Mm) : Array Value → State → Outcome → State → Prop := fun _ st oc t => oc = .returned ov ∧ Rp G M t.heap ∧ va_F (Ar G) st t
def V (G : Rg) (X : Ct) (nL : Nat) (ov : Option Value) (Mf : Mm) (pc : Nat) (lv : List (Nat × Value)) (st : List Value) (M : Mm) : Prop :=
  match X with
  | (p, l, e, R, s, m, args, below, meth, c) => ∀ (H : Heap) (locs : List Loc) (ls : Array Slot), Rp G M H → va_S (Ar G) s.heap H locs → lv_has ls nL lv → W p l e R s m args below meth c H locs 0 0 (MQ below (vQ G ov Mf) args s 0 0 (Ar G)) (F0 m pc ls st)
def Cx (G : Rg) (X : Ct) (cc : ByteArray) (nL : Nat) (own : String) (ret : Option FieldType) (fr lo : Nat) (cw : Cond) : Prop :=
  match X with
  | (p, l, e, R, s, m, args, below, meth, c) => p.tables.exec = Jvm.exec ∧ c.code = cc ∧ c.maxLocals = nL ∧ meth.sig.returnType = ret ∧ meth.locks = false ∧ s.vm.findClass own = some m.cls ∧ (∀ w ∈ cw :: bg, w.before args s = true) ∧ Kn G s s.heap ∧ R = ({ frames := fr, cells := 0, slots := 0, locals := lo } : Room)
def vP (G : Rg) (av : List Value) (M : Mm) : Array Value → State → Prop := fun v U => v = av.toArray ∧ Rp G M U.heap ∧ Kn G U U.heap
/-- a method's contract: from memory M to memory M', answering ov -/
def Mt (l : Launch) (G : Rg) (y : MethodName) (cc : ByteArray) (nL : Nat) (ret : Option FieldType) (fr lo : Nat) (av : List Value) (M : Mm) (ov : Option Value) (M' : Mm) : Prop :=
  Met l y (Cond.code y cc nL ret :: bg) ({ frames := fr, cells := 0, slots := 0, locals := lo } : Room) (vP G av M) (vQ G ov M') 0 0 (Ar G)
theorem Mt.of {l : Launch} {G : Rg} {y : MethodName} {cc : ByteArray} {nL : Nat} {ret : Option FieldType} {fr lo : Nat} {av : List Value} {M : Mm} {ov : Option Value} {M' : Mm} (hy : plainName y.cls = true) (hn : (lg_sl av).length ≤ nL)
    (h : ∀ X : Ct, Cx G X cc nL y.cls ret fr lo (Cond.code y cc nL ret) → X.2.1 = l → V G X nL ov M' 0 (lv_args 0 av) [] M) : Mt l G y cc nL ret fr lo av M ov M' := by
  refine Met.ofW (cc := cc) (maxL := nL) (ret := ret) hy rfl ?_
  intro p e s m args below meth c s₁ B hml hv
  obtain ⟨rfl, hP, hK⟩ := hv
  have hown : s.vm.findClass y.cls = some m.cls := findClass_of_methodNamed B.named
  have hts := atoms_spec (ws := Cond.code y cc nL ret :: bg) B.pre
  have hl := lv_entry av (n := nL) hn
  have := h (p, l, e, ({ frames := fr, cells := 0, slots := 0, locals := lo } : Room), s, m, av.toArray, below, meth, c) ⟨B.exec, B.bytes, hml, B.returns, B.notSynchronized, hown, hts, hK, rfl⟩ rfl
  rw [lg_entry_eq]
  exact this s.heap [] _ hP va_S.rf hl
section VR
variable {G : Rg} {X : Ct} {cc : ByteArray} {nL fr lo : Nat} {own : String} {ret : Option FieldType} {cw : Cond} {ov : Option Value} {Mf M : Mm} {pc : Nat} {lv lv' : List (Nat × Value)} {st : List Value}
theorem V.sub (C : Cx G X cc nL own ret fr lo cw) (ks : List Nat) (h : lv_pick lv ks = lv') (k : V G X nL ov Mf pc lv' st M) : V G X nL ov Mf pc lv st M := by
  obtain ⟨p, l, e, R, s, m, args, below, meth, c⟩ := X
  intro H locs ls hP hS hl
  exact k H locs ls hP hS (lv_sub hl ks h)
theorem V.iconst (C : Cx G X cc nL own ret fr lo cw) {n : Int} (v : Int32) (hv : Int32.ofInt n = v) (hd : decode cc pc = .ok (.iconst n, 1)) (k : V G X nL ov Mf (pc + 1) lv (.int v :: st) M) : V G X nL ov Mf pc lv st M := by
  obtain ⟨p, l, e, R, s, m, args, below, meth, c⟩ := X
  intro H locs ls hP hS hl
  exact lv_iconst C.1 C.2.1 hd hv (k H locs ls hP hS hl)
theorem V.bipush (C : Cx G X cc nL own ret fr lo cw) {n : Int} (v : Int32) (hv : (Int8.ofInt n).toInt32 = v) (hd : decode cc pc = .ok (.bipush n, 2)) (k : V G X nL ov Mf (pc + 2) lv (.int v :: st) M) : V G X nL ov Mf pc lv st M := by
  obtain ⟨p, l, e, R, s, m, args, below, meth, c⟩ := X
  intro H locs ls hP hS hl
  exact lv_bipush C.1 C.2.1 hd hv (k H locs ls hP hS hl)
theorem V.sipush (C : Cx G X cc nL own ret fr lo cw) {n : Int} (v : Int32) (hv : (Int16.ofInt n).toInt32 = v) (hd : decode cc pc = .ok (.sipush n, 3)) (k : V G X nL ov Mf (pc + 3) lv (.int v :: st) M) : V G X nL ov Mf pc lv st M := by
  obtain ⟨p, l, e, R, s, m, args, below, meth, c⟩ := X
  intro H locs ls hP hS hl
  exact lv_sipush C.1 C.2.1 hd hv (k H locs ls hP hS hl)
theorem V.lconst (C : Cx G X cc nL own ret fr lo cw) {n : Fin 2} (v : Int64) (hv : Int64.ofNat (n : Nat) = v) (hd : decode cc pc = .ok (.lconst n, 1)) (k : V G X nL ov Mf (pc + 1) lv (.long v :: st) M) : V G X nL ov Mf pc lv st M := by
  obtain ⟨p, l, e, R, s, m, args, below, meth, c⟩ := X
  intro H locs ls hP hS hl
  exact lv_lconst C.1 C.2.1 hd hv (k H locs ls hP hS hl)
theorem V.ldc (C : Cx G X cc nL own ret fr lo cw) {i : Nat} {v : Int32} (hw : Cond.constant own i v ∈ lw_tbl) (hd : decode cc pc = .ok (.ldc i, 2)) (k : V G X nL ov Mf (pc + 2) lv (.int v :: st) M) : V G X nL ov Mf pc lv st M := by
  obtain ⟨p, l, e, R, s, m, args, below, meth, c⟩ := X
  obtain ⟨hx, hb, hml, hr, hlk, hown, hts, hK, hR⟩ := C
  intro H locs ls hP hS hl
  exact lv_ldc hx hb hown (hts _ (List.mem_cons_of_mem _ (bg_of hw rfl))) hd (k H locs ls hP hS hl)
theorem V.ldcw (C : Cx G X cc nL own ret fr lo cw) {i : Nat} {v : Int32} (hw : Cond.constant own i v ∈ lw_tbl) (hd : decode cc pc = .ok (.ldc_w i, 3)) (k : V G X nL ov Mf (pc + 3) lv (.int v :: st) M) : V G X nL ov Mf pc lv st M := by
  obtain ⟨p, l, e, R, s, m, args, below, meth, c⟩ := X
  obtain ⟨hx, hb, hml, hr, hlk, hown, hts, hK, hR⟩ := C
  intro H locs ls hP hS hl
  exact lv_ldcw hx hb hown (hts _ (List.mem_cons_of_mem _ (bg_of hw rfl))) hd (k H locs ls hP hS hl)
theorem V.ldc2 (C : Cx G X cc nL own ret fr lo cw) {i : Nat} {v : Int64} (hw : Cond.constantLong own i v ∈ lw_tbl) (hd : decode cc pc = .ok (.ldc2_w i, 3)) (k : V G X nL ov Mf (pc + 3) lv (.long v :: st) M) : V G X nL ov Mf pc lv st M := by
  obtain ⟨p, l, e, R, s, m, args, below, meth, c⟩ := X
  obtain ⟨hx, hb, hml, hr, hlk, hown, hts, hK, hR⟩ := C
  intro H locs ls hP hS hl
  exact lv_ldc2 hx hb hown (hts _ (List.mem_cons_of_mem _ (bg_of hw rfl))) hd (k H locs ls hP hS hl)
end VR
end
section
section VR2
variable {G : Rg} {X : Ct} {cc : ByteArray} {nL fr lo : Nat} {own : String} {ret : Option FieldType} {cw : Cond} {ov : Option Value} {Mf M : Mm} {pc : Nat} {lv lv' : List (Nat × Value)} {st : List Value}
theorem V.iadd (C : Cx G X cc nL own ret fr lo cw) {x y : Int32} (hd : decode cc pc = .ok (.iadd, 1)) (k : V G X nL ov Mf (pc + 1) lv (.int (x + y) :: st) M) : V G X nL ov Mf pc lv (.int y :: .int x :: st) M := by
  obtain ⟨p, l, e, R, s, m, args, below, meth, cd⟩ := X
  obtain ⟨hx, hb, hml, hr, hlk, hown, hts, hK, hR⟩ := C
  intro H locs ls hP hS hl
  exact lv_iadd hx hb hd (k H locs ls hP hS hl)
theorem V.isub (C : Cx G X cc nL own ret fr lo cw) {x y : Int32} (hd : decode cc pc = .ok (.isub, 1)) (k : V G X nL ov Mf (pc + 1) lv (.int (x - y) :: st) M) : V G X nL ov Mf pc lv (.int y :: .int x :: st) M := by
  obtain ⟨p, l, e, R, s, m, args, below, meth, cd⟩ := X
  obtain ⟨hx, hb, hml, hr, hlk, hown, hts, hK, hR⟩ := C
  intro H locs ls hP hS hl
  exact lv_isub hx hb hd (k H locs ls hP hS hl)
theorem V.imul (C : Cx G X cc nL own ret fr lo cw) {x y : Int32} (hd : decode cc pc = .ok (.imul, 1)) (k : V G X nL ov Mf (pc + 1) lv (.int (x * y) :: st) M) : V G X nL ov Mf pc lv (.int y :: .int x :: st) M := by
  obtain ⟨p, l, e, R, s, m, args, below, meth, cd⟩ := X
  obtain ⟨hx, hb, hml, hr, hlk, hown, hts, hK, hR⟩ := C
  intro H locs ls hP hS hl
  exact lv_imul hx hb hd (k H locs ls hP hS hl)
theorem V.iand (C : Cx G X cc nL own ret fr lo cw) {x y : Int32} (hd : decode cc pc = .ok (.iand, 1)) (k : V G X nL ov Mf (pc + 1) lv (.int (x &&& y) :: st) M) : V G X nL ov Mf pc lv (.int y :: .int x :: st) M := by
  obtain ⟨p, l, e, R, s, m, args, below, meth, cd⟩ := X
  obtain ⟨hx, hb, hml, hr, hlk, hown, hts, hK, hR⟩ := C
  intro H locs ls hP hS hl
  exact lv_iand hx hb hd (k H locs ls hP hS hl)
theorem V.ior (C : Cx G X cc nL own ret fr lo cw) {x y : Int32} (hd : decode cc pc = .ok (.ior, 1)) (k : V G X nL ov Mf (pc + 1) lv (.int (x ||| y) :: st) M) : V G X nL ov Mf pc lv (.int y :: .int x :: st) M := by
  obtain ⟨p, l, e, R, s, m, args, below, meth, cd⟩ := X
  obtain ⟨hx, hb, hml, hr, hlk, hown, hts, hK, hR⟩ := C
  intro H locs ls hP hS hl
  exact lv_ior hx hb hd (k H locs ls hP hS hl)
theorem V.ixor (C : Cx G X cc nL own ret fr lo cw) {x y : Int32} (hd : decode cc pc = .ok (.ixor, 1)) (k : V G X nL ov Mf (pc + 1) lv (.int (x ^^^ y) :: st) M) : V G X nL ov Mf pc lv (.int y :: .int x :: st) M := by
  obtain ⟨p, l, e, R, s, m, args, below, meth, cd⟩ := X
  obtain ⟨hx, hb, hml, hr, hlk, hown, hts, hK, hR⟩ := C
  intro H locs ls hP hS hl
  exact lv_ixor hx hb hd (k H locs ls hP hS hl)
theorem V.ishl (C : Cx G X cc nL own ret fr lo cw) {x y : Int32} (hd : decode cc pc = .ok (.ishl, 1)) (k : V G X nL ov Mf (pc + 1) lv (.int (x <<< (y &&& 31)) :: st) M) : V G X nL ov Mf pc lv (.int y :: .int x :: st) M := by
  obtain ⟨p, l, e, R, s, m, args, below, meth, cd⟩ := X
  obtain ⟨hx, hb, hml, hr, hlk, hown, hts, hK, hR⟩ := C
  intro H locs ls hP hS hl
  exact lv_ishl hx hb hd (k H locs ls hP hS hl)
theorem V.ishr (C : Cx G X cc nL own ret fr lo cw) {x y : Int32} (hd : decode cc pc = .ok (.ishr, 1)) (k : V G X nL ov Mf (pc + 1) lv (.int (x >>> (y &&& 31)) :: st) M) : V G X nL ov Mf pc lv (.int y :: .int x :: st) M := by
  obtain ⟨p, l, e, R, s, m, args, below, meth, cd⟩ := X
  obtain ⟨hx, hb, hml, hr, hlk, hown, hts, hK, hR⟩ := C
  intro H locs ls hP hS hl
  exact lv_ishr hx hb hd (k H locs ls hP hS hl)
theorem V.ladd (C : Cx G X cc nL own ret fr lo cw) {x y : Int64} (hd : decode cc pc = .ok (.ladd, 1)) (k : V G X nL ov Mf (pc + 1) lv (.long (x + y) :: st) M) : V G X nL ov Mf pc lv (.long y :: .long x :: st) M := by
  obtain ⟨p, l, e, R, s, m, args, below, meth, cd⟩ := X
  obtain ⟨hx, hb, hml, hr, hlk, hown, hts, hK, hR⟩ := C
  intro H locs ls hP hS hl
  exact lv_ladd hx hb hd (k H locs ls hP hS hl)
theorem V.lsub (C : Cx G X cc nL own ret fr lo cw) {x y : Int64} (hd : decode cc pc = .ok (.lsub, 1)) (k : V G X nL ov Mf (pc + 1) lv (.long (x - y) :: st) M) : V G X nL ov Mf pc lv (.long y :: .long x :: st) M := by
  obtain ⟨p, l, e, R, s, m, args, below, meth, cd⟩ := X
  obtain ⟨hx, hb, hml, hr, hlk, hown, hts, hK, hR⟩ := C
  intro H locs ls hP hS hl
  exact lv_lsub hx hb hd (k H locs ls hP hS hl)
theorem V.lmul (C : Cx G X cc nL own ret fr lo cw) {x y : Int64} (hd : decode cc pc = .ok (.lmul, 1)) (k : V G X nL ov Mf (pc + 1) lv (.long (x * y) :: st) M) : V G X nL ov Mf pc lv (.long y :: .long x :: st) M := by
  obtain ⟨p, l, e, R, s, m, args, below, meth, cd⟩ := X
  obtain ⟨hx, hb, hml, hr, hlk, hown, hts, hK, hR⟩ := C
  intro H locs ls hP hS hl
  exact lv_lmul hx hb hd (k H locs ls hP hS hl)
theorem V.land (C : Cx G X cc nL own ret fr lo cw) {x y : Int64} (hd : decode cc pc = .ok (.land, 1)) (k : V G X nL ov Mf (pc + 1) lv (.long (x &&& y) :: st) M) : V G X nL ov Mf pc lv (.long y :: .long x :: st) M := by
  obtain ⟨p, l, e, R, s, m, args, below, meth, cd⟩ := X
  obtain ⟨hx, hb, hml, hr, hlk, hown, hts, hK, hR⟩ := C
  intro H locs ls hP hS hl
  exact lv_land hx hb hd (k H locs ls hP hS hl)
theorem V.lor (C : Cx G X cc nL own ret fr lo cw) {x y : Int64} (hd : decode cc pc = .ok (.lor, 1)) (k : V G X nL ov Mf (pc + 1) lv (.long (x ||| y) :: st) M) : V G X nL ov Mf pc lv (.long y :: .long x :: st) M := by
  obtain ⟨p, l, e, R, s, m, args, below, meth, cd⟩ := X
  obtain ⟨hx, hb, hml, hr, hlk, hown, hts, hK, hR⟩ := C
  intro H locs ls hP hS hl
  exact lv_lor hx hb hd (k H locs ls hP hS hl)
theorem V.idiv (C : Cx G X cc nL own ret fr lo cw) {x y : Int32} (hn : ¬ y = 0) (hd : decode cc pc = .ok (.idiv, 1)) (k : V G X nL ov Mf (pc + 1) lv (.int (x / y) :: st) M) : V G X nL ov Mf pc lv (.int y :: .int x :: st) M := by
  obtain ⟨p, l, e, R, s, m, args, below, meth, cd⟩ := X
  obtain ⟨hx, hb, hml, hr, hlk, hown, hts, hK, hR⟩ := C
  intro H locs ls hP hS hl
  exact lv_idiv hx hb hd hn (k H locs ls hP hS hl)
theorem V.irem (C : Cx G X cc nL own ret fr lo cw) {x y : Int32} (hn : ¬ y = 0) (hd : decode cc pc = .ok (.irem, 1)) (k : V G X nL ov Mf (pc + 1) lv (.int (x - x / y * y) :: st) M) : V G X nL ov Mf pc lv (.int y :: .int x :: st) M := by
  obtain ⟨p, l, e, R, s, m, args, below, meth, cd⟩ := X
  obtain ⟨hx, hb, hml, hr, hlk, hown, hts, hK, hR⟩ := C
  intro H locs ls hP hS hl
  exact lv_irem hx hb hd hn (k H locs ls hP hS hl)
theorem V.ldiv (C : Cx G X cc nL own ret fr lo cw) {x y : Int64} (hn : ¬ y = 0) (hd : decode cc pc = .ok (.ldiv, 1)) (k : V G X nL ov Mf (pc + 1) lv (.long (x / y) :: st) M) : V G X nL ov Mf pc lv (.long y :: .long x :: st) M := by
  obtain ⟨p, l, e, R, s, m, args, below, meth, cd⟩ := X
  obtain ⟨hx, hb, hml, hr, hlk, hown, hts, hK, hR⟩ := C
  intro H locs ls hP hS hl
  exact lv_ldiv hx hb hd hn (k H locs ls hP hS hl)
theorem V.lrem (C : Cx G X cc nL own ret fr lo cw) {x y : Int64} (hn : ¬ y = 0) (hd : decode cc pc = .ok (.lrem, 1)) (k : V G X nL ov Mf (pc + 1) lv (.long (x - x / y * y) :: st) M) : V G X nL ov Mf pc lv (.long y :: .long x :: st) M := by
  obtain ⟨p, l, e, R, s, m, args, below, meth, cd⟩ := X
  obtain ⟨hx, hb, hml, hr, hlk, hown, hts, hK, hR⟩ := C
  intro H locs ls hP hS hl
  exact lv_lrem hx hb hd hn (k H locs ls hP hS hl)
theorem V.ineg (C : Cx G X cc nL own ret fr lo cw) {x : Int32} (hd : decode cc pc = .ok (.ineg, 1)) (k : V G X nL ov Mf (pc + 1) lv (.int (-x) :: st) M) : V G X nL ov Mf pc lv (.int x :: st) M := by
  obtain ⟨p, l, e, R, s, m, args, below, meth, cd⟩ := X
  obtain ⟨hx, hb, hml, hr, hlk, hown, hts, hK, hR⟩ := C
  intro H locs ls hP hS hl
  exact lv_ineg hx hb hd (k H locs ls hP hS hl)
theorem V.i2l (C : Cx G X cc nL own ret fr lo cw) {x : Int32} (hd : decode cc pc = .ok (.i2l, 1)) (k : V G X nL ov Mf (pc + 1) lv (.long x.toInt64 :: st) M) : V G X nL ov Mf pc lv (.int x :: st) M := by
  obtain ⟨p, l, e, R, s, m, args, below, meth, cd⟩ := X
  obtain ⟨hx, hb, hml, hr, hlk, hown, hts, hK, hR⟩ := C
  intro H locs ls hP hS hl
  exact lv_i2l hx hb hd rfl (k H locs ls hP hS hl)
theorem V.l2i (C : Cx G X cc nL own ret fr lo cw) {x : Int64} (hd : decode cc pc = .ok (.l2i, 1)) (k : V G X nL ov Mf (pc + 1) lv (.int x.toInt32 :: st) M) : V G X nL ov Mf pc lv (.long x :: st) M := by
  obtain ⟨p, l, e, R, s, m, args, below, meth, cd⟩ := X
  obtain ⟨hx, hb, hml, hr, hlk, hown, hts, hK, hR⟩ := C
  intro H locs ls hP hS hl
  exact lv_l2i hx hb hd rfl (k H locs ls hP hS hl)
def jushr (x y : Int32) : Int32 := (x.toUInt32 >>> (y.toUInt32 &&& Int32.toUInt32 31)).toInt32
def jlushr (x : Int64) (y : Int32) : Int64 := (x.toUInt64 >>> (y.toInt64.toUInt64 &&& Int64.toUInt64 63)).toInt64
def jlshl (x : Int64) (y : Int32) : Int64 := x <<< (y.toInt64 &&& 63)
theorem V.iushr (C : Cx G X cc nL own ret fr lo cw) {x y : Int32} (hd : decode cc pc = .ok (.iushr, 1)) (k : V G X nL ov Mf (pc + 1) lv (.int (jushr x y) :: st) M) : V G X nL ov Mf pc lv (.int y :: .int x :: st) M := by
  obtain ⟨p, l, e, R, s, m, args, below, meth, cd⟩ := X
  obtain ⟨hx, hb, hml, hr, hlk, hown, hts, hK, hR⟩ := C
  intro H locs ls hP hS hl
  exact lv_iushr hx hb hd rfl (k H locs ls hP hS hl)
theorem V.lushr (C : Cx G X cc nL own ret fr lo cw) {x : Int64} {y : Int32} (hd : decode cc pc = .ok (.lushr, 1)) (k : V G X nL ov Mf (pc + 1) lv (.long (jlushr x y) :: st) M) : V G X nL ov Mf pc lv (.int y :: .long x :: st) M := by
  obtain ⟨p, l, e, R, s, m, args, below, meth, cd⟩ := X
  obtain ⟨hx, hb, hml, hr, hlk, hown, hts, hK, hR⟩ := C
  intro H locs ls hP hS hl
  exact lv_lushr hx hb hd rfl (k H locs ls hP hS hl)
theorem V.lshl (C : Cx G X cc nL own ret fr lo cw) {x : Int64} {y : Int32} (hd : decode cc pc = .ok (.lshl, 1)) (k : V G X nL ov Mf (pc + 1) lv (.long (jlshl x y) :: st) M) : V G X nL ov Mf pc lv (.int y :: .long x :: st) M := by
  obtain ⟨p, l, e, R, s, m, args, below, meth, cd⟩ := X
  obtain ⟨hx, hb, hml, hr, hlk, hown, hts, hK, hR⟩ := C
  intro H locs ls hP hS hl
  exact lv_lshl hx hb hd rfl (k H locs ls hP hS hl)
theorem V.lcmp (C : Cx G X cc nL own ret fr lo cw) {x y : Int64} (hd : decode cc pc = .ok (.lcmp, 1)) (k : V G X nL ov Mf (pc + 1) lv (.int (lg_cmp x y) :: st) M) : V G X nL ov Mf pc lv (.long y :: .long x :: st) M := by
  obtain ⟨p, l, e, R, s, m, args, below, meth, cd⟩ := X
  obtain ⟨hx, hb, hml, hr, hlk, hown, hts, hK, hR⟩ := C
  intro H locs ls hP hS hl
  exact W.lcmp hx hb hd (k H locs ls hP hS hl)
theorem V.dup (C : Cx G X cc nL own ret fr lo cw) {v : Value} (hv : v.category = 1) (hd : decode cc pc = .ok (.dup, 1)) (k : V G X nL ov Mf (pc + 1) lv (v :: v :: st) M) : V G X nL ov Mf pc lv (v :: st) M := by
  obtain ⟨p, l, e, R, s, m, args, below, meth, cd⟩ := X
  obtain ⟨hx, hb, hml, hr, hlk, hown, hts, hK, hR⟩ := C
  intro H locs ls hP hS hl
  exact lv_dup hx hb hd hv (k H locs ls hP hS hl)
theorem V.dup2 (C : Cx G X cc nL own ret fr lo cw) {v w : Value} (hv : v.category = 1) (hw : w.category = 1) (hd : decode cc pc = .ok (.dup2, 1)) (k : V G X nL ov Mf (pc + 1) lv (v :: w :: v :: w :: st) M) : V G X nL ov Mf pc lv (v :: w :: st) M := by
  obtain ⟨p, l, e, R, s, m, args, below, meth, cd⟩ := X
  obtain ⟨hx, hb, hml, hr, hlk, hown, hts, hK, hR⟩ := C
  intro H locs ls hP hS hl
  exact lv_dup2_11 hx hb hd hv hw (k H locs ls hP hS hl)
theorem V.iload_n (C : Cx G X cc nL own ret fr lo cw) {i : Fin 4} {x : Int32} (q : Nat) (hq : lv[q]? = some ((i : Nat), .int x)) (hd : decode cc pc = .ok (.iload_n i, 1)) (k : V G X nL ov Mf (pc + 1) lv (.int x :: st) M) : V G X nL ov Mf pc lv st M := by
  obtain ⟨p, l, e, R, s, m, args, below, meth, cd⟩ := X
  obtain ⟨hx, hb, hml, hr, hlk, hown, hts, hK, hR⟩ := C
  intro H locs ls hP hS hl
  exact lv_iload_n hx hb hd rfl (lv_at hl q hq) (k H locs ls hP hS hl)
theorem V.iload (C : Cx G X cc nL own ret fr lo cw) {i : Nat} {x : Int32} (q : Nat) (hq : lv[q]? = some (i, .int x)) (hd : decode cc pc = .ok (.iload i, 2)) (k : V G X nL ov Mf (pc + 2) lv (.int x :: st) M) : V G X nL ov Mf pc lv st M := by
  obtain ⟨p, l, e, R, s, m, args, below, meth, cd⟩ := X
  obtain ⟨hx, hb, hml, hr, hlk, hown, hts, hK, hR⟩ := C
  intro H locs ls hP hS hl
  exact lv_iload hx hb hd (lv_at hl q hq) (k H locs ls hP hS hl)
theorem V.lload_n (C : Cx G X cc nL own ret fr lo cw) {i : Fin 4} {x : Int64} (q : Nat) (hq : lv[q]? = some ((i : Nat), .long x)) (hd : decode cc pc = .ok (.lload_n i, 1)) (k : V G X nL ov Mf (pc + 1) lv (.long x :: st) M) : V G X nL ov Mf pc lv st M := by
  obtain ⟨p, l, e, R, s, m, args, below, meth, cd⟩ := X
  obtain ⟨hx, hb, hml, hr, hlk, hown, hts, hK, hR⟩ := C
  intro H locs ls hP hS hl
  exact lv_lload_n hx hb hd rfl (lv_at hl q hq) (k H locs ls hP hS hl)
theorem V.lload (C : Cx G X cc nL own ret fr lo cw) {i : Nat} {x : Int64} (q : Nat) (hq : lv[q]? = some (i, .long x)) (hd : decode cc pc = .ok (.lload i, 2)) (k : V G X nL ov Mf (pc + 2) lv (.long x :: st) M) : V G X nL ov Mf pc lv st M := by
  obtain ⟨p, l, e, R, s, m, args, below, meth, cd⟩ := X
  obtain ⟨hx, hb, hml, hr, hlk, hown, hts, hK, hR⟩ := C
  intro H locs ls hP hS hl
  exact lv_lload hx hb hd (lv_at hl q hq) (k H locs ls hP hS hl)
theorem V.aload_n (C : Cx G X cc nL own ret fr lo cw) {i : Fin 4} {x : Nat} (q : Nat) (hq : lv[q]? = some ((i : Nat), .ref x)) (hd : decode cc pc = .ok (.aload_n i, 1)) (k : V G X nL ov Mf (pc + 1) lv (.ref x :: st) M) : V G X nL ov Mf pc lv st M := by
  obtain ⟨p, l, e, R, s, m, args, below, meth, cd⟩ := X
  obtain ⟨hx, hb, hml, hr, hlk, hown, hts, hK, hR⟩ := C
  intro H locs ls hP hS hl
  exact lv_aload_n hx hb hd rfl (lv_at hl q hq) (k H locs ls hP hS hl)
theorem V.aload (C : Cx G X cc nL own ret fr lo cw) {i : Nat} {x : Nat} (q : Nat) (hq : lv[q]? = some (i, .ref x)) (hd : decode cc pc = .ok (.aload i, 2)) (k : V G X nL ov Mf (pc + 2) lv (.ref x :: st) M) : V G X nL ov Mf pc lv st M := by
  obtain ⟨p, l, e, R, s, m, args, below, meth, cd⟩ := X
  obtain ⟨hx, hb, hml, hr, hlk, hown, hts, hK, hR⟩ := C
  intro H locs ls hP hS hl
  exact lv_aload hx hb hd (lv_at hl q hq) (k H locs ls hP hS hl)
theorem V.istore_n (C : Cx G X cc nL own ret fr lo cw) {i : Fin 4} {x : Int32} (hn : (i : Nat) < nL) (hl' : ((i : Nat), Value.int x) :: lv.filter (fun q => !(q.1 == i) && !(q.1 + 1 == i && q.2.category == 2)) = lv') (hd : decode cc pc = .ok (.istore_n i, 1)) (k : V G X nL ov Mf (pc + 1) lv' st M) : V G X nL ov Mf pc lv (.int x :: st) M := by
  obtain ⟨p, l, e, R, s, m, args, below, meth, cd⟩ := X
  obtain ⟨hx, hb, hml, hr, hlk, hown, hts, hK, hR⟩ := C
  intro H locs ls hP hS hl
  exact lv_istore_n hx hb hd rfl hl hn hl' (fun ls hl => k H locs ls hP hS hl)
theorem V.istore (C : Cx G X cc nL own ret fr lo cw) {i : Nat} {x : Int32} (hn : i < nL) (hl' : (i, Value.int x) :: lv.filter (fun q => !(q.1 == i) && !(q.1 + 1 == i && q.2.category == 2)) = lv') (hd : decode cc pc = .ok (.istore i, 2)) (k : V G X nL ov Mf (pc + 2) lv' st M) : V G X nL ov Mf pc lv (.int x :: st) M := by
  obtain ⟨p, l, e, R, s, m, args, below, meth, cd⟩ := X
  obtain ⟨hx, hb, hml, hr, hlk, hown, hts, hK, hR⟩ := C
  intro H locs ls hP hS hl
  exact lv_istore hx hb hd hl hn hl' (fun ls hl => k H locs ls hP hS hl)
theorem V.lstore_n (C : Cx G X cc nL own ret fr lo cw) {i : Fin 4} {x : Int64} (hn : (i : Nat) + 1 < nL) (hl' : ((i : Nat), Value.long x) :: lv.filter (fun q => !(q.1 == i) && (!(q.1 == i + 1) && !(q.1 + 1 == i && q.2.category == 2))) = lv') (hd : decode cc pc = .ok (.lstore_n i, 1)) (k : V G X nL ov Mf (pc + 1) lv' st M) : V G X nL ov Mf pc lv (.long x :: st) M := by
  obtain ⟨p, l, e, R, s, m, args, below, meth, cd⟩ := X
  obtain ⟨hx, hb, hml, hr, hlk, hown, hts, hK, hR⟩ := C
  intro H locs ls hP hS hl
  exact lv_lstore_n hx hb hd rfl hl hn hl' (fun ls hl => k H locs ls hP hS hl)
theorem V.lstore (C : Cx G X cc nL own ret fr lo cw) {i : Nat} {x : Int64} (hn : i + 1 < nL) (hl' : (i, Value.long x) :: lv.filter (fun q => !(q.1 == i) && (!(q.1 == i + 1) && !(q.1 + 1 == i && q.2.category == 2))) = lv') (hd : decode cc pc = .ok (.lstore i, 2)) (k : V G X nL ov Mf (pc + 2) lv' st M) : V G X nL ov Mf pc lv (.long x :: st) M := by
  obtain ⟨p, l, e, R, s, m, args, below, meth, cd⟩ := X
  obtain ⟨hx, hb, hml, hr, hlk, hown, hts, hK, hR⟩ := C
  intro H locs ls hP hS hl
  exact lv_lstore hx hb hd hl hn hl' (fun ls hl => k H locs ls hP hS hl)
theorem V.iinc (C : Cx G X cc nL own ret fr lo cw) {i : Nat} {n : Int} {x : Int32} (v : Int32) (q : Nat) (hq : lv[q]? = some (i, .int x)) (hv : x + Int32.ofInt n = v) (hn : i < nL) (hl' : (i, Value.int v) :: lv.filter (fun q => !(q.1 == i) && !(q.1 + 1 == i && q.2.category == 2)) = lv') (hd : decode cc pc = .ok (.iinc i n, 3)) (k : V G X nL ov Mf (pc + 3) lv' st M) : V G X nL ov Mf pc lv st M := by
  obtain ⟨p, l, e, R, s, m, args, below, meth, cd⟩ := X
  obtain ⟨hx, hb, hml, hr, hlk, hown, hts, hK, hR⟩ := C
  intro H locs ls hP hS hl
  exact lv_iinc hx hb hd hl hq hv hn hl' (fun ls hl => k H locs ls hP hS hl)
theorem V.if_eqT (C : Cx G X cc nL own ret fr lo cw) {x : Int32} {off : Int} (tgt : Nat) (h : x = 0) (ht : (pc : Int) + off = (tgt : Int)) (hd : decode cc pc = .ok (.ifCond .eq off, 3)) (k : V G X nL ov Mf tgt lv st M) : V G X nL ov Mf pc lv (.int x :: st) M := by
  obtain ⟨p, l, e, R, s, m, args, below, meth, cd⟩ := X
  obtain ⟨hx, hb, hml, hr, hlk, hown, hts, hK, hR⟩ := C
  intro H locs ls hP hS hl
  exact lv_if_eq hx hb hd ht (fun _ => k H locs ls hP hS hl) (fun z => absurd h z)
theorem V.if_eqF (C : Cx G X cc nL own ret fr lo cw) {x : Int32} {off : Int} (tgt : Nat) (h : ¬ x = 0) (ht : (pc : Int) + off = (tgt : Int)) (hd : decode cc pc = .ok (.ifCond .eq off, 3)) (k : V G X nL ov Mf (pc + 3) lv st M) : V G X nL ov Mf pc lv (.int x :: st) M := by
  obtain ⟨p, l, e, R, s, m, args, below, meth, cd⟩ := X
  obtain ⟨hx, hb, hml, hr, hlk, hown, hts, hK, hR⟩ := C
  intro H locs ls hP hS hl
  exact lv_if_eq hx hb hd ht (fun z => absurd z h) (fun _ => k H locs ls hP hS hl)
theorem V.ic_eqT (C : Cx G X cc nL own ret fr lo cw) {x y : Int32} {off : Int} (tgt : Nat) (h : x = y) (ht : (pc : Int) + off = (tgt : Int)) (hd : decode cc pc = .ok (.if_icmp .eq off, 3)) (k : V G X nL ov Mf tgt lv st M) : V G X nL ov Mf pc lv (.int y :: .int x :: st) M := by
  obtain ⟨p, l, e, R, s, m, args, below, meth, cd⟩ := X
  obtain ⟨hx, hb, hml, hr, hlk, hown, hts, hK, hR⟩ := C
  intro H locs ls hP hS hl
  exact lv_icmp_eq hx hb hd ht (fun _ => k H locs ls hP hS hl) (fun z => absurd h z)
theorem V.ic_eqF (C : Cx G X cc nL own ret fr lo cw) {x y : Int32} {off : Int} (tgt : Nat) (h : ¬ x = y) (ht : (pc : Int) + off = (tgt : Int)) (hd : decode cc pc = .ok (.if_icmp .eq off, 3)) (k : V G X nL ov Mf (pc + 3) lv st M) : V G X nL ov Mf pc lv (.int y :: .int x :: st) M := by
  obtain ⟨p, l, e, R, s, m, args, below, meth, cd⟩ := X
  obtain ⟨hx, hb, hml, hr, hlk, hown, hts, hK, hR⟩ := C
  intro H locs ls hP hS hl
  exact lv_icmp_eq hx hb hd ht (fun z => absurd z h) (fun _ => k H locs ls hP hS hl)
theorem V.if_neT (C : Cx G X cc nL own ret fr lo cw) {x : Int32} {off : Int} (tgt : Nat) (h : ¬ x = 0) (ht : (pc : Int) + off = (tgt : Int)) (hd : decode cc pc = .ok (.ifCond .ne off, 3)) (k : V G X nL ov Mf tgt lv st M) : V G X nL ov Mf pc lv (.int x :: st) M := by
  obtain ⟨p, l, e, R, s, m, args, below, meth, cd⟩ := X
  obtain ⟨hx, hb, hml, hr, hlk, hown, hts, hK, hR⟩ := C
  intro H locs ls hP hS hl
  exact lv_if_ne hx hb hd ht (fun _ => k H locs ls hP hS hl) (fun z => absurd z h)
theorem V.if_neF (C : Cx G X cc nL own ret fr lo cw) {x : Int32} {off : Int} (tgt : Nat) (h : x = 0) (ht : (pc : Int) + off = (tgt : Int)) (hd : decode cc pc = .ok (.ifCond .ne off, 3)) (k : V G X nL ov Mf (pc + 3) lv st M) : V G X nL ov Mf pc lv (.int x :: st) M := by
  obtain ⟨p, l, e, R, s, m, args, below, meth, cd⟩ := X
  obtain ⟨hx, hb, hml, hr, hlk, hown, hts, hK, hR⟩ := C
  intro H locs ls hP hS hl
  exact lv_if_ne hx hb hd ht (fun z => absurd h z) (fun _ => k H locs ls hP hS hl)
theorem V.ic_neT (C : Cx G X cc nL own ret fr lo cw) {x y : Int32} {off : Int} (tgt : Nat) (h : ¬ x = y) (ht : (pc : Int) + off = (tgt : Int)) (hd : decode cc pc = .ok (.if_icmp .ne off, 3)) (k : V G X nL ov Mf tgt lv st M) : V G X nL ov Mf pc lv (.int y :: .int x :: st) M := by
  obtain ⟨p, l, e, R, s, m, args, below, meth, cd⟩ := X
  obtain ⟨hx, hb, hml, hr, hlk, hown, hts, hK, hR⟩ := C
  intro H locs ls hP hS hl
  exact lv_icmp_ne hx hb hd ht (fun _ => k H locs ls hP hS hl) (fun z => absurd z h)
theorem V.ic_neF (C : Cx G X cc nL own ret fr lo cw) {x y : Int32} {off : Int} (tgt : Nat) (h : x = y) (ht : (pc : Int) + off = (tgt : Int)) (hd : decode cc pc = .ok (.if_icmp .ne off, 3)) (k : V G X nL ov Mf (pc + 3) lv st M) : V G X nL ov Mf pc lv (.int y :: .int x :: st) M := by
  obtain ⟨p, l, e, R, s, m, args, below, meth, cd⟩ := X
  obtain ⟨hx, hb, hml, hr, hlk, hown, hts, hK, hR⟩ := C
  intro H locs ls hP hS hl
  exact lv_icmp_ne hx hb hd ht (fun z => absurd h z) (fun _ => k H locs ls hP hS hl)
theorem V.if_ltT (C : Cx G X cc nL own ret fr lo cw) {x : Int32} {off : Int} (tgt : Nat) (h : x < 0) (ht : (pc : Int) + off = (tgt : Int)) (hd : decode cc pc = .ok (.ifCond .lt off, 3)) (k : V G X nL ov Mf tgt lv st M) : V G X nL ov Mf pc lv (.int x :: st) M := by
  obtain ⟨p, l, e, R, s, m, args, below, meth, cd⟩ := X
  obtain ⟨hx, hb, hml, hr, hlk, hown, hts, hK, hR⟩ := C
  intro H locs ls hP hS hl
  exact lv_if_lt hx hb hd ht (fun _ => k H locs ls hP hS hl) (fun z => absurd h z)
theorem V.if_ltF (C : Cx G X cc nL own ret fr lo cw) {x : Int32} {off : Int} (tgt : Nat) (h : ¬ x < 0) (ht : (pc : Int) + off = (tgt : Int)) (hd : decode cc pc = .ok (.ifCond .lt off, 3)) (k : V G X nL ov Mf (pc + 3) lv st M) : V G X nL ov Mf pc lv (.int x :: st) M := by
  obtain ⟨p, l, e, R, s, m, args, below, meth, cd⟩ := X
  obtain ⟨hx, hb, hml, hr, hlk, hown, hts, hK, hR⟩ := C
  intro H locs ls hP hS hl
  exact lv_if_lt hx hb hd ht (fun z => absurd z h) (fun _ => k H locs ls hP hS hl)
theorem V.ic_ltT (C : Cx G X cc nL own ret fr lo cw) {x y : Int32} {off : Int} (tgt : Nat) (h : x < y) (ht : (pc : Int) + off = (tgt : Int)) (hd : decode cc pc = .ok (.if_icmp .lt off, 3)) (k : V G X nL ov Mf tgt lv st M) : V G X nL ov Mf pc lv (.int y :: .int x :: st) M := by
  obtain ⟨p, l, e, R, s, m, args, below, meth, cd⟩ := X
  obtain ⟨hx, hb, hml, hr, hlk, hown, hts, hK, hR⟩ := C
  intro H locs ls hP hS hl
  exact lv_icmp_lt hx hb hd ht (fun _ => k H locs ls hP hS hl) (fun z => absurd h z)
theorem V.ic_ltF (C : Cx G X cc nL own ret fr lo cw) {x y : Int32} {off : Int} (tgt : Nat) (h : ¬ x < y) (ht : (pc : Int) + off = (tgt : Int)) (hd : decode cc pc = .ok (.if_icmp .lt off, 3)) (k : V G X nL ov Mf (pc + 3) lv st M) : V G X nL ov Mf pc lv (.int y :: .int x :: st) M := by
  obtain ⟨p, l, e, R, s, m, args, below, meth, cd⟩ := X
  obtain ⟨hx, hb, hml, hr, hlk, hown, hts, hK, hR⟩ := C
  intro H locs ls hP hS hl
  exact lv_icmp_lt hx hb hd ht (fun z => absurd z h) (fun _ => k H locs ls hP hS hl)
theorem V.if_geT (C : Cx G X cc nL own ret fr lo cw) {x : Int32} {off : Int} (tgt : Nat) (h : 0 ≤ x) (ht : (pc : Int) + off = (tgt : Int)) (hd : decode cc pc = .ok (.ifCond .ge off, 3)) (k : V G X nL ov Mf tgt lv st M) : V G X nL ov Mf pc lv (.int x :: st) M := by
  obtain ⟨p, l, e, R, s, m, args, below, meth, cd⟩ := X
  obtain ⟨hx, hb, hml, hr, hlk, hown, hts, hK, hR⟩ := C
  intro H locs ls hP hS hl
  exact lv_if_ge hx hb hd ht (fun _ => k H locs ls hP hS hl) (fun z => absurd h z)
theorem V.if_geF (C : Cx G X cc nL own ret fr lo cw) {x : Int32} {off : Int} (tgt : Nat) (h : ¬ 0 ≤ x) (ht : (pc : Int) + off = (tgt : Int)) (hd : decode cc pc = .ok (.ifCond .ge off, 3)) (k : V G X nL ov Mf (pc + 3) lv st M) : V G X nL ov Mf pc lv (.int x :: st) M := by
  obtain ⟨p, l, e, R, s, m, args, below, meth, cd⟩ := X
  obtain ⟨hx, hb, hml, hr, hlk, hown, hts, hK, hR⟩ := C
  intro H locs ls hP hS hl
  exact lv_if_ge hx hb hd ht (fun z => absurd z h) (fun _ => k H locs ls hP hS hl)
theorem V.ic_geT (C : Cx G X cc nL own ret fr lo cw) {x y : Int32} {off : Int} (tgt : Nat) (h : y ≤ x) (ht : (pc : Int) + off = (tgt : Int)) (hd : decode cc pc = .ok (.if_icmp .ge off, 3)) (k : V G X nL ov Mf tgt lv st M) : V G X nL ov Mf pc lv (.int y :: .int x :: st) M := by
  obtain ⟨p, l, e, R, s, m, args, below, meth, cd⟩ := X
  obtain ⟨hx, hb, hml, hr, hlk, hown, hts, hK, hR⟩ := C
  intro H locs ls hP hS hl
  exact lv_icmp_ge hx hb hd ht (fun _ => k H locs ls hP hS hl) (fun z => absurd h z)
theorem V.ic_geF (C : Cx G X cc nL own ret fr lo cw) {x y : Int32} {off : Int} (tgt : Nat) (h : ¬ y ≤ x) (ht : (pc : Int) + off = (tgt : Int)) (hd : decode cc pc = .ok (.if_icmp .ge off, 3)) (k : V G X nL ov Mf (pc + 3) lv st M) : V G X nL ov Mf pc lv (.int y :: .int x :: st) M := by
  obtain ⟨p, l, e, R, s, m, args, below, meth, cd⟩ := X
  obtain ⟨hx, hb, hml, hr, hlk, hown, hts, hK, hR⟩ := C
  intro H locs ls hP hS hl
  exact lv_icmp_ge hx hb hd ht (fun z => absurd z h) (fun _ => k H locs ls hP hS hl)
theorem V.if_gtT (C : Cx G X cc nL own ret fr lo cw) {x : Int32} {off : Int} (tgt : Nat) (h : 0 < x) (ht : (pc : Int) + off = (tgt : Int)) (hd : decode cc pc = .ok (.ifCond .gt off, 3)) (k : V G X nL ov Mf tgt lv st M) : V G X nL ov Mf pc lv (.int x :: st) M := by
  obtain ⟨p, l, e, R, s, m, args, below, meth, cd⟩ := X
  obtain ⟨hx, hb, hml, hr, hlk, hown, hts, hK, hR⟩ := C
  intro H locs ls hP hS hl
  exact lv_if_gt hx hb hd ht (fun _ => k H locs ls hP hS hl) (fun z => absurd h z)
theorem V.if_gtF (C : Cx G X cc nL own ret fr lo cw) {x : Int32} {off : Int} (tgt : Nat) (h : ¬ 0 < x) (ht : (pc : Int) + off = (tgt : Int)) (hd : decode cc pc = .ok (.ifCond .gt off, 3)) (k : V G X nL ov Mf (pc + 3) lv st M) : V G X nL ov Mf pc lv (.int x :: st) M := by
  obtain ⟨p, l, e, R, s, m, args, below, meth, cd⟩ := X
  obtain ⟨hx, hb, hml, hr, hlk, hown, hts, hK, hR⟩ := C
  intro H locs ls hP hS hl
  exact lv_if_gt hx hb hd ht (fun z => absurd z h) (fun _ => k H locs ls hP hS hl)
theorem V.ic_gtT (C : Cx G X cc nL own ret fr lo cw) {x y : Int32} {off : Int} (tgt : Nat) (h : y < x) (ht : (pc : Int) + off = (tgt : Int)) (hd : decode cc pc = .ok (.if_icmp .gt off, 3)) (k : V G X nL ov Mf tgt lv st M) : V G X nL ov Mf pc lv (.int y :: .int x :: st) M := by
  obtain ⟨p, l, e, R, s, m, args, below, meth, cd⟩ := X
  obtain ⟨hx, hb, hml, hr, hlk, hown, hts, hK, hR⟩ := C
  intro H locs ls hP hS hl
  exact lv_icmp_gt hx hb hd ht (fun _ => k H locs ls hP hS hl) (fun z => absurd h z)
theorem V.ic_gtF (C : Cx G X cc nL own ret fr lo cw) {x y : Int32} {off : Int} (tgt : Nat) (h : ¬ y < x) (ht : (pc : Int) + off = (tgt : Int)) (hd : decode cc pc = .ok (.if_icmp .gt off, 3)) (k : V G X nL ov Mf (pc + 3) lv st M) : V G X nL ov Mf pc lv (.int y :: .int x :: st) M := by
  obtain ⟨p, l, e, R, s, m, args, below, meth, cd⟩ := X
  obtain ⟨hx, hb, hml, hr, hlk, hown, hts, hK, hR⟩ := C
  intro H locs ls hP hS hl
  exact lv_icmp_gt hx hb hd ht (fun z => absurd z h) (fun _ => k H locs ls hP hS hl)
theorem V.if_leT (C : Cx G X cc nL own ret fr lo cw) {x : Int32} {off : Int} (tgt : Nat) (h : x ≤ 0) (ht : (pc : Int) + off = (tgt : Int)) (hd : decode cc pc = .ok (.ifCond .le off, 3)) (k : V G X nL ov Mf tgt lv st M) : V G X nL ov Mf pc lv (.int x :: st) M := by
  obtain ⟨p, l, e, R, s, m, args, below, meth, cd⟩ := X
  obtain ⟨hx, hb, hml, hr, hlk, hown, hts, hK, hR⟩ := C
  intro H locs ls hP hS hl
  exact lv_if_le hx hb hd ht (fun _ => k H locs ls hP hS hl) (fun z => absurd h z)
theorem V.if_leF (C : Cx G X cc nL own ret fr lo cw) {x : Int32} {off : Int} (tgt : Nat) (h : ¬ x ≤ 0) (ht : (pc : Int) + off = (tgt : Int)) (hd : decode cc pc = .ok (.ifCond .le off, 3)) (k : V G X nL ov Mf (pc + 3) lv st M) : V G X nL ov Mf pc lv (.int x :: st) M := by
  obtain ⟨p, l, e, R, s, m, args, below, meth, cd⟩ := X
  obtain ⟨hx, hb, hml, hr, hlk, hown, hts, hK, hR⟩ := C
  intro H locs ls hP hS hl
  exact lv_if_le hx hb hd ht (fun z => absurd z h) (fun _ => k H locs ls hP hS hl)
theorem V.ic_leT (C : Cx G X cc nL own ret fr lo cw) {x y : Int32} {off : Int} (tgt : Nat) (h : x ≤ y) (ht : (pc : Int) + off = (tgt : Int)) (hd : decode cc pc = .ok (.if_icmp .le off, 3)) (k : V G X nL ov Mf tgt lv st M) : V G X nL ov Mf pc lv (.int y :: .int x :: st) M := by
  obtain ⟨p, l, e, R, s, m, args, below, meth, cd⟩ := X
  obtain ⟨hx, hb, hml, hr, hlk, hown, hts, hK, hR⟩ := C
  intro H locs ls hP hS hl
  exact lv_icmp_le hx hb hd ht (fun _ => k H locs ls hP hS hl) (fun z => absurd h z)
theorem V.ic_leF (C : Cx G X cc nL own ret fr lo cw) {x y : Int32} {off : Int} (tgt : Nat) (h : ¬ x ≤ y) (ht : (pc : Int) + off = (tgt : Int)) (hd : decode cc pc = .ok (.if_icmp .le off, 3)) (k : V G X nL ov Mf (pc + 3) lv st M) : V G X nL ov Mf pc lv (.int y :: .int x :: st) M := by
  obtain ⟨p, l, e, R, s, m, args, below, meth, cd⟩ := X
  obtain ⟨hx, hb, hml, hr, hlk, hown, hts, hK, hR⟩ := C
  intro H locs ls hP hS hl
  exact lv_icmp_le hx hb hd ht (fun z => absurd z h) (fun _ => k H locs ls hP hS hl)
theorem V.goto (C : Cx G X cc nL own ret fr lo cw) {off : Int} (tgt : Nat) (ht : (pc : Int) + off = (tgt : Int)) (hd : decode cc pc = .ok (.goto off, 3)) (k : V G X nL ov Mf tgt lv st M) : V G X nL ov Mf pc lv st M := by
  obtain ⟨p, l, e, R, s, m, args, below, meth, cd⟩ := X
  obtain ⟨hx, hb, hml, hr, hlk, hown, hts, hK, hR⟩ := C
  intro H locs ls hP hS hl
  exact lv_goto hx hb hd ht (k H locs ls hP hS hl)
theorem V.tabIn (C : Cx G X cc nL own ret fr lo cw) {dflt lo' hi : Int} {offs : Array Int} {len : Nat} {x : Int32} (v : Int32) {off : Int} (tgt : Nat) (h : x = v) (h1 : ¬ v.toInt < lo') (h2 : ¬ hi < v.toInt) (ho : offs[(v.toInt - lo').toNat]? = some off) (ht : (pc : Int) + off = (tgt : Int)) (hd : decode cc pc = .ok (.tableswitch dflt lo' hi offs, len)) (k : V G X nL ov Mf tgt lv st M) : V G X nL ov Mf pc lv (.int x :: st) M := by
  subst h
  obtain ⟨p, l, e, R, s, m, args, below, meth, cd⟩ := X
  obtain ⟨hx, hb, hml, hr, hlk, hown, hts, hK, hR⟩ := C
  intro H locs ls hP hS hl
  exact lv_tableIn hx hb hd h1 h2 ho ht (k H locs ls hP hS hl)
theorem V.tabOut (C : Cx G X cc nL own ret fr lo cw) {dflt lo' hi : Int} {offs : Array Int} {len : Nat} {x : Int32} (tgt : Nat) (h : x.toInt < lo' ∨ hi < x.toInt) (ht : (pc : Int) + dflt = (tgt : Int)) (hd : decode cc pc = .ok (.tableswitch dflt lo' hi offs, len)) (k : V G X nL ov Mf tgt lv st M) : V G X nL ov Mf pc lv (.int x :: st) M := by
  obtain ⟨p, l, e, R, s, m, args, below, meth, cd⟩ := X
  obtain ⟨hx, hb, hml, hr, hlk, hown, hts, hK, hR⟩ := C
  intro H locs ls hP hS hl
  exact lv_tableOut hx hb hd h ht (k H locs ls hP hS hl)
theorem V.look (C : Cx G X cc nL own ret fr lo cw) {dflt : Int} {ps : Array (Int × Int)} {len : Nat} {x : Int32} {off : Int} (tgt : Nat) (hp : (ps.toList.zip (ps.toList.drop 1)).all (fun (a, next) => a.1 < next.1) = true) (ho : Op.lookupswitch.offset ps.toList dflt x.toInt = off) (ht : (pc : Int) + off = (tgt : Int)) (hd : decode cc pc = .ok (.lookupswitch dflt ps, len)) (k : V G X nL ov Mf tgt lv st M) : V G X nL ov Mf pc lv (.int x :: st) M := by
  obtain ⟨p, l, e, R, s, m, args, below, meth, cd⟩ := X
  obtain ⟨hx, hb, hml, hr, hlk, hown, hts, hK, hR⟩ := C
  intro H locs ls hP hS hl
  exact lv_lookup hx hb hd hp ho ht (k H locs ls hP hS hl)
theorem V.iret (C : Cx G X cc nL own (some .int) fr lo cw) {v : Int32} (ho : ov = some (.int v)) (hM : M = Mf) (hd : decode cc pc = .ok (.ireturn, 1)) : V G X nL ov Mf pc lv [.int v] M := by
  obtain ⟨p, l, e, R, s, m, args, below, meth, cd⟩ := X
  obtain ⟨hx, hb, hml, hr, hlk, hown, hts, hK, hR⟩ := C
  intro H locs ls hP hS hl
  subst ho; subst hM
  exact W.iret hx hb hr (fun t ht hW => ⟨rfl, by rw [ht]; exact hP, hS.F ht⟩) hS.2.2 hd hlk
theorem V.zret (C : Cx G X cc nL own (some .boolean) fr lo cw) {v : Int32} (hz : v = 0 ∨ v = 1) (ho : ov = some (.int v)) (hM : M = Mf) (hd : decode cc pc = .ok (.ireturn, 1)) : V G X nL ov Mf pc lv [.int v] M := by
  obtain ⟨p, l, e, R, s, m, args, below, meth, cd⟩ := X
  obtain ⟨hx, hb, hml, hr, hlk, hown, hts, hK, hR⟩ := C
  intro H locs ls hP hS hl
  subst ho; subst hM
  exact W.zret hx hb hr (by rcases hz with rfl | rfl <;> rfl) (fun t ht hW => ⟨rfl, by rw [ht]; exact hP, hS.F ht⟩) hS.2.2 hd hlk
theorem V.lret (C : Cx G X cc nL own (some .long) fr lo cw) {v : Int64} (ho : ov = some (.long v)) (hM : M = Mf) (hd : decode cc pc = .ok (.lreturn, 1)) : V G X nL ov Mf pc lv [.long v] M := by
  obtain ⟨p, l, e, R, s, m, args, below, meth, cd⟩ := X
  obtain ⟨hx, hb, hml, hr, hlk, hown, hts, hK, hR⟩ := C
  intro H locs ls hP hS hl
  subst ho; subst hM
  exact W.lret hx hb hr (fun t ht hW => ⟨rfl, by rw [ht]; exact hP, hS.F ht⟩) hS.2.2 hd hlk
theorem V.vret (C : Cx G X cc nL own none fr lo cw) (ho : ov = none) (hM : M = Mf) (hd : decode cc pc = .ok (.return_, 1)) : V G X nL ov Mf pc lv [] M := by
  obtain ⟨p, l, e, R, s, m, args, below, meth, cd⟩ := X
  obtain ⟨hx, hb, hml, hr, hlk, hown, hts, hK, hR⟩ := C
  intro H locs ls hP hS hl
  subst ho; subst hM
  exact W.vret hx hb hr (fun t ht hW => ⟨rfl, by rw [ht]; exact hP, hS.F ht⟩) hS.2.2 hd hlk
theorem u_good {C : String} {T : u_T} {N : Nat} {w : Cond} (h : w ∈ u_ws C T N) : goodWord w = true := by
  obtain ⟨k, -, rfl⟩ := List.mem_map.mp h
  unfold u_lay
  split <;> rfl
theorem V.getI (C : Cx G X cc nL own ret fr lo cw) {ci : Nat} {Cn : String} {T : u_T} {N : Nat} (hcl : vwCl[ci]? = some (Cn, T, N)) (hin : ∀ w ∈ u_ws Cn T N, w ∈ lw_tbl) {c : Nat} {fl : List Fk} (hc : (gS G)[c]? = some (.inr (.inl (ci, fl)))) (j : Nat) (hj : j < N) {ix : Nat} (hw : Cond.fieldLink own ix (T j).1 (T j).2.1 (T j).2.2.1 ∈ lw_tbl) (hf : fl[j]? = some (none)) (hd : decode cc pc = .ok (.getfield ix, 3)) (k : V G X nL ov Mf (pc + 3) lv (.int (M.1 c j) :: st) M) : V G X nL ov Mf pc lv (.ref (gA G c) :: st) M := by
  obtain ⟨p, l, e, R, s, m, args, below, meth, cd⟩ := X
  obtain ⟨hx, hb, hml, hr, hlk, hown, hts, hK, hR⟩ := C
  intro H locs ls hP hS hl
  exact va_get hx hb hts (fun w h => List.mem_cons_of_mem _ (bg_of (hin w h) (u_good h))) hown hK.1 hP c (wl_at M hc) hcl j hj (hts _ (List.mem_cons_of_mem _ (bg_of hw rfl))) (fun _ h => h) (by simp [List.getElem?_mapIdx, hf, fv]) hd (k H locs ls hP hS hl)
theorem V.getJ (C : Cx G X cc nL own ret fr lo cw) {ci : Nat} {Cn : String} {T : u_T} {N : Nat} (hcl : vwCl[ci]? = some (Cn, T, N)) (hin : ∀ w ∈ u_ws Cn T N, w ∈ lw_tbl) {c : Nat} {fl : List Fk} (hc : (gS G)[c]? = some (.inr (.inl (ci, fl)))) (j : Nat) (hj : j < N) {ix : Nat} (hw : Cond.fieldLink own ix (T j).1 (T j).2.1 (T j).2.2.1 ∈ lw_tbl) (hf : fl[j]? = some (some none)) (hd : decode cc pc = .ok (.getfield ix, 3)) (k : V G X nL ov Mf (pc + 3) lv (.long (M.2 c j) :: st) M) : V G X nL ov Mf pc lv (.ref (gA G c) :: st) M := by
  obtain ⟨p, l, e, R, s, m, args, below, meth, cd⟩ := X
  obtain ⟨hx, hb, hml, hr, hlk, hown, hts, hK, hR⟩ := C
  intro H locs ls hP hS hl
  exact va_get hx hb hts (fun w h => List.mem_cons_of_mem _ (bg_of (hin w h) (u_good h))) hown hK.1 hP c (wl_at M hc) hcl j hj (hts _ (List.mem_cons_of_mem _ (bg_of hw rfl))) (fun _ h => h) (by simp [List.getElem?_mapIdx, hf, fv]) hd (k H locs ls hP hS hl)
theorem V.getR (C : Cx G X cc nL own ret fr lo cw) {ci : Nat} {Cn : String} {T : u_T} {N : Nat} (hcl : vwCl[ci]? = some (Cn, T, N)) (hin : ∀ w ∈ u_ws Cn T N, w ∈ lw_tbl) {c : Nat} {fl : List Fk} (hc : (gS G)[c]? = some (.inr (.inl (ci, fl)))) (j : Nat) (hj : j < N) {ix : Nat} (hw : Cond.fieldLink own ix (T j).1 (T j).2.1 (T j).2.2.1 ∈ lw_tbl) {r : Nat} (hf : fl[j]? = some (some (some r))) (hd : decode cc pc = .ok (.getfield ix, 3)) (k : V G X nL ov Mf (pc + 3) lv (.ref (gA G r) :: st) M) : V G X nL ov Mf pc lv (.ref (gA G c) :: st) M := by
  obtain ⟨p, l, e, R, s, m, args, below, meth, cd⟩ := X
  obtain ⟨hx, hb, hml, hr, hlk, hown, hts, hK, hR⟩ := C
  intro H locs ls hP hS hl
  exact va_get hx hb hts (fun w h => List.mem_cons_of_mem _ (bg_of (hin w h) (u_good h))) hown hK.1 hP c (wl_at M hc) hcl j hj (hts _ (List.mem_cons_of_mem _ (bg_of hw rfl))) (fun _ h => h) (by simp [List.getElem?_mapIdx, hf, fv]) hd (k H locs ls hP hS hl)
theorem V.putI (C : Cx G X cc nL own ret fr lo cw) {ci : Nat} {Cn : String} {T : u_T} {N : Nat} (hcl : vwCl[ci]? = some (Cn, T, N)) (hin : ∀ w ∈ u_ws Cn T N, w ∈ lw_tbl) {c : Nat} {fl : List Fk} (hc : (gS G)[c]? = some (.inr (.inl (ci, fl)))) (j : Nat) (hj : j < N) {ix : Nat} (hw : Cond.fieldLink own ix (T j).1 (T j).2.1 (T j).2.2.1 ∈ lw_tbl) (ty : Nat → FieldType) (hty : ∀ k, k < N → parseFieldDescriptor (T k).2.2.1 = some (ty k)) (hnm : ∀ a, a < N → ∀ b, b < N → a ≠ b → (T a).2.1 ≠ (T b).2.1) (hfin : (T j).2.2.2 = false) (hd1 : parseFieldDescriptor (T j).2.2.1 = some .int) {v : Int32}  (hf : fl[j]? = some (none)) (hd : decode cc pc = .ok (.putfield ix, 3)) (k : V G X nL ov Mf (pc + 3) lv st (sI M c j v)) : V G X nL ov Mf pc lv (.int v :: .ref (gA G c) :: st) M := by
  obtain ⟨p, l, e, R, s, m, args, below, meth, cd⟩ := X
  obtain ⟨hx, hb, hml, hr, hlk, hown, hts, hK, hR⟩ := C
  intro H locs ls hP hS hl
  have hlen : j < (fl.mapIdx (fun j f => fv G M c j f)).length := by rw [List.length_mapIdx]; exact (List.getElem?_eq_some_iff.mp hf).1
  refine va_put hx hb hts (fun w h => List.mem_cons_of_mem _ (bg_of (hin w h) (u_good h))) ty hty hnm hown hK.1 hP (wl_D M hK.2.1) hS c (wl_at M hc) hcl j hj (hts _ (List.mem_cons_of_mem _ (bg_of hw rfl))) (fun _ h => h) hfin hd1 rfl rfl hlen hd (fun H1 locs1 hP1 _ hS1 => ?_)
  rw [← en_obI hf, wl_set hc (fun a y h => en_sI_ne h y)] at hP1
  exact k H1 locs1 ls hP1 hS1 hl
theorem V.putZ (C : Cx G X cc nL own ret fr lo cw) {ci : Nat} {Cn : String} {T : u_T} {N : Nat} (hcl : vwCl[ci]? = some (Cn, T, N)) (hin : ∀ w ∈ u_ws Cn T N, w ∈ lw_tbl) {c : Nat} {fl : List Fk} (hc : (gS G)[c]? = some (.inr (.inl (ci, fl)))) (j : Nat) (hj : j < N) {ix : Nat} (hw : Cond.fieldLink own ix (T j).1 (T j).2.1 (T j).2.2.1 ∈ lw_tbl) (ty : Nat → FieldType) (hty : ∀ k, k < N → parseFieldDescriptor (T k).2.2.1 = some (ty k)) (hnm : ∀ a, a < N → ∀ b, b < N → a ≠ b → (T a).2.1 ≠ (T b).2.1) (hfin : (T j).2.2.2 = false) (hd1 : parseFieldDescriptor (T j).2.2.1 = some .boolean) {v : Int32} (hz : v = 0 ∨ v = 1) (hf : fl[j]? = some (none)) (hd : decode cc pc = .ok (.putfield ix, 3)) (k : V G X nL ov Mf (pc + 3) lv st (sI M c j v)) : V G X nL ov Mf pc lv (.int v :: .ref (gA G c) :: st) M := by
  obtain ⟨p, l, e, R, s, m, args, below, meth, cd⟩ := X
  obtain ⟨hx, hb, hml, hr, hlk, hown, hts, hK, hR⟩ := C
  intro H locs ls hP hS hl
  have hlen : j < (fl.mapIdx (fun j f => fv G M c j f)).length := by rw [List.length_mapIdx]; exact (List.getElem?_eq_some_iff.mp hf).1
  refine va_put hx hb hts (fun w h => List.mem_cons_of_mem _ (bg_of (hin w h) (u_good h))) ty hty hnm hown hK.1 hP (wl_D M hK.2.1) hS c (wl_at M hc) hcl j hj (hts _ (List.mem_cons_of_mem _ (bg_of hw rfl))) (fun _ h => h) hfin hd1 (by rcases hz with rfl | rfl <;> rfl) (by rcases hz with rfl | rfl <;> rfl) hlen hd (fun H1 locs1 hP1 _ hS1 => ?_)
  rw [← en_obI hf, wl_set hc (fun a y h => en_sI_ne h y)] at hP1
  exact k H1 locs1 ls hP1 hS1 hl
theorem V.putJ (C : Cx G X cc nL own ret fr lo cw) {ci : Nat} {Cn : String} {T : u_T} {N : Nat} (hcl : vwCl[ci]? = some (Cn, T, N)) (hin : ∀ w ∈ u_ws Cn T N, w ∈ lw_tbl) {c : Nat} {fl : List Fk} (hc : (gS G)[c]? = some (.inr (.inl (ci, fl)))) (j : Nat) (hj : j < N) {ix : Nat} (hw : Cond.fieldLink own ix (T j).1 (T j).2.1 (T j).2.2.1 ∈ lw_tbl) (ty : Nat → FieldType) (hty : ∀ k, k < N → parseFieldDescriptor (T k).2.2.1 = some (ty k)) (hnm : ∀ a, a < N → ∀ b, b < N → a ≠ b → (T a).2.1 ≠ (T b).2.1) (hfin : (T j).2.2.2 = false) (hd1 : parseFieldDescriptor (T j).2.2.1 = some .long) {v : Int64}  (hf : fl[j]? = some (some none)) (hd : decode cc pc = .ok (.putfield ix, 3)) (k : V G X nL ov Mf (pc + 3) lv st (sL M c j v)) : V G X nL ov Mf pc lv (.long v :: .ref (gA G c) :: st) M := by
  obtain ⟨p, l, e, R, s, m, args, below, meth, cd⟩ := X
  obtain ⟨hx, hb, hml, hr, hlk, hown, hts, hK, hR⟩ := C
  intro H locs ls hP hS hl
  have hlen : j < (fl.mapIdx (fun j f => fv G M c j f)).length := by rw [List.length_mapIdx]; exact (List.getElem?_eq_some_iff.mp hf).1
  refine va_put hx hb hts (fun w h => List.mem_cons_of_mem _ (bg_of (hin w h) (u_good h))) ty hty hnm hown hK.1 hP (wl_D M hK.2.1) hS c (wl_at M hc) hcl j hj (hts _ (List.mem_cons_of_mem _ (bg_of hw rfl))) (fun _ h => h) hfin hd1 rfl rfl hlen hd (fun H1 locs1 hP1 _ hS1 => ?_)
  rw [← en_obL hf, wl_set hc (fun a y h => en_sL_ne h y)] at hP1
  exact k H1 locs1 ls hP1 hS1 hl
theorem V.iald (C : Cx G X cc nL own ret fr lo cw) {c n : Nat} (hc : (gS G)[c]? = some (.inl (0, n))) {i : Int32} (hi : vp_in i n) (hd : decode cc pc = .ok (.iaload, 1)) (k : V G X nL ov Mf (pc + 1) lv (.int (M.1 c i.toNatClampNeg) :: st) M) : V G X nL ov Mf pc lv (.int i :: .ref (gA G c) :: st) M := by
  obtain ⟨p, l, e, R, s, m, args, below, meth, cd⟩ := X
  obtain ⟨hx, hb, hml, hr, hlk, hown, hts, hK, hR⟩ := C
  intro H locs ls hP hS hl
  exact va_iald hx hb hK.1 hP c 0 (wl_at M hc) rfl hi hd (k H locs ls hP hS hl)
theorem V.lald (C : Cx G X cc nL own ret fr lo cw) {c n : Nat} (hc : (gS G)[c]? = some (.inl (1, n))) {i : Int32} (hi : vp_in i n) (hd : decode cc pc = .ok (.laload, 1)) (k : V G X nL ov Mf (pc + 1) lv (.long (M.2 c i.toNatClampNeg) :: st) M) : V G X nL ov Mf pc lv (.int i :: .ref (gA G c) :: st) M := by
  obtain ⟨p, l, e, R, s, m, args, below, meth, cd⟩ := X
  obtain ⟨hx, hb, hml, hr, hlk, hown, hts, hK, hR⟩ := C
  intro H locs ls hP hS hl
  exact va_lald hx hb hK.1 hP c 1 (wl_at M hc) rfl hi hd (k H locs ls hP hS hl)
theorem V.zald (C : Cx G X cc nL own ret fr lo cw) {c n : Nat} (hc : (gS G)[c]? = some (.inl (2, n))) {i : Int32} (hi : vp_in i n) (hd : decode cc pc = .ok (.baload, 1)) (k : V G X nL ov Mf (pc + 1) lv (.int (M.1 c i.toNatClampNeg) :: st) M) : V G X nL ov Mf pc lv (.int i :: .ref (gA G c) :: st) M := by
  obtain ⟨p, l, e, R, s, m, args, below, meth, cd⟩ := X
  obtain ⟨hx, hb, hml, hr, hlk, hown, hts, hK, hR⟩ := C
  intro H locs ls hP hS hl
  exact va_zald hx hb hK.1 hP c 2 (wl_at M hc) rfl hi hd (k H locs ls hP hS hl)
theorem V.alen (C : Cx G X cc nL own ret fr lo cw) {c t n : Nat} (v : Int32) (hc : (gS G)[c]? = some (.inl (t, n))) (ht : t < 3) (hv : Int32.ofNat n = v) (hd : decode cc pc = .ok (.arraylength, 1)) (k : V G X nL ov Mf (pc + 1) lv (.int v :: st) M) : V G X nL ov Mf pc lv (.ref (gA G c) :: st) M := by
  obtain ⟨p, l, e, R, s, m, args, below, meth, cd⟩ := X
  obtain ⟨hx, hb, hml, hr, hlk, hown, hts, hK, hR⟩ := C
  intro H locs ls hP hS hl
  match t, ht with
  | 0, _ => exact va_alen hx hb hK.1 hP c 0 (wl_at M hc) rfl hv hd (k H locs ls hP hS hl)
  | 1, _ => exact va_alen hx hb hK.1 hP c 1 (wl_at M hc) rfl hv hd (k H locs ls hP hS hl)
  | 2, _ => exact va_alen hx hb hK.1 hP c 2 (wl_at M hc) rfl hv hd (k H locs ls hP hS hl)
theorem V.iast (C : Cx G X cc nL own ret fr lo cw) {c n : Nat} (hc : (gS G)[c]? = some (.inl (0, n))) {i : Int32} {v : Int32}  (hi : vp_in i n) (hd : decode cc pc = .ok (.iastore, 1)) (k : V G X nL ov Mf (pc + 1) lv st (sI M c i.toNatClampNeg v)) : V G X nL ov Mf pc lv (.int v :: .int i :: .ref (gA G c) :: st) M := by
  obtain ⟨p, l, e, R, s, m, args, below, meth, cd⟩ := X
  obtain ⟨hx, hb, hml, hr, hlk, hown, hts, hK, hR⟩ := C
  intro H locs ls hP hS hl
  refine va_iast hx hb hK.1 hP (wl_D M hK.2.1) hS c 0 (wl_at M hc) rfl hi hd (fun H1 locs1 hP1 _ hS1 => ?_)
  have e := wl_set (M := M) (M' := sI M c i.toNatClampNeg v) hc (fun a y h => en_sI_ne h y)
  simp only [en, sI_at] at e
  rw [e] at hP1
  exact k H1 locs1 ls hP1 hS1 hl
theorem V.last (C : Cx G X cc nL own ret fr lo cw) {c n : Nat} (hc : (gS G)[c]? = some (.inl (1, n))) {i : Int32} {v : Int64}  (hi : vp_in i n) (hd : decode cc pc = .ok (.lastore, 1)) (k : V G X nL ov Mf (pc + 1) lv st (sL M c i.toNatClampNeg v)) : V G X nL ov Mf pc lv (.long v :: .int i :: .ref (gA G c) :: st) M := by
  obtain ⟨p, l, e, R, s, m, args, below, meth, cd⟩ := X
  obtain ⟨hx, hb, hml, hr, hlk, hown, hts, hK, hR⟩ := C
  intro H locs ls hP hS hl
  refine va_last hx hb hK.1 hP (wl_D M hK.2.1) hS c 1 (wl_at M hc) rfl hi hd (fun H1 locs1 hP1 _ hS1 => ?_)
  have e := wl_set (M := M) (M' := sL M c i.toNatClampNeg v) hc (fun a y h => en_sL_ne h y)
  simp only [en, sL_at] at e
  rw [e] at hP1
  exact k H1 locs1 ls hP1 hS1 hl
theorem V.zast (C : Cx G X cc nL own ret fr lo cw) {c n : Nat} (hc : (gS G)[c]? = some (.inl (2, n))) {i : Int32} {v : Int32} (hz : v = 0 ∨ v = 1) (hi : vp_in i n) (hd : decode cc pc = .ok (.bastore, 1)) (k : V G X nL ov Mf (pc + 1) lv st (sI M c i.toNatClampNeg v)) : V G X nL ov Mf pc lv (.int v :: .int i :: .ref (gA G c) :: st) M := by
  obtain ⟨p, l, e, R, s, m, args, below, meth, cd⟩ := X
  obtain ⟨hx, hb, hml, hr, hlk, hown, hts, hK, hR⟩ := C
  intro H locs ls hP hS hl
  refine va_zast hx hb hK.1 hP (wl_D M hK.2.1) hS c 2 (wl_at M hc) rfl hi hd (fun H1 locs1 hP1 _ hS1 => ?_)
  have hz2 : vp_nar .boolean v = v := by rcases hz with rfl | rfl <;> rfl
  rw [hz2] at hP1
  have e := wl_set (M := M) (M' := sI M c i.toNatClampNeg v) hc (fun a y h => en_sI_ne h y)
  simp only [en, sI_at] at e
  rw [e] at hP1
  exact k H1 locs1 ls hP1 hS1 hl
theorem V.aald (C : Cx G X cc nL own ret fr lo cw) {c : Nat} {rs : List Nat} (hc : (gS G)[c]? = some (.inr (.inr rs))) {i : Int32} (hi : vp_in i rs.length) {r : Nat} (hr' : rs[i.toNatClampNeg]? = some r) (hd : decode cc pc = .ok (.aaload, 1)) (k : V G X nL ov Mf (pc + 1) lv (.ref (gA G r) :: st) M) : V G X nL ov Mf pc lv (.int i :: .ref (gA G c) :: st) M := by
  obtain ⟨p, l, e, R, s, m, args, below, meth, cd⟩ := X
  obtain ⟨hx, hb, hml, hr, hlk, hown, hts, hK, hR⟩ := C
  intro H locs ls hP hS hl
  refine va_aldq hx hb hK.1 hP c 3 (wl_at M hc) rfl hi hd ?_
  rw [hr']
  exact k H locs ls hP hS hl
end VR2
end
section
theorem Kn.call {G : Rg} {U : State} {H : Heap} (g : JFrame) (mk : MethodId) (a : Array Value) (h : Kn G U H) : Kn G (U.calling g mk a) H := by
  obtain ⟨h1, h2, h3, h4, ⟨cell, c1, c2, c3⟩, h6⟩ := h
  exact ⟨va_K.moved (u := U) (U := U.calling g mk a) (Vm.Alike.refl U.vm) h1, h2, va_Nw.same rfl rfl h3, va_Z.moved (u := U) (U := U.calling g mk a) (Vm.Alike.refl U.vm) h4, ⟨cell, c1, State.isArrayOf_alike (s := U) (T := U.calling g mk a) (Vm.Alike.refl U.vm) c2, c3⟩, h6⟩
theorem vP_blind (G : Rg) (av : List Value) (M : Mm) : FrameBlind (vP G av M) := by
  intro a U g mk ⟨q0, qP, qK⟩
  exact ⟨q0, qP, qK.call g mk a⟩
/-- what is fixed of a method that is called on an object, and of a static one -/
def MF (y : MethodName) (cc : ByteArray) (nL : Nat) (ret : Option FieldType) (n : Nat) : Prop := Cond.code y cc nL ret ∈ lw_tbl ∧ Cond.instanceMethod y ∈ lw_tbl ∧ Cond.selects y.cls y y ∈ lw_tbl ∧ Cond.initialized y.cls ∈ lw_tbl ∧ (y.cls ≠ "java/lang/invoke/MethodHandle" ∧ y.cls ≠ "java/lang/invoke/VarHandle" ∧ (parseMethodDescriptor y.desc).map (fun d => d.parameters.length) = some n)
def MS (y : MethodName) (cc : ByteArray) (nL : Nat) (ret : Option FieldType) (n : Nat) : Prop := Cond.code y cc nL ret ∈ lw_tbl ∧ Cond.static y ∈ lw_tbl ∧ Cond.initialized y.cls ∈ lw_tbl ∧ (y.cls ≠ "java/lang/invoke/MethodHandle" ∧ y.cls ≠ "java/lang/invoke/VarHandle" ∧ (parseMethodDescriptor y.desc).map (fun d => d.parameters.length) = some n)
section VC
variable {G : Rg} {p : Program} {l : Launch} {e : Env} {R : Room} {s : State} {m : MethodId} {args : Array Value} {below : List Frame} {meth : Method} {c : Code} {H : Heap} {locs : List Loc} {Q : State → Prop}
theorem vc_go {ovc : Option Value} {M1 : Mm} {pc : Nat} {ls : Array Slot} {st0 rest : List Value} {a : Array Value}
    (hr : va_Run p l e R s m args below meth c H locs 0 0 0 0 (F0 m pc ls st0) rest (vQ G ovc M1 a) (Ar G)) (hS : va_S (Ar G) s.heap H locs)
    (k : ∀ (H1 : Heap) (locs1 : List Loc), Rp G M1 H1 → va_S (Ar G) s.heap H1 locs1 → W p l e R s m args below meth c H1 locs1 0 0 Q (F0 m (pc + 3) ls (ovc.toList ++ rest))) : W p l e R s m args below meth c H locs 0 0 Q (F0 m pc ls st0) := by
  intro T hT X
  obtain ⟨v, st₀, t, T', L, h0, X', hL, e1, e2, ⟨hv, hP1, hz, hk⟩, st⟩ := hr T hT X
  cases hv
  rw [h0] at hz hk
  obtain ⟨t2, a1, b1⟩ := k T'.heap (locs ++ L) (by rw [e1]; exact hP1)
    ⟨Nat.le_trans hS.1 (by rw [e1]; exact hz), fun q h1 h2 => by rw [e1, hk q (Nat.lt_of_lt_of_le h1 hS.1) h2]; exact hS.2.1 q h1 h2, fun q hq => by
      rcases List.mem_append.mp hq with h | h
      · exact hS.2.2 q h
      · exact hL q h⟩ T' rfl X'
  exact ⟨t2, st t2 a1, b1⟩
end VC
section VR3
variable {G : Rg} {X : Ct} {cc : ByteArray} {nL fr lo : Nat} {own : String} {ret : Option FieldType} {cw : Cond} {ov : Option Value} {Mf M : Mm} {pc : Nat} {lv lv' : List (Nat × Value)} {st : List Value}
theorem V.callV (C : Cx G X cc nL own ret fr lo cw) {y : MethodName} {cy : ByteArray} {ny fy ly n : Nat} {ry : Option FieldType} {As rest : List Value} {a : Nat} {ovc : Option Value} {M1 : Mm} (hM : Mt X.2.1 G y cy ny ry fy ly (.ref (gA G a) :: As) M ovc M1) (hF : MF y cy ny ry n) {ci : Nat} {T : u_T} {N : Nat} (hcl : vwCl[ci]? = some (y.cls, T, N)) {fl : List Fk} (hc : (gS G)[a]? = some (.inr (.inl (ci, fl)))) {ix : Nat} (hw : Cond.methodLink own ix y ∈ lw_tbl)
    (hst : st = As.reverse ++ .ref (gA G a) :: rest) (hn : As.length = n) (hroom : fy + 1 ≤ fr ∧ 8 + (ny + 11) + ly ≤ lo) (h8 : (rest.map fun v => v.category).sum ≤ 8) (hd : decode cc pc = .ok (.invokevirtual ix, 3)) (k : V G X nL ov Mf (pc + 3) lv (ovc.toList ++ rest) M1) : V G X nL ov Mf pc lv st M := by
  obtain ⟨p, l, e, R, s, m, args, below, meth, cd⟩ := X
  obtain ⟨hx, hb, hml, hr, hlk, hown, hts, hK, hR⟩ := C
  intro H locs ls hP hS hl
  subst hR
  obtain ⟨f1, f2, f3, f4, f5⟩ := hF
  have hG : GoodIn (cw :: bg) (wsV own ix y.cls y (Cond.code y cy ny ry :: bg)) := bg_GoodIn f1 [.methodLink own ix y, .instanceMethod y, .selects y.cls y y, .initialized y.cls] (by
    intro w h
    simp only [List.mem_cons, List.not_mem_nil, or_false] at h
    rcases h with rfl | rfl | rfl | rfl
    · exact bg_of hw rfl
    · exact bg_of f2 rfl
    · exact bg_of f3 rfl
    · exact bg_of f4 rfl)
  refine vc_go (va_runV (As := As) (rest := rest) (g := F0 m pc ls st) ⟨hx, hb, hml, hown, hts⟩ hM (cwV (R := ({ frames := fr, cells := 0, slots := 0, locals := lo } : Room)) n hts hG rfl rfl rfl ⟨rfl, f5⟩ hroom) ⟨vP_blind _ _ _, va_recv hK.1 hP hcl (wl_at M hc), fun U hU hW => ⟨rfl, by rw [hU]; exact hP, Kn.moved hK hW (by rw [hU]; exact hS)⟩⟩ rfl hn hl.1 hst (lv_room h8) hd ⟨Nat.le_refl _, Nat.le_refl _⟩) hS (fun H1 locs1 hP1 hS1 => k H1 locs1 ls hP1 hS1 hl)
theorem V.callS (C : Cx G X cc nL own ret fr lo cw) {y : MethodName} {cy : ByteArray} {ny fy ly n : Nat} {ry : Option FieldType} {As rest : List Value} {ovc : Option Value} {M1 : Mm} (hM : Mt X.2.1 G y cy ny ry fy ly As M ovc M1) (hF : MS y cy ny ry n) {ix : Nat} (hw : Cond.methodLink own ix y ∈ lw_tbl)
    (hst : st = As.reverse ++ rest) (hn : As.length = n) (hroom : fy + 1 ≤ fr ∧ 8 + (ny + 11) + ly ≤ lo) (h8 : (rest.map fun v => v.category).sum ≤ 8) (hd : decode cc pc = .ok (.invokestatic ix, 3)) (k : V G X nL ov Mf (pc + 3) lv (ovc.toList ++ rest) M1) : V G X nL ov Mf pc lv st M := by
  obtain ⟨p, l, e, R, s, m, args, below, meth, cd⟩ := X
  obtain ⟨hx, hb, hml, hr, hlk, hown, hts, hK, hR⟩ := C
  intro H locs ls hP hS hl
  subst hR
  obtain ⟨f1, f2, f4, f5⟩ := hF
  have hG : GoodIn (cw :: bg) (va_wsS own ix y (Cond.code y cy ny ry :: bg)) := bg_GoodIn f1 [.methodLink own ix y, .static y, .initialized y.cls] (by
    intro w h
    simp only [List.mem_cons, List.not_mem_nil, or_false] at h
    rcases h with rfl | rfl | rfl
    · exact bg_of hw rfl
    · exact bg_of f2 rfl
    · exact bg_of f4 rfl)
  refine vc_go (va_runS (As := As) (rest := rest) (g := F0 m pc ls st) ⟨hx, hb, hml, hown, hts⟩ hM (va_cwS (R := ({ frames := fr, cells := 0, slots := 0, locals := lo } : Room)) n hts hG rfl rfl rfl f5 hroom) ⟨vP_blind _ _ _, fun U hU hW => ⟨rfl, by rw [hU]; exact hP, Kn.moved hK hW (by rw [hU]; exact hS)⟩⟩ rfl hn hl.1 hst (lv_room h8) hd ⟨Nat.le_refl _, Nat.le_refl _⟩) hS (fun H1 locs1 hP1 hS1 => k H1 locs1 ls hP1 hS1 hl)
/-- the one call of a nest mate's private static method -/
theorem V.callN (C : Cx G X cc nL RX4 ret fr lo cw) {cy : ByteArray} {ny fy ly n : Nat} {ry : Option FieldType} {As rest : List Value} {ovc : Option Value} {M1 : Mm} (hM : Mt X.2.1 G yX8_isWithin cy ny ry fy ly As M ovc M1) (hF : MS yX8_isWithin cy ny ry n)
    (hst : st = As.reverse ++ rest) (hn : As.length = n) (hroom : fy + 1 ≤ fr ∧ 8 + (ny + 11) + ly ≤ lo) (h8 : (rest.map fun v => v.category).sum ≤ 8) (hd : decode cc pc = .ok (.invokestatic 30, 3)) (k : V G X nL ov Mf (pc + 3) lv (ovc.toList ++ rest) M1) : V G X nL ov Mf pc lv st M := by
  obtain ⟨p, l, e, R, s, m, args, below, meth, cd⟩ := X
  obtain ⟨hx, hb, hml, hr, hlk, hown, hts, hK, hR⟩ := C
  intro H locs ls hP hS hl
  subst hR
  obtain ⟨f1, f2, f4, f5⟩ := hF
  have hG : GoodIn (cw :: bg) (Cond.code yX8_isWithin cy ny ry :: bg) := bg_GoodIn f1 [] (by simp)
  have h1 := hts _ (List.mem_cons_of_mem _ (bg_of f4 rfl))
  have h2 := hts _ (List.mem_cons_of_mem _ (bg_of f2 rfl))
  refine vc_go (va_runSN (As := As) (rest := rest) (g := F0 m pc ls st) ⟨hx, hb, hml, hown, hts⟩ hM ⟨va_cnB (R := ({ frames := fr, cells := 0, slots := 0, locals := lo } : Room)) n hts hG rfl rfl rfl hK.2.2.1 h1 f5 hroom, h2, trivial⟩ ⟨vP_blind _ _ _, fun U hU hW => ⟨rfl, by rw [hU]; exact hP, Kn.moved hK hW (by rw [hU]; exact hS)⟩⟩ rfl hn hl.1 hst (lv_room h8) hd ⟨Nat.le_refl _, Nat.le_refl _⟩) hS (fun H1 locs1 hP1 hS1 => k H1 locs1 ls hP1 hS1 hl)
theorem en_cpI_ne {M : Mm} {c d n a : Nat} (h : a ≠ d) (x : Sh) : en G (cpI M c d n) a x = en G M a x := by
  have e0 : (cpI M c d n).1 a = M.1 a := by funext b; simp [cpI, h]
  rcases x with ⟨t, n⟩ | ⟨ci, fl⟩ | rs
  · match t with
    | 0 => simp only [en, e0]
    | 1 => rfl
    | t + 2 => simp only [en, e0]
  · have e : (fun (j : Nat) (f : Fk) => fv G (cpI M c d n) a j f) = fun j f => fv G M a j f := by
      funext j f
      rcases f with _ | _ | r <;> simp only [fv, e0] <;> rfl
    simp only [en, e]
  · rfl
theorem en_cpL_ne {M : Mm} {c d n a : Nat} (h : a ≠ d) (x : Sh) : en G (cpL M c d n) a x = en G M a x := by
  have e0 : (cpL M c d n).2 a = M.2 a := by funext b; simp [cpL, h]
  rcases x with ⟨t, n⟩ | ⟨ci, fl⟩ | rs
  · match t with
    | 0 => rfl
    | 1 => simp only [en, e0]
    | t + 2 => rfl
  · have e : (fun (j : Nat) (f : Fk) => fv G (cpL M c d n) a j f) = fun j f => fv G M a j f := by
      funext j f
      rcases f with _ | _ | r <;> simp only [fv, e0] <;> rfl
    simp only [en, e]
  · rfl
def MC (own : String) (ix : Nat) : Prop := Cond.methodLink own ix arraycopyName ∈ lw_tbl ∧ Cond.native arraycopyName ∈ lw_tbl ∧ Cond.static arraycopyName ∈ lw_tbl ∧ Cond.initialized "java/lang/System" ∈ lw_tbl
theorem V.copyI (C : Cx G X cc nL own ret fr lo cw) {ix : Nat} (hF : MC own ix) {a b na nb : Nat} (ha : (gS G)[a]? = some (.inl (0, na))) (hbb : (gS G)[b]? = some (.inl (0, nb))) {n : Int32} (h3 : ¬ n < 0) (h4 : n.toNatClampNeg ≤ na) (h5 : n.toNatClampNeg ≤ nb) (hfr : 1 ≤ fr) (hlo : (st.map fun v => v.category).sum + (nativeFrameWords "java/lang/System" "arraycopy" 5 + 11) ≤ lo) (hd : decode cc pc = .ok (.invokestatic ix, 3))
    (k : V G X nL ov Mf (pc + 3) lv st (cpI M a b n.toNatClampNeg)) : V G X nL ov Mf pc lv (.int n :: .int 0 :: .ref (gA G b) :: .int 0 :: .ref (gA G a) :: st) M := by
  obtain ⟨p, l, e, R, s, m, args, below, meth, cd⟩ := X
  obtain ⟨hx, hb, hml, hr, hlk, hown, hts, hK, hR⟩ := C
  intro H locs ls hP hS hl
  subst hR
  have w : ∀ {c : Cond}, c ∈ lw_tbl → goodWord c = true → c.before args s = true := fun h1 h2 => hts _ (List.mem_cons_of_mem _ (bg_of h1 h2))
  refine va_copyi hx hb (hml.trans hl.1.symm) hown (w hF.1 rfl) (w hF.2.1 rfl) (w hF.2.2.1 rfl) (w hF.2.2.2 rfl) hK.1 hP (wl_D M hK.2.1) hS a b 0 0 (wl_at M ha) (wl_at M hbb) rfl rfl rfl (sp := 0) (dp := 0) (by decide) (by decide) h3 (by rw [show ((0 : Int32).toNatClampNeg) = 0 from rfl]; omega) (by rw [show ((0 : Int32).toNatClampNeg) = 0 from rfl]; omega) (fun _ _ => rfl) hfr hlo hd (fun H1 locs1 hP1 _ hS1 => ?_)
  have e := wl_set (M := M) (M' := cpI M a b n.toNatClampNeg) hbb (fun a y h => en_cpI_ne h y)
  have e2 : (cpI M a b n.toNatClampNeg).1 b = va_cpy (M.1 a) (M.1 b) (0 : Int32).toNatClampNeg (0 : Int32).toNatClampNeg n.toNatClampNeg := by
    funext j
    rw [show ((0 : Int32).toNatClampNeg) = 0 from rfl]
    simp [cpI, va_cpy]
  simp only [en, e2] at e
  rw [e] at hP1
  exact k H1 locs1 ls hP1 hS1 hl
theorem V.copyL (C : Cx G X cc nL own ret fr lo cw) {ix : Nat} (hF : MC own ix) {a b na nb : Nat} (ha : (gS G)[a]? = some (.inl (1, na))) (hbb : (gS G)[b]? = some (.inl (1, nb))) {n : Int32} (h3 : ¬ n < 0) (h4 : n.toNatClampNeg ≤ na) (h5 : n.toNatClampNeg ≤ nb) (hfr : 1 ≤ fr) (hlo : (st.map fun v => v.category).sum + (nativeFrameWords "java/lang/System" "arraycopy" 5 + 11) ≤ lo) (hd : decode cc pc = .ok (.invokestatic ix, 3))
    (k : V G X nL ov Mf (pc + 3) lv st (cpL M a b n.toNatClampNeg)) : V G X nL ov Mf pc lv (.int n :: .int 0 :: .ref (gA G b) :: .int 0 :: .ref (gA G a) :: st) M := by
  obtain ⟨p, l, e, R, s, m, args, below, meth, cd⟩ := X
  obtain ⟨hx, hb, hml, hr, hlk, hown, hts, hK, hR⟩ := C
  intro H locs ls hP hS hl
  subst hR
  have w : ∀ {c : Cond}, c ∈ lw_tbl → goodWord c = true → c.before args s = true := fun h1 h2 => hts _ (List.mem_cons_of_mem _ (bg_of h1 h2))
  refine va_copyl hx hb (hml.trans hl.1.symm) hown (w hF.1 rfl) (w hF.2.1 rfl) (w hF.2.2.1 rfl) (w hF.2.2.2 rfl) hK.1 hP (wl_D M hK.2.1) hS a b 1 1 (wl_at M ha) (wl_at M hbb) rfl rfl rfl (sp := 0) (dp := 0) (by decide) (by decide) h3 (by rw [show ((0 : Int32).toNatClampNeg) = 0 from rfl]; omega) (by rw [show ((0 : Int32).toNatClampNeg) = 0 from rfl]; omega) (fun _ _ => rfl) hfr hlo hd (fun H1 locs1 hP1 _ hS1 => ?_)
  have e := wl_set (M := M) (M' := cpL M a b n.toNatClampNeg) hbb (fun a y h => en_cpL_ne h y)
  have e2 : (cpL M a b n.toNatClampNeg).2 b = va_cpy (M.2 a) (M.2 b) (0 : Int32).toNatClampNeg (0 : Int32).toNatClampNeg n.toNatClampNeg := by
    funext j
    rw [show ((0 : Int32).toNatClampNeg) = 0 from rfl]
    simp [cpL, va_cpy]
  simp only [en, e2] at e
  rw [e] at hP1
  exact k H1 locs1 ls hP1 hS1 hl
theorem V.getLk (C : Cx G X cc nL RX2 ret fr lo cw) {ix : Nat} (hw : Cond.fieldLink RX2 ix RX2 "LACKING" "[J" ∈ lw_tbl) (hd : decode cc pc = .ok (.getstatic ix, 3)) (k : V G X nL ov Mf (pc + 3) lv (.ref (gL G) :: st) M) : V G X nL ov Mf pc lv st M := by
  obtain ⟨p, l, e, R, s, m, args, below, meth, cd⟩ := X
  obtain ⟨hx, hb, hml, hr, hlk, hown, hts, hK, hR⟩ := C
  intro H locs ls hP hS hl
  exact va_gets hx hb hK.2.2.2.1 hS hown (hts _ (List.mem_cons_of_mem _ (bg_of hw rfl))) (fun _ h => h) hd (k H locs ls hP hS hl)
theorem V.ldLk (C : Cx G X cc nL own ret fr lo cw) {i : Int32} (hi : vp_in i 6) (hd : decode cc pc = .ok (.laload, 1)) (k : V G X nL ov Mf (pc + 1) lv (.long (lkF i.toNatClampNeg) :: st) M) : V G X nL ov Mf pc lv (.int i :: .ref (gL G) :: st) M := by
  obtain ⟨p, l, e, R, s, m, args, below, meth, cd⟩ := X
  obtain ⟨hx, hb, hml, hr, hlk, hown, hts, hK, hR⟩ := C
  intro H locs ls hP hS hl
  obtain ⟨cell, c1, c2, c3, c4, c5⟩ := hK.2.2.2.2.1
  have c1' : H[gL G]? = some cell := by
    rw [hS.2.1 _ (Array.getElem?_eq_some_iff.mp c1).1 hK.2.2.2.2.2]
    exact c1
  have hlt : i.toNatClampNeg < 6 := Nat.not_le.mp fun q => hi (Or.inr q)
  exact W.lald hx hb c1' c2 c3 (by rw [c4]; exact hi) (c5 _ hlt) rfl rfl hd (k H locs ls hP hS hl)
end VR3
end
