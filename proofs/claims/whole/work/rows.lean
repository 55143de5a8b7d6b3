section
/-! Names of the claim: words of the tables, classes, fields, methods (out of the printed names). -/
-- ===== PART A: goes FIRST, ahead of the names: the tables' words, and 'selects' of the private methods out of them =====
/-- a private method of a class that the tables say can be made, by its rows of tables_1 -/
def lw_okq (q : MethodName × Nat) : Prop := (q.1.cls ≠ "java/lang/invoke/MethodHandle" ∧ q.1.cls ≠ "java/lang/invoke/VarHandle") ∧ Cond.instantiable q.1.cls q.2 ∈ tables_1 ∧ Cond.privateMethod q.1 ∈ tables_1 ∧ Cond.instanceMethod q.1 ∈ tables_1
theorem lw_p0 : lw_okq (⟨"BikeTown", "hasBegun", "()Z"⟩, 10) := ⟨⟨by decide +kernel, by decide +kernel⟩, List.mem_of_getElem? (i := 18) (by decide +kernel), List.mem_of_getElem? (i := 478) (by decide +kernel), List.mem_of_getElem? (i := 479) (by decide +kernel)⟩
theorem lw_p1 : lw_okq (⟨"BikeTown$Day", "settle", "(II)V"⟩, 16) := ⟨⟨by decide +kernel, by decide +kernel⟩, List.mem_of_getElem? (i := 182) (by decide +kernel), List.mem_of_getElem? (i := 510) (by decide +kernel), List.mem_of_getElem? (i := 511) (by decide +kernel)⟩
theorem lw_p2 : lw_okq (⟨"BikeTown", "byHand", "(III)I"⟩, 10) := ⟨⟨by decide +kernel, by decide +kernel⟩, List.mem_of_getElem? (i := 18) (by decide +kernel), List.mem_of_getElem? (i := 538) (by decide +kernel), List.mem_of_getElem? (i := 539) (by decide +kernel)⟩
theorem lw_p3 : lw_okq (⟨"BikeTown$Day", "setOpen", "(IZ)V"⟩, 16) := ⟨⟨by decide +kernel, by decide +kernel⟩, List.mem_of_getElem? (i := 182) (by decide +kernel), List.mem_of_getElem? (i := 555) (by decide +kernel), List.mem_of_getElem? (i := 556) (by decide +kernel)⟩
theorem lw_p4 : lw_okq (⟨"BikeTown$Day", "tellFaulty", "(I)V"⟩, 16) := ⟨⟨by decide +kernel, by decide +kernel⟩, List.mem_of_getElem? (i := 182) (by decide +kernel), List.mem_of_getElem? (i := 563) (by decide +kernel), List.mem_of_getElem? (i := 564) (by decide +kernel)⟩
theorem lw_p5 : lw_okq (⟨"BikeTown$Day", "isAt", "(II)Z"⟩, 16) := ⟨⟨by decide +kernel, by decide +kernel⟩, List.mem_of_getElem? (i := 182) (by decide +kernel), List.mem_of_getElem? (i := 568) (by decide +kernel), List.mem_of_getElem? (i := 569) (by decide +kernel)⟩
theorem lw_p6 : lw_okq (⟨"BikeTown$Day", "lift", "(II)V"⟩, 16) := ⟨⟨by decide +kernel, by decide +kernel⟩, List.mem_of_getElem? (i := 182) (by decide +kernel), List.mem_of_getElem? (i := 572) (by decide +kernel), List.mem_of_getElem? (i := 573) (by decide +kernel)⟩
theorem lw_p7 : lw_okq (⟨"BikeTown$Day", "endRides", "()V"⟩, 16) := ⟨⟨by decide +kernel, by decide +kernel⟩, List.mem_of_getElem? (i := 182) (by decide +kernel), List.mem_of_getElem? (i := 657) (by decide +kernel), List.mem_of_getElem? (i := 658) (by decide +kernel)⟩
theorem lw_p8 : lw_okq (⟨"BikeTown$Day", "endRide", "(I)V"⟩, 16) := ⟨⟨by decide +kernel, by decide +kernel⟩, List.mem_of_getElem? (i := 182) (by decide +kernel), List.mem_of_getElem? (i := 661) (by decide +kernel), List.mem_of_getElem? (i := 662) (by decide +kernel)⟩
theorem lw_p9 : lw_okq (⟨"BikeTown$Day", "takesBikes", "(I)Z"⟩, 16) := ⟨⟨by decide +kernel, by decide +kernel⟩, List.mem_of_getElem? (i := 182) (by decide +kernel), List.mem_of_getElem? (i := 666) (by decide +kernel), List.mem_of_getElem? (i := 667) (by decide +kernel)⟩
theorem lw_p10 : lw_okq (⟨"BikeTown$Day", "leaveBike", "(III)V"⟩, 16) := ⟨⟨by decide +kernel, by decide +kernel⟩, List.mem_of_getElem? (i := 182) (by decide +kernel), List.mem_of_getElem? (i := 670) (by decide +kernel), List.mem_of_getElem? (i := 671) (by decide +kernel)⟩
theorem lw_p11 : lw_okq (⟨"BikeTown$Day", "nearestThatTakes", "(I)I"⟩, 16) := ⟨⟨by decide +kernel, by decide +kernel⟩, List.mem_of_getElem? (i := 182) (by decide +kernel), List.mem_of_getElem? (i := 674) (by decide +kernel), List.mem_of_getElem? (i := 675) (by decide +kernel)⟩
theorem lw_p12 : lw_okq (⟨"BikeTown$Day", "mendBikes", "()V"⟩, 16) := ⟨⟨by decide +kernel, by decide +kernel⟩, List.mem_of_getElem? (i := 182) (by decide +kernel), List.mem_of_getElem? (i := 685) (by decide +kernel), List.mem_of_getElem? (i := 686) (by decide +kernel)⟩
theorem lw_p13 : lw_okq (⟨"BikeTown$Day", "followRules", "()V"⟩, 16) := ⟨⟨by decide +kernel, by decide +kernel⟩, List.mem_of_getElem? (i := 182) (by decide +kernel), List.mem_of_getElem? (i := 689) (by decide +kernel), List.mem_of_getElem? (i := 690) (by decide +kernel)⟩
theorem lw_p14 : lw_okq (⟨"BikeTown$Day", "followRule", "(II)V"⟩, 16) := ⟨⟨by decide +kernel, by decide +kernel⟩, List.mem_of_getElem? (i := 182) (by decide +kernel), List.mem_of_getElem? (i := 693) (by decide +kernel), List.mem_of_getElem? (i := 694) (by decide +kernel)⟩
theorem lw_p15 : lw_okq (⟨"BikeTown$Day", "nameAll", "(I)V"⟩, 16) := ⟨⟨by decide +kernel, by decide +kernel⟩, List.mem_of_getElem? (i := 182) (by decide +kernel), List.mem_of_getElem? (i := 697) (by decide +kernel), List.mem_of_getElem? (i := 698) (by decide +kernel)⟩
def lw_privs_1 : List (MethodName × Nat) := [(⟨"BikeTown", "hasBegun", "()Z"⟩, 10), (⟨"BikeTown$Day", "settle", "(II)V"⟩, 16), (⟨"BikeTown", "byHand", "(III)I"⟩, 10), (⟨"BikeTown$Day", "setOpen", "(IZ)V"⟩, 16), (⟨"BikeTown$Day", "tellFaulty", "(I)V"⟩, 16), (⟨"BikeTown$Day", "isAt", "(II)Z"⟩, 16), (⟨"BikeTown$Day", "lift", "(II)V"⟩, 16), (⟨"BikeTown$Day", "endRides", "()V"⟩, 16), (⟨"BikeTown$Day", "endRide", "(I)V"⟩, 16), (⟨"BikeTown$Day", "takesBikes", "(I)Z"⟩, 16), (⟨"BikeTown$Day", "leaveBike", "(III)V"⟩, 16), (⟨"BikeTown$Day", "nearestThatTakes", "(I)I"⟩, 16), (⟨"BikeTown$Day", "mendBikes", "()V"⟩, 16), (⟨"BikeTown$Day", "followRules", "()V"⟩, 16), (⟨"BikeTown$Day", "followRule", "(II)V"⟩, 16), (⟨"BikeTown$Day", "nameAll", "(I)V"⟩, 16)]
theorem lw_r1 : ∀ q ∈ lw_privs_1, lw_okq q := List.forall_mem_cons.mpr ⟨lw_p0, List.forall_mem_cons.mpr ⟨lw_p1, List.forall_mem_cons.mpr ⟨lw_p2, List.forall_mem_cons.mpr ⟨lw_p3, List.forall_mem_cons.mpr ⟨lw_p4, List.forall_mem_cons.mpr ⟨lw_p5, List.forall_mem_cons.mpr ⟨lw_p6, List.forall_mem_cons.mpr ⟨lw_p7, List.forall_mem_cons.mpr ⟨lw_p8, List.forall_mem_cons.mpr ⟨lw_p9, List.forall_mem_cons.mpr ⟨lw_p10, List.forall_mem_cons.mpr ⟨lw_p11, List.forall_mem_cons.mpr ⟨lw_p12, List.forall_mem_cons.mpr ⟨lw_p13, List.forall_mem_cons.mpr ⟨lw_p14, List.forall_mem_cons.mpr ⟨lw_p15, fun _ h => absurd h List.not_mem_nil⟩⟩⟩⟩⟩⟩⟩⟩⟩⟩⟩⟩⟩⟩⟩⟩
theorem lw_p16 : lw_okq (⟨"BikeTown$Day", "hour", "()I"⟩, 16) := ⟨⟨by decide +kernel, by decide +kernel⟩, List.mem_of_getElem? (i := 182) (by decide +kernel), List.mem_of_getElem? (i := 701) (by decide +kernel), List.mem_of_getElem? (i := 702) (by decide +kernel)⟩
theorem lw_p17 : lw_okq (⟨"BikeTown$Rules", "begin", "(IZ)V"⟩, 11) := ⟨⟨by decide +kernel, by decide +kernel⟩, List.mem_of_getElem? (i := 105) (by decide +kernel), List.mem_of_getElem? (i := 709) (by decide +kernel), List.mem_of_getElem? (i := 710) (by decide +kernel)⟩
theorem lw_p18 : lw_okq (⟨"BikeTown$Rules", "compare", "([II[I)Z"⟩, 11) := ⟨⟨by decide +kernel, by decide +kernel⟩, List.mem_of_getElem? (i := 105) (by decide +kernel), List.mem_of_getElem? (i := 713) (by decide +kernel), List.mem_of_getElem? (i := 714) (by decide +kernel)⟩
theorem lw_p19 : lw_okq (⟨"BikeTown$Rules", "readSum", "([II[I)I"⟩, 11) := ⟨⟨by decide +kernel, by decide +kernel⟩, List.mem_of_getElem? (i := 105) (by decide +kernel), List.mem_of_getElem? (i := 717) (by decide +kernel), List.mem_of_getElem? (i := 718) (by decide +kernel)⟩
theorem lw_p20 : lw_okq (⟨"BikeTown$Day", "firstFaulty", "(I)I"⟩, 16) := ⟨⟨by decide +kernel, by decide +kernel⟩, List.mem_of_getElem? (i := 182) (by decide +kernel), List.mem_of_getElem? (i := 731) (by decide +kernel), List.mem_of_getElem? (i := 732) (by decide +kernel)⟩
theorem lw_p21 : lw_okq (⟨"BikeTown$Day", "sendToShop", "(I)V"⟩, 16) := ⟨⟨by decide +kernel, by decide +kernel⟩, List.mem_of_getElem? (i := 182) (by decide +kernel), List.mem_of_getElem? (i := 735) (by decide +kernel), List.mem_of_getElem? (i := 736) (by decide +kernel)⟩
theorem lw_p22 : lw_okq (⟨"BikeTown$Day", "driveVan", "()V"⟩, 16) := ⟨⟨by decide +kernel, by decide +kernel⟩, List.mem_of_getElem? (i := 182) (by decide +kernel), List.mem_of_getElem? (i := 739) (by decide +kernel), List.mem_of_getElem? (i := 740) (by decide +kernel)⟩
theorem lw_p23 : lw_okq (⟨"BikeTown$Day", "doStop", "(II)V"⟩, 16) := ⟨⟨by decide +kernel, by decide +kernel⟩, List.mem_of_getElem? (i := 182) (by decide +kernel), List.mem_of_getElem? (i := 743) (by decide +kernel), List.mem_of_getElem? (i := 744) (by decide +kernel)⟩
theorem lw_p24 : lw_okq (⟨"BikeTown$Day", "vanTakes", "(I)V"⟩, 16) := ⟨⟨by decide +kernel, by decide +kernel⟩, List.mem_of_getElem? (i := 182) (by decide +kernel), List.mem_of_getElem? (i := 747) (by decide +kernel), List.mem_of_getElem? (i := 748) (by decide +kernel)⟩
theorem lw_p25 : lw_okq (⟨"BikeTown$Day", "bestBike", "(I)I"⟩, 16) := ⟨⟨by decide +kernel, by decide +kernel⟩, List.mem_of_getElem? (i := 182) (by decide +kernel), List.mem_of_getElem? (i := 751) (by decide +kernel), List.mem_of_getElem? (i := 752) (by decide +kernel)⟩
theorem lw_p26 : lw_okq (⟨"BikeTown$Day", "vanLeaves", "(I)V"⟩, 16) := ⟨⟨by decide +kernel, by decide +kernel⟩, List.mem_of_getElem? (i := 182) (by decide +kernel), List.mem_of_getElem? (i := 759) (by decide +kernel), List.mem_of_getElem? (i := 760) (by decide +kernel)⟩
theorem lw_p27 : lw_okq (⟨"BikeTown$Day", "lookAtRiders", "()V"⟩, 16) := ⟨⟨by decide +kernel, by decide +kernel⟩, List.mem_of_getElem? (i := 182) (by decide +kernel), List.mem_of_getElem? (i := 771) (by decide +kernel), List.mem_of_getElem? (i := 772) (by decide +kernel)⟩
theorem lw_p28 : lw_okq (⟨"BikeTown$Day", "lookAtRider", "(I)V"⟩, 16) := ⟨⟨by decide +kernel, by decide +kernel⟩, List.mem_of_getElem? (i := 182) (by decide +kernel), List.mem_of_getElem? (i := 775) (by decide +kernel), List.mem_of_getElem? (i := 776) (by decide +kernel)⟩
theorem lw_p29 : lw_okq (⟨"BikeTown$Day", "lose", "(III)V"⟩, 16) := ⟨⟨by decide +kernel, by decide +kernel⟩, List.mem_of_getElem? (i := 182) (by decide +kernel), List.mem_of_getElem? (i := 779) (by decide +kernel), List.mem_of_getElem? (i := 780) (by decide +kernel)⟩
theorem lw_p30 : lw_okq (⟨"BikeTown$Day", "takeBike", "(III)V"⟩, 16) := ⟨⟨by decide +kernel, by decide +kernel⟩, List.mem_of_getElem? (i := 182) (by decide +kernel), List.mem_of_getElem? (i := 783) (by decide +kernel), List.mem_of_getElem? (i := 784) (by decide +kernel)⟩
theorem lw_p31 : lw_okq (⟨"BikeTown$Day", "countEmpty", "()V"⟩, 16) := ⟨⟨by decide +kernel, by decide +kernel⟩, List.mem_of_getElem? (i := 182) (by decide +kernel), List.mem_of_getElem? (i := 791) (by decide +kernel), List.mem_of_getElem? (i := 792) (by decide +kernel)⟩
def lw_privs_2 : List (MethodName × Nat) := [(⟨"BikeTown$Day", "hour", "()I"⟩, 16), (⟨"BikeTown$Rules", "begin", "(IZ)V"⟩, 11), (⟨"BikeTown$Rules", "compare", "([II[I)Z"⟩, 11), (⟨"BikeTown$Rules", "readSum", "([II[I)I"⟩, 11), (⟨"BikeTown$Day", "firstFaulty", "(I)I"⟩, 16), (⟨"BikeTown$Day", "sendToShop", "(I)V"⟩, 16), (⟨"BikeTown$Day", "driveVan", "()V"⟩, 16), (⟨"BikeTown$Day", "doStop", "(II)V"⟩, 16), (⟨"BikeTown$Day", "vanTakes", "(I)V"⟩, 16), (⟨"BikeTown$Day", "bestBike", "(I)I"⟩, 16), (⟨"BikeTown$Day", "vanLeaves", "(I)V"⟩, 16), (⟨"BikeTown$Day", "lookAtRiders", "()V"⟩, 16), (⟨"BikeTown$Day", "lookAtRider", "(I)V"⟩, 16), (⟨"BikeTown$Day", "lose", "(III)V"⟩, 16), (⟨"BikeTown$Day", "takeBike", "(III)V"⟩, 16), (⟨"BikeTown$Day", "countEmpty", "()V"⟩, 16)]
theorem lw_r2 : ∀ q ∈ lw_privs_2, lw_okq q := List.forall_mem_cons.mpr ⟨lw_p16, List.forall_mem_cons.mpr ⟨lw_p17, List.forall_mem_cons.mpr ⟨lw_p18, List.forall_mem_cons.mpr ⟨lw_p19, List.forall_mem_cons.mpr ⟨lw_p20, List.forall_mem_cons.mpr ⟨lw_p21, List.forall_mem_cons.mpr ⟨lw_p22, List.forall_mem_cons.mpr ⟨lw_p23, List.forall_mem_cons.mpr ⟨lw_p24, List.forall_mem_cons.mpr ⟨lw_p25, List.forall_mem_cons.mpr ⟨lw_p26, List.forall_mem_cons.mpr ⟨lw_p27, List.forall_mem_cons.mpr ⟨lw_p28, List.forall_mem_cons.mpr ⟨lw_p29, List.forall_mem_cons.mpr ⟨lw_p30, List.forall_mem_cons.mpr ⟨lw_p31, fun _ h => absurd h List.not_mem_nil⟩⟩⟩⟩⟩⟩⟩⟩⟩⟩⟩⟩⟩⟩⟩⟩
theorem lw_p32 : lw_okq (⟨"BikeTown$Days", "countWith", "(I)I"⟩, 3) := ⟨⟨by decide +kernel, by decide +kernel⟩, List.mem_of_getElem? (i := 334) (by decide +kernel), List.mem_of_getElem? (i := 879) (by decide +kernel), List.mem_of_getElem? (i := 880) (by decide +kernel)⟩
theorem lw_p33 : lw_okq (⟨"BikeTown", "sumOver", "([[I)I"⟩, 10) := ⟨⟨by decide +kernel, by decide +kernel⟩, List.mem_of_getElem? (i := 18) (by decide +kernel), List.mem_of_getElem? (i := 897) (by decide +kernel), List.mem_of_getElem? (i := 898) (by decide +kernel)⟩
theorem lw_p34 : lw_okq (⟨"BikeTown$Round", "gather", "()V"⟩, 5) := ⟨⟨by decide +kernel, by decide +kernel⟩, List.mem_of_getElem? (i := 352) (by decide +kernel), List.mem_of_getElem? (i := 918) (by decide +kernel), List.mem_of_getElem? (i := 919) (by decide +kernel)⟩
theorem lw_p35 : lw_okq (⟨"BikeTown$Round", "sumOfWants", "(I)I"⟩, 5) := ⟨⟨by decide +kernel, by decide +kernel⟩, List.mem_of_getElem? (i := 352) (by decide +kernel), List.mem_of_getElem? (i := 922) (by decide +kernel), List.mem_of_getElem? (i := 923) (by decide +kernel)⟩
theorem lw_p36 : lw_okq (⟨"BikeTown$Round", "waysFrom", "(LBikeTown$Told;III)I"⟩, 5) := ⟨⟨by decide +kernel, by decide +kernel⟩, List.mem_of_getElem? (i := 352) (by decide +kernel), List.mem_of_getElem? (i := 929) (by decide +kernel), List.mem_of_getElem? (i := 930) (by decide +kernel)⟩
theorem lw_p37 : lw_okq (⟨"BikeTown$Round", "waysVia", "(LBikeTown$Told;III)I"⟩, 5) := ⟨⟨by decide +kernel, by decide +kernel⟩, List.mem_of_getElem? (i := 352) (by decide +kernel), List.mem_of_getElem? (i := 934) (by decide +kernel), List.mem_of_getElem? (i := 935) (by decide +kernel)⟩
theorem lw_p38 : lw_okq (⟨"BikeTown$Round", "firstOfBest", "(LBikeTown$Told;LBikeTown$Van;)I"⟩, 5) := ⟨⟨by decide +kernel, by decide +kernel⟩, List.mem_of_getElem? (i := 352) (by decide +kernel), List.mem_of_getElem? (i := 940) (by decide +kernel), List.mem_of_getElem? (i := 941) (by decide +kernel)⟩
theorem lw_p39 : lw_okq (⟨"BikeTown$Round", "waysOver", "(LBikeTown$Told;LBikeTown$Van;I)I"⟩, 5) := ⟨⟨by decide +kernel, by decide +kernel⟩, List.mem_of_getElem? (i := 352) (by decide +kernel), List.mem_of_getElem? (i := 944) (by decide +kernel), List.mem_of_getElem? (i := 945) (by decide +kernel)⟩
theorem lw_p40 : lw_okq (⟨"BikeTown$Round", "nextOfBest", "(LBikeTown$Told;II)I"⟩, 5) := ⟨⟨by decide +kernel, by decide +kernel⟩, List.mem_of_getElem? (i := 352) (by decide +kernel), List.mem_of_getElem? (i := 956) (by decide +kernel), List.mem_of_getElem? (i := 957) (by decide +kernel)⟩
theorem lw_p41 : lw_okq (⟨"BikeTown$Houses", "isStill", "(II)Z"⟩, 2) := ⟨⟨by decide +kernel, by decide +kernel⟩, List.mem_of_getElem? (i := 375) (by decide +kernel), List.mem_of_getElem? (i := 979) (by decide +kernel), List.mem_of_getElem? (i := 980) (by decide +kernel)⟩
theorem lw_p42 : lw_okq (⟨"BikeTown$Houses", "bestLevel", "(III)I"⟩, 2) := ⟨⟨by decide +kernel, by decide +kernel⟩, List.mem_of_getElem? (i := 375) (by decide +kernel), List.mem_of_getElem? (i := 983) (by decide +kernel), List.mem_of_getElem? (i := 984) (by decide +kernel)⟩
theorem lw_p43 : lw_okq (⟨"BikeTown$Houses", "gainAt", "(IIII)I"⟩, 2) := ⟨⟨by decide +kernel, by decide +kernel⟩, List.mem_of_getElem? (i := 375) (by decide +kernel), List.mem_of_getElem? (i := 987) (by decide +kernel), List.mem_of_getElem? (i := 988) (by decide +kernel)⟩
theorem lw_p44 : lw_okq (⟨"BikeTown$Sites", "measure", "(III)I"⟩, 8) := ⟨⟨by decide +kernel, by decide +kernel⟩, List.mem_of_getElem? (i := 390) (by decide +kernel), List.mem_of_getElem? (i := 1032) (by decide +kernel), List.mem_of_getElem? (i := 1033) (by decide +kernel)⟩
theorem lw_p45 : lw_okq (⟨"BikeTownModel", "begins", "()V"⟩, 50) := ⟨⟨by decide +kernel, by decide +kernel⟩, List.mem_of_getElem? (i := 1089) (by decide +kernel), List.mem_of_getElem? (i := 1095) (by decide +kernel), List.mem_of_getElem? (i := 1096) (by decide +kernel)⟩
theorem lw_p46 : lw_okq (⟨"BikeTownModel", "tells", "(I)V"⟩, 50) := ⟨⟨by decide +kernel, by decide +kernel⟩, List.mem_of_getElem? (i := 1089) (by decide +kernel), List.mem_of_getElem? (i := 1099) (by decide +kernel), List.mem_of_getElem? (i := 1100) (by decide +kernel)⟩
theorem lw_p47 : lw_okq (⟨"BikeTownModel", "isBegun", "()Z"⟩, 50) := ⟨⟨by decide +kernel, by decide +kernel⟩, List.mem_of_getElem? (i := 1089) (by decide +kernel), List.mem_of_getElem? (i := 1261) (by decide +kernel), List.mem_of_getElem? (i := 1262) (by decide +kernel)⟩
def lw_privs_3 : List (MethodName × Nat) := [(⟨"BikeTown$Days", "countWith", "(I)I"⟩, 3), (⟨"BikeTown", "sumOver", "([[I)I"⟩, 10), (⟨"BikeTown$Round", "gather", "()V"⟩, 5), (⟨"BikeTown$Round", "sumOfWants", "(I)I"⟩, 5), (⟨"BikeTown$Round", "waysFrom", "(LBikeTown$Told;III)I"⟩, 5), (⟨"BikeTown$Round", "waysVia", "(LBikeTown$Told;III)I"⟩, 5), (⟨"BikeTown$Round", "firstOfBest", "(LBikeTown$Told;LBikeTown$Van;)I"⟩, 5), (⟨"BikeTown$Round", "waysOver", "(LBikeTown$Told;LBikeTown$Van;I)I"⟩, 5), (⟨"BikeTown$Round", "nextOfBest", "(LBikeTown$Told;II)I"⟩, 5), (⟨"BikeTown$Houses", "isStill", "(II)Z"⟩, 2), (⟨"BikeTown$Houses", "bestLevel", "(III)I"⟩, 2), (⟨"BikeTown$Houses", "gainAt", "(IIII)I"⟩, 2), (⟨"BikeTown$Sites", "measure", "(III)I"⟩, 8), (⟨"BikeTownModel", "begins", "()V"⟩, 50), (⟨"BikeTownModel", "tells", "(I)V"⟩, 50), (⟨"BikeTownModel", "isBegun", "()Z"⟩, 50)]
theorem lw_r3 : ∀ q ∈ lw_privs_3, lw_okq q := List.forall_mem_cons.mpr ⟨lw_p32, List.forall_mem_cons.mpr ⟨lw_p33, List.forall_mem_cons.mpr ⟨lw_p34, List.forall_mem_cons.mpr ⟨lw_p35, List.forall_mem_cons.mpr ⟨lw_p36, List.forall_mem_cons.mpr ⟨lw_p37, List.forall_mem_cons.mpr ⟨lw_p38, List.forall_mem_cons.mpr ⟨lw_p39, List.forall_mem_cons.mpr ⟨lw_p40, List.forall_mem_cons.mpr ⟨lw_p41, List.forall_mem_cons.mpr ⟨lw_p42, List.forall_mem_cons.mpr ⟨lw_p43, List.forall_mem_cons.mpr ⟨lw_p44, List.forall_mem_cons.mpr ⟨lw_p45, List.forall_mem_cons.mpr ⟨lw_p46, List.forall_mem_cons.mpr ⟨lw_p47, fun _ h => absurd h List.not_mem_nil⟩⟩⟩⟩⟩⟩⟩⟩⟩⟩⟩⟩⟩⟩⟩⟩
theorem lw_p48 : lw_okq (⟨"BikeTownModel", "isPost", "(I)Z"⟩, 50) := ⟨⟨by decide +kernel, by decide +kernel⟩, List.mem_of_getElem? (i := 1089) (by decide +kernel), List.mem_of_getElem? (i := 1269) (by decide +kernel), List.mem_of_getElem? (i := 1270) (by decide +kernel)⟩
theorem lw_p49 : lw_okq (⟨"BikeTownModel", "free", "(I)I"⟩, 50) := ⟨⟨by decide +kernel, by decide +kernel⟩, List.mem_of_getElem? (i := 1089) (by decide +kernel), List.mem_of_getElem? (i := 1273) (by decide +kernel), List.mem_of_getElem? (i := 1274) (by decide +kernel)⟩
theorem lw_p50 : lw_okq (⟨"BikeTownModel", "there", "(I)I"⟩, 50) := ⟨⟨by decide +kernel, by decide +kernel⟩, List.mem_of_getElem? (i := 1089) (by decide +kernel), List.mem_of_getElem? (i := 1277) (by decide +kernel), List.mem_of_getElem? (i := 1278) (by decide +kernel)⟩
theorem lw_p51 : lw_okq (⟨"BikeTownModel", "handled", "(III)I"⟩, 50) := ⟨⟨by decide +kernel, by decide +kernel⟩, List.mem_of_getElem? (i := 1089) (by decide +kernel), List.mem_of_getElem? (i := 1297) (by decide +kernel), List.mem_of_getElem? (i := 1298) (by decide +kernel)⟩
theorem lw_p52 : lw_okq (⟨"BikeTownModel", "can", "(III)Z"⟩, 50) := ⟨⟨by decide +kernel, by decide +kernel⟩, List.mem_of_getElem? (i := 1089) (by decide +kernel), List.mem_of_getElem? (i := 1301) (by decide +kernel), List.mem_of_getElem? (i := 1302) (by decide +kernel)⟩
theorem lw_p53 : lw_okq (⟨"BikeTownModel", "byHand", "(III)V"⟩, 50) := ⟨⟨by decide +kernel, by decide +kernel⟩, List.mem_of_getElem? (i := 1089) (by decide +kernel), List.mem_of_getElem? (i := 1305) (by decide +kernel), List.mem_of_getElem? (i := 1306) (by decide +kernel)⟩
theorem lw_p54 : lw_okq (⟨"BikeTownModel", "does", "(III)V"⟩, 50) := ⟨⟨by decide +kernel, by decide +kernel⟩, List.mem_of_getElem? (i := 1089) (by decide +kernel), List.mem_of_getElem? (i := 1309) (by decide +kernel), List.mem_of_getElem? (i := 1310) (by decide +kernel)⟩
theorem lw_p55 : lw_okq (⟨"BikeTownModel", "logs", "(IIII)V"⟩, 50) := ⟨⟨by decide +kernel, by decide +kernel⟩, List.mem_of_getElem? (i := 1089) (by decide +kernel), List.mem_of_getElem? (i := 1313) (by decide +kernel), List.mem_of_getElem? (i := 1314) (by decide +kernel)⟩
theorem lw_p56 : lw_okq (⟨"BikeTownModel", "isBike", "(I)Z"⟩, 50) := ⟨⟨by decide +kernel, by decide +kernel⟩, List.mem_of_getElem? (i := 1089) (by decide +kernel), List.mem_of_getElem? (i := 1325) (by decide +kernel), List.mem_of_getElem? (i := 1326) (by decide +kernel)⟩
theorem lw_p57 : lw_okq (⟨"BikeTownModel", "faultOf", "()I"⟩, 50) := ⟨⟨by decide +kernel, by decide +kernel⟩, List.mem_of_getElem? (i := 1089) (by decide +kernel), List.mem_of_getElem? (i := 1353) (by decide +kernel), List.mem_of_getElem? (i := 1354) (by decide +kernel)⟩
theorem lw_p58 : lw_okq (⟨"BikeTownModel", "goes", "()V"⟩, 50) := ⟨⟨by decide +kernel, by decide +kernel⟩, List.mem_of_getElem? (i := 1089) (by decide +kernel), List.mem_of_getElem? (i := 1372) (by decide +kernel), List.mem_of_getElem? (i := 1373) (by decide +kernel)⟩
theorem lw_p59 : lw_okq (⟨"BikeTownModel", "rides", "(I)V"⟩, 50) := ⟨⟨by decide +kernel, by decide +kernel⟩, List.mem_of_getElem? (i := 1089) (by decide +kernel), List.mem_of_getElem? (i := 1376) (by decide +kernel), List.mem_of_getElem? (i := 1377) (by decide +kernel)⟩
theorem lw_p60 : lw_okq (⟨"BikeTownModel", "wayOf", "(II)I"⟩, 50) := ⟨⟨by decide +kernel, by decide +kernel⟩, List.mem_of_getElem? (i := 1089) (by decide +kernel), List.mem_of_getElem? (i := 1380) (by decide +kernel), List.mem_of_getElem? (i := 1381) (by decide +kernel)⟩
theorem lw_p61 : lw_okq (⟨"BikeTownModel", "isSo", "(II)Z"⟩, 50) := ⟨⟨by decide +kernel, by decide +kernel⟩, List.mem_of_getElem? (i := 1089) (by decide +kernel), List.mem_of_getElem? (i := 1387) (by decide +kernel), List.mem_of_getElem? (i := 1388) (by decide +kernel)⟩
theorem lw_p62 : lw_okq (⟨"BikeTownModel", "symbol", "(I)I"⟩, 50) := ⟨⟨by decide +kernel, by decide +kernel⟩, List.mem_of_getElem? (i := 1089) (by decide +kernel), List.mem_of_getElem? (i := 1391) (by decide +kernel), List.mem_of_getElem? (i := 1392) (by decide +kernel)⟩
theorem lw_p63 : lw_okq (⟨"BikeTownModel", "turned", "(II)I"⟩, 50) := ⟨⟨by decide +kernel, by decide +kernel⟩, List.mem_of_getElem? (i := 1089) (by decide +kernel), List.mem_of_getElem? (i := 1398) (by decide +kernel), List.mem_of_getElem? (i := 1399) (by decide +kernel)⟩
def lw_privs_4 : List (MethodName × Nat) := [(⟨"BikeTownModel", "isPost", "(I)Z"⟩, 50), (⟨"BikeTownModel", "free", "(I)I"⟩, 50), (⟨"BikeTownModel", "there", "(I)I"⟩, 50), (⟨"BikeTownModel", "handled", "(III)I"⟩, 50), (⟨"BikeTownModel", "can", "(III)Z"⟩, 50), (⟨"BikeTownModel", "byHand", "(III)V"⟩, 50), (⟨"BikeTownModel", "does", "(III)V"⟩, 50), (⟨"BikeTownModel", "logs", "(IIII)V"⟩, 50), (⟨"BikeTownModel", "isBike", "(I)Z"⟩, 50), (⟨"BikeTownModel", "faultOf", "()I"⟩, 50), (⟨"BikeTownModel", "goes", "()V"⟩, 50), (⟨"BikeTownModel", "rides", "(I)V"⟩, 50), (⟨"BikeTownModel", "wayOf", "(II)I"⟩, 50), (⟨"BikeTownModel", "isSo", "(II)Z"⟩, 50), (⟨"BikeTownModel", "symbol", "(I)I"⟩, 50), (⟨"BikeTownModel", "turned", "(II)I"⟩, 50)]
theorem lw_r4 : ∀ q ∈ lw_privs_4, lw_okq q := List.forall_mem_cons.mpr ⟨lw_p48, List.forall_mem_cons.mpr ⟨lw_p49, List.forall_mem_cons.mpr ⟨lw_p50, List.forall_mem_cons.mpr ⟨lw_p51, List.forall_mem_cons.mpr ⟨lw_p52, List.forall_mem_cons.mpr ⟨lw_p53, List.forall_mem_cons.mpr ⟨lw_p54, List.forall_mem_cons.mpr ⟨lw_p55, List.forall_mem_cons.mpr ⟨lw_p56, List.forall_mem_cons.mpr ⟨lw_p57, List.forall_mem_cons.mpr ⟨lw_p58, List.forall_mem_cons.mpr ⟨lw_p59, List.forall_mem_cons.mpr ⟨lw_p60, List.forall_mem_cons.mpr ⟨lw_p61, List.forall_mem_cons.mpr ⟨lw_p62, List.forall_mem_cons.mpr ⟨lw_p63, fun _ h => absurd h List.not_mem_nil⟩⟩⟩⟩⟩⟩⟩⟩⟩⟩⟩⟩⟩⟩⟩⟩
theorem lw_p64 : lw_okq (⟨"BikeTownModel", "sum", "(II)I"⟩, 50) := ⟨⟨by decide +kernel, by decide +kernel⟩, List.mem_of_getElem? (i := 1089) (by decide +kernel), List.mem_of_getElem? (i := 1402) (by decide +kernel), List.mem_of_getElem? (i := 1403) (by decide +kernel)⟩
theorem lw_p65 : lw_okq (⟨"BikeTownModel", "good", "(I)I"⟩, 50) := ⟨⟨by decide +kernel, by decide +kernel⟩, List.mem_of_getElem? (i := 1089) (by decide +kernel), List.mem_of_getElem? (i := 1406) (by decide +kernel), List.mem_of_getElem? (i := 1407) (by decide +kernel)⟩
theorem lw_p66 : lw_okq (⟨"BikeTownModel", "acts", "(II)V"⟩, 50) := ⟨⟨by decide +kernel, by decide +kernel⟩, List.mem_of_getElem? (i := 1089) (by decide +kernel), List.mem_of_getElem? (i := 1410) (by decide +kernel), List.mem_of_getElem? (i := 1411) (by decide +kernel)⟩
theorem lw_p67 : lw_okq (⟨"BikeTownModel", "drives", "()V"⟩, 50) := ⟨⟨by decide +kernel, by decide +kernel⟩, List.mem_of_getElem? (i := 1089) (by decide +kernel), List.mem_of_getElem? (i := 1414) (by decide +kernel), List.mem_of_getElem? (i := 1415) (by decide +kernel)⟩
theorem lw_p68 : lw_okq (⟨"BikeTownModel", "stops", "()V"⟩, 50) := ⟨⟨by decide +kernel, by decide +kernel⟩, List.mem_of_getElem? (i := 1089) (by decide +kernel), List.mem_of_getElem? (i := 1418) (by decide +kernel), List.mem_of_getElem? (i := 1419) (by decide +kernel)⟩
theorem lw_p69 : lw_okq (⟨"BikeTownModel", "pick", "(I)I"⟩, 50) := ⟨⟨by decide +kernel, by decide +kernel⟩, List.mem_of_getElem? (i := 1089) (by decide +kernel), List.mem_of_getElem? (i := 1422) (by decide +kernel), List.mem_of_getElem? (i := 1423) (by decide +kernel)⟩
theorem lw_p70 : lw_okq (⟨"BikeTownModel", "comes", "(I)V"⟩, 50) := ⟨⟨by decide +kernel, by decide +kernel⟩, List.mem_of_getElem? (i := 1089) (by decide +kernel), List.mem_of_getElem? (i := 1426) (by decide +kernel), List.mem_of_getElem? (i := 1427) (by decide +kernel)⟩
theorem lw_p71 : lw_okq (⟨"BikeTownModel", "loses", "(II)V"⟩, 50) := ⟨⟨by decide +kernel, by decide +kernel⟩, List.mem_of_getElem? (i := 1089) (by decide +kernel), List.mem_of_getElem? (i := 1430) (by decide +kernel), List.mem_of_getElem? (i := 1431) (by decide +kernel)⟩
theorem lw_p72 : lw_okq (⟨"BikeTownModel", "rounds", "()I"⟩, 50) := ⟨⟨by decide +kernel, by decide +kernel⟩, List.mem_of_getElem? (i := 1089) (by decide +kernel), List.mem_of_getElem? (i := 1486) (by decide +kernel), List.mem_of_getElem? (i := 1487) (by decide +kernel)⟩
theorem lw_p73 : lw_okq (⟨"BikeTownModel", "roundWay", "(II)I"⟩, 50) := ⟨⟨by decide +kernel, by decide +kernel⟩, List.mem_of_getElem? (i := 1089) (by decide +kernel), List.mem_of_getElem? (i := 1491) (by decide +kernel), List.mem_of_getElem? (i := 1492) (by decide +kernel)⟩
theorem lw_p74 : lw_okq (⟨"BikeTownModel", "isStill", "(II)Z"⟩, 50) := ⟨⟨by decide +kernel, by decide +kernel⟩, List.mem_of_getElem? (i := 1089) (by decide +kernel), List.mem_of_getElem? (i := 1511) (by decide +kernel), List.mem_of_getElem? (i := 1512) (by decide +kernel)⟩
theorem lw_p75 : lw_okq (⟨"BikeTownModel", "answer", "(III)I"⟩, 50) := ⟨⟨by decide +kernel, by decide +kernel⟩, List.mem_of_getElem? (i := 1089) (by decide +kernel), List.mem_of_getElem? (i := 1515) (by decide +kernel), List.mem_of_getElem? (i := 1516) (by decide +kernel)⟩
theorem lw_p76 : lw_okq (⟨"BikeTownModel", "nearest", "(II)I"⟩, 50) := ⟨⟨by decide +kernel, by decide +kernel⟩, List.mem_of_getElem? (i := 1089) (by decide +kernel), List.mem_of_getElem? (i := 1539) (by decide +kernel), List.mem_of_getElem? (i := 1540) (by decide +kernel)⟩
theorem lw_p77 : lw_okq (⟨"BikeTownModel", "rows", "(IZ)I"⟩, 50) := ⟨⟨by decide +kernel, by decide +kernel⟩, List.mem_of_getElem? (i := 1089) (by decide +kernel), List.mem_of_getElem? (i := 1551) (by decide +kernel), List.mem_of_getElem? (i := 1552) (by decide +kernel)⟩
def lw_privs_5 : List (MethodName × Nat) := [(⟨"BikeTownModel", "sum", "(II)I"⟩, 50), (⟨"BikeTownModel", "good", "(I)I"⟩, 50), (⟨"BikeTownModel", "acts", "(II)V"⟩, 50), (⟨"BikeTownModel", "drives", "()V"⟩, 50), (⟨"BikeTownModel", "stops", "()V"⟩, 50), (⟨"BikeTownModel", "pick", "(I)I"⟩, 50), (⟨"BikeTownModel", "comes", "(I)V"⟩, 50), (⟨"BikeTownModel", "loses", "(II)V"⟩, 50), (⟨"BikeTownModel", "rounds", "()I"⟩, 50), (⟨"BikeTownModel", "roundWay", "(II)I"⟩, 50), (⟨"BikeTownModel", "isStill", "(II)Z"⟩, 50), (⟨"BikeTownModel", "answer", "(III)I"⟩, 50), (⟨"BikeTownModel", "nearest", "(II)I"⟩, 50), (⟨"BikeTownModel", "rows", "(IZ)I"⟩, 50)]
theorem lw_r5 : ∀ q ∈ lw_privs_5, lw_okq q := List.forall_mem_cons.mpr ⟨lw_p64, List.forall_mem_cons.mpr ⟨lw_p65, List.forall_mem_cons.mpr ⟨lw_p66, List.forall_mem_cons.mpr ⟨lw_p67, List.forall_mem_cons.mpr ⟨lw_p68, List.forall_mem_cons.mpr ⟨lw_p69, List.forall_mem_cons.mpr ⟨lw_p70, List.forall_mem_cons.mpr ⟨lw_p71, List.forall_mem_cons.mpr ⟨lw_p72, List.forall_mem_cons.mpr ⟨lw_p73, List.forall_mem_cons.mpr ⟨lw_p74, List.forall_mem_cons.mpr ⟨lw_p75, List.forall_mem_cons.mpr ⟨lw_p76, List.forall_mem_cons.mpr ⟨lw_p77, fun _ h => absurd h List.not_mem_nil⟩⟩⟩⟩⟩⟩⟩⟩⟩⟩⟩⟩⟩⟩
def lw_privs : List (MethodName × Nat) := lw_privs_1 ++ (lw_privs_2 ++ (lw_privs_3 ++ (lw_privs_4 ++ (lw_privs_5))))
def lw_tbl : List Cond := k2_sels lw_privs ++ tables_1
theorem lw_privs_ok : ∀ q ∈ lw_privs, lw_okq q := by
  show ∀ q ∈ lw_privs_1 ++ (lw_privs_2 ++ (lw_privs_3 ++ (lw_privs_4 ++ (lw_privs_5)))), lw_okq q
  exact List.forall_mem_append.mpr ⟨lw_r1, List.forall_mem_append.mpr ⟨lw_r2, List.forall_mem_append.mpr ⟨lw_r3, List.forall_mem_append.mpr ⟨lw_r4, lw_r5⟩⟩⟩⟩

def RX0 : String := "BikeTown$Day"
def TX0 : u_T := fun k => match k with
  | 0 => ("BikeTown$Day", "told", "LBikeTown$Told;", true)
  | 1 => ("BikeTown$Day", "rules", "LBikeTown$Rules;", true)
  | 2 => ("BikeTown$Day", "diary", "LBikeTown$Diary;", true)
  | 3 => ("BikeTown$Day", "van", "LBikeTown$Van;", true)
  | 4 => ("BikeTown$Day", "minute", "I", false)
  | 5 => ("BikeTown$Day", "turnedRule", "I", false)
  | 6 => ("BikeTown$Day", "price", "[I", true)
  | 7 => ("BikeTown$Day", "isOpen", "[Z", true)
  | 8 => ("BikeTown$Day", "bikesAt", "[I", true)
  | 9 => ("BikeTown$Day", "soundAt", "[I", true)
  | 10 => ("BikeTown$Day", "waiting", "[I", true)
  | 11 => ("BikeTown$Day", "bike", "[[I", true)
  | 12 => ("BikeTown$Day", "mendedAt", "[I", true)
  | 13 => ("BikeTown$Day", "rider", "[[I", true)
  | 14 => ("BikeTown$Day", "rideEnds", "[I", true)
  | _ => ("BikeTown$Day", "names", "[I", true)
def tyX0 : Nat → FieldType := fun k => match k with
  | 0 => .object "BikeTown$Told"
  | 1 => .object "BikeTown$Rules"
  | 2 => .object "BikeTown$Diary"
  | 3 => .object "BikeTown$Van"
  | 4 => .int
  | 5 => .int
  | 6 => .array .int
  | 7 => .array .boolean
  | 8 => .array .int
  | 9 => .array .int
  | 10 => .array .int
  | 11 => .array (.array .int)
  | 12 => .array .int
  | 13 => .array (.array .int)
  | 14 => .array .int
  | _ => .array .int
abbrev wsX00 : List Cond := u_ws RX0 TX0 16
theorem nmX0 : ∀ a, a < 16 → ∀ b, b < 16 → a ≠ b → (TX0 a).2.1 ≠ (TX0 b).2.1 := by decide +kernel
theorem tyX0_ok : ∀ k, k < 16 → parseFieldDescriptor (TX0 k).2.2.1 = some (tyX0 k) := by decide +kernel
abbrev cX0_init : ByteArray := prog_2_method_1_code
def yX0_init : MethodName := ⟨RX0, "<init>", "(LBikeTown$Told;LBikeTown$Rules;I)V"⟩
abbrev cX0_begin : ByteArray := prog_2_method_2_code
def yX0_begin : MethodName := ⟨RX0, "begin", "(I)V"⟩
abbrev cX0_startPost : ByteArray := prog_2_method_3_code
def yX0_startPost : MethodName := ⟨RX0, "startPost", "(I)V"⟩
abbrev cX0_startBike : ByteArray := prog_2_method_4_code
def yX0_startBike : MethodName := ⟨RX0, "startBike", "(I)V"⟩
abbrev cX0_startRider : ByteArray := prog_2_method_5_code
def yX0_startRider : MethodName := ⟨RX0, "startRider", "(I)V"⟩
abbrev cX0_redo : ByteArray := prog_2_method_6_code
def yX0_redo : MethodName := ⟨RX0, "redo", "(LBikeTown$Hands;I)I"⟩
abbrev cX0_freeRacks : ByteArray := prog_2_method_7_code
def yX0_freeRacks : MethodName := ⟨RX0, "freeRacks", "(I)I"⟩
abbrev cX0_takesBikes : ByteArray := prog_2_method_8_code
def yX0_takesBikes : MethodName := ⟨RX0, "takesBikes", "(I)Z"⟩
abbrev cX0_settle : ByteArray := prog_2_method_9_code
def yX0_settle : MethodName := ⟨RX0, "settle", "(II)V"⟩
abbrev cX0_lift : ByteArray := prog_2_method_10_code
def yX0_lift : MethodName := ⟨RX0, "lift", "(II)V"⟩
abbrev cX0_isAt : ByteArray := prog_2_method_11_code
def yX0_isAt : MethodName := ⟨RX0, "isAt", "(II)Z"⟩
abbrev cX0_bestBike : ByteArray := prog_2_method_12_code
def yX0_bestBike : MethodName := ⟨RX0, "bestBike", "(I)I"⟩
abbrev cX0_tellFaulty : ByteArray := prog_2_method_13_code
def yX0_tellFaulty : MethodName := ⟨RX0, "tellFaulty", "(I)V"⟩
abbrev cX0_firstFaulty : ByteArray := prog_2_method_14_code
def yX0_firstFaulty : MethodName := ⟨RX0, "firstFaulty", "(I)I"⟩
abbrev cX0_setOpen : ByteArray := prog_2_method_15_code
def yX0_setOpen : MethodName := ⟨RX0, "setOpen", "(IZ)V"⟩
abbrev cX0_tellPost : ByteArray := prog_2_method_16_code
def yX0_tellPost : MethodName := ⟨RX0, "tellPost", "(II)I"⟩
abbrev cX0_canBeDone : ByteArray := prog_2_method_17_code
def yX0_canBeDone : MethodName := ⟨RX0, "canBeDone", "(III)Z"⟩
abbrev cX0_doByHand : ByteArray := prog_2_method_18_code
def yX0_doByHand : MethodName := ⟨RX0, "doByHand", "(III)V"⟩
abbrev cX0_passMinute : ByteArray := prog_2_method_19_code
def yX0_passMinute : MethodName := ⟨RX0, "passMinute", "()V"⟩
abbrev cX0_hour : ByteArray := prog_2_method_20_code
def yX0_hour : MethodName := ⟨RX0, "hour", "()I"⟩
abbrev cX0_endRides : ByteArray := prog_2_method_21_code
def yX0_endRides : MethodName := ⟨RX0, "endRides", "()V"⟩
abbrev cX0_endRide : ByteArray := prog_2_method_22_code
def yX0_endRide : MethodName := ⟨RX0, "endRide", "(I)V"⟩
abbrev cX0_leaveBike : ByteArray := prog_2_method_23_code
def yX0_leaveBike : MethodName := ⟨RX0, "leaveBike", "(III)V"⟩
abbrev cX0_nearestThatTakes : ByteArray := prog_2_method_24_code
def yX0_nearestThatTakes : MethodName := ⟨RX0, "nearestThatTakes", "(I)I"⟩
abbrev cX0_mendBikes : ByteArray := prog_2_method_25_code
def yX0_mendBikes : MethodName := ⟨RX0, "mendBikes", "()V"⟩
abbrev cX0_followRules : ByteArray := prog_2_method_26_code
def yX0_followRules : MethodName := ⟨RX0, "followRules", "()V"⟩
abbrev cX0_followRule : ByteArray := prog_2_method_27_code
def yX0_followRule : MethodName := ⟨RX0, "followRule", "(II)V"⟩
abbrev cX0_nameAll : ByteArray := prog_2_method_28_code
def yX0_nameAll : MethodName := ⟨RX0, "nameAll", "(I)V"⟩
abbrev cX0_sendToShop : ByteArray := prog_2_method_29_code
def yX0_sendToShop : MethodName := ⟨RX0, "sendToShop", "(I)V"⟩
abbrev cX0_driveVan : ByteArray := prog_2_method_30_code
def yX0_driveVan : MethodName := ⟨RX0, "driveVan", "()V"⟩
abbrev cX0_doStop : ByteArray := prog_2_method_31_code
def yX0_doStop : MethodName := ⟨RX0, "doStop", "(II)V"⟩
abbrev cX0_vanTakes : ByteArray := prog_2_method_32_code
def yX0_vanTakes : MethodName := ⟨RX0, "vanTakes", "(I)V"⟩
abbrev cX0_vanLeaves : ByteArray := prog_2_method_33_code
def yX0_vanLeaves : MethodName := ⟨RX0, "vanLeaves", "(I)V"⟩
abbrev cX0_lookAtRiders : ByteArray := prog_2_method_34_code
def yX0_lookAtRiders : MethodName := ⟨RX0, "lookAtRiders", "()V"⟩
abbrev cX0_lookAtRider : ByteArray := prog_2_method_35_code
def yX0_lookAtRider : MethodName := ⟨RX0, "lookAtRider", "(I)V"⟩
abbrev cX0_lose : ByteArray := prog_2_method_36_code
def yX0_lose : MethodName := ⟨RX0, "lose", "(III)V"⟩
abbrev cX0_takeBike : ByteArray := prog_2_method_37_code
def yX0_takeBike : MethodName := ⟨RX0, "takeBike", "(III)V"⟩
abbrev cX0_countEmpty : ByteArray := prog_2_method_38_code
def yX0_countEmpty : MethodName := ⟨RX0, "countEmpty", "()V"⟩
def RX1 : String := "BikeTown$Days"
def TX1 : u_T := fun k => match k with
  | 0 => ("BikeTown$Days", "size", "I", false)
  | 1 => ("BikeTown$Days", "weekdays", "[I", true)
  | _ => ("BikeTown$Days", "taken", "[[I", true)
def tyX1 : Nat → FieldType := fun k => match k with
  | 0 => .int
  | 1 => .array .int
  | _ => .array (.array .int)
abbrev wsX10 : List Cond := u_ws RX1 TX1 3
theorem nmX1 : ∀ a, a < 3 → ∀ b, b < 3 → a ≠ b → (TX1 a).2.1 ≠ (TX1 b).2.1 := by decide +kernel
theorem tyX1_ok : ∀ k, k < 3 → parseFieldDescriptor (TX1 k).2.2.1 = some (tyX1 k) := by decide +kernel
abbrev cX1_init : ByteArray := prog_3_method_1_code
def yX1_init : MethodName := ⟨RX1, "<init>", "()V"⟩
abbrev cX1_keep : ByteArray := prog_3_method_2_code
def yX1_keep : MethodName := ⟨RX1, "keep", "(ILBikeTown$Diary;)V"⟩
abbrev cX1_countWith : ByteArray := prog_3_method_3_code
def yX1_countWith : MethodName := ⟨RX1, "countWith", "(I)I"⟩
abbrev cX1_countLike : ByteArray := prog_3_method_4_code
def yX1_countLike : MethodName := ⟨RX1, "countLike", "(I)I"⟩
abbrev cX1_sumOfLike : ByteArray := prog_3_method_5_code
def yX1_sumOfLike : MethodName := ⟨RX1, "sumOfLike", "(III)I"⟩
def RX2 : String := "BikeTown$Diary"
def TX2 : u_T := fun k => match k with
  | 0 => ("BikeTown$Diary", "mostLines", "I", true)
  | 1 => ("BikeTown$Diary", "lines", "I", false)
  | 2 => ("BikeTown$Diary", "paid", "I", false)
  | 3 => ("BikeTown$Diary", "line", "[[I", true)
  | 4 => ("BikeTown$Diary", "taken", "[[I", true)
  | 5 => ("BikeTown$Diary", "lost", "[[I", true)
  | 6 => ("BikeTown$Diary", "empty", "[[I", true)
  | 7 => ("BikeTown$Diary", "busiest", "[[I", true)
  | _ => ("BikeTown$Diary", "takenNow", "[I", true)
def tyX2 : Nat → FieldType := fun k => match k with
  | 0 => .int
  | 1 => .int
  | 2 => .int
  | 3 => .array (.array .int)
  | 4 => .array (.array .int)
  | 5 => .array (.array .int)
  | 6 => .array (.array .int)
  | 7 => .array (.array .int)
  | _ => .array .int
abbrev wsX20 : List Cond := u_ws RX2 TX2 9
theorem nmX2 : ∀ a, a < 9 → ∀ b, b < 9 → a ≠ b → (TX2 a).2.1 ≠ (TX2 b).2.1 := by decide +kernel
theorem tyX2_ok : ∀ k, k < 9 → parseFieldDescriptor (TX2 k).2.2.1 = some (tyX2 k) := by decide +kernel
abbrev cX2_init : ByteArray := prog_4_method_1_code
def yX2_init : MethodName := ⟨RX2, "<init>", "(I)V"⟩
abbrev cX2_clear : ByteArray := prog_4_method_2_code
def yX2_clear : MethodName := ⟨RX2, "clear", "()V"⟩
abbrev cX2_beginMinute : ByteArray := prog_4_method_3_code
def yX2_beginMinute : MethodName := ⟨RX2, "beginMinute", "()V"⟩
abbrev cX2_add : ByteArray := prog_4_method_4_code
def yX2_add : MethodName := ⟨RX2, "add", "(IIIII)V"⟩
abbrev cX2_countTaken : ByteArray := prog_4_method_5_code
def yX2_countTaken : MethodName := ⟨RX2, "countTaken", "(III)V"⟩
abbrev cX2_changeTill : ByteArray := prog_4_method_6_code
def yX2_changeTill : MethodName := ⟨RX2, "changeTill", "(II)I"⟩
abbrev cX2_changeBy : ByteArray := prog_4_method_7_code
def yX2_changeBy : MethodName := ⟨RX2, "changeBy", "(I)I"⟩
abbrev cX2_sumOf : ByteArray := prog_4_method_8_code
def yX2_sumOf : MethodName := ⟨RX2, "sumOf", "([I)I"⟩
def RX3 : String := "BikeTown$Hands"
def TX3 : u_T := fun k => match k with
  | 0 => ("BikeTown$Hands", "size", "I", false)
  | 1 => ("BikeTown$Hands", "minute", "[I", true)
  | 2 => ("BikeTown$Hands", "what", "[I", true)
  | 3 => ("BikeTown$Hands", "a", "[I", true)
  | _ => ("BikeTown$Hands", "b", "[I", true)
def tyX3 : Nat → FieldType := fun k => match k with
  | 0 => .int
  | 1 => .array .int
  | 2 => .array .int
  | 3 => .array .int
  | _ => .array .int
abbrev wsX30 : List Cond := u_ws RX3 TX3 5
theorem nmX3 : ∀ a, a < 5 → ∀ b, b < 5 → a ≠ b → (TX3 a).2.1 ≠ (TX3 b).2.1 := by decide +kernel
theorem tyX3_ok : ∀ k, k < 5 → parseFieldDescriptor (TX3 k).2.2.1 = some (tyX3 k) := by decide +kernel
abbrev cX3_init : ByteArray := prog_5_method_1_code
def yX3_init : MethodName := ⟨RX3, "<init>", "()V"⟩
abbrev cX3_add : ByteArray := prog_5_method_2_code
def yX3_add : MethodName := ⟨RX3, "add", "(IIII)V"⟩
def RX4 : String := "BikeTown$Houses"
def TX4 : u_T := fun k => match k with
  | 0 => ("BikeTown$Houses", "gain", "[[I", true)
  | _ => ("BikeTown$Houses", "seen", "[Z", true)
def tyX4 : Nat → FieldType := fun k => match k with
  | 0 => .array (.array .int)
  | _ => .array .boolean
abbrev wsX40 : List Cond := u_ws RX4 TX4 2
theorem nmX4 : ∀ a, a < 2 → ∀ b, b < 2 → a ≠ b → (TX4 a).2.1 ≠ (TX4 b).2.1 := by decide +kernel
theorem tyX4_ok : ∀ k, k < 2 → parseFieldDescriptor (TX4 k).2.2.1 = some (tyX4 k) := by decide +kernel
abbrev cX4_init : ByteArray := prog_6_method_1_code
def yX4_init : MethodName := ⟨RX4, "<init>", "()V"⟩
abbrev cX4_isLevel : ByteArray := prog_6_method_2_code
def yX4_isLevel : MethodName := ⟨RX4, "isLevel", "(I)Z"⟩
abbrev cX4_pairOf : ByteArray := prog_6_method_3_code
def yX4_pairOf : MethodName := ⟨RX4, "pairOf", "(II)I"⟩
abbrev cX4_gainAt : ByteArray := prog_6_method_4_code
def yX4_gainAt : MethodName := ⟨RX4, "gainAt", "(IIII)I"⟩
abbrev cX4_bestLevel : ByteArray := prog_6_method_5_code
def yX4_bestLevel : MethodName := ⟨RX4, "bestLevel", "(III)I"⟩
abbrev cX4_isStill : ByteArray := prog_6_method_6_code
def yX4_isStill : MethodName := ⟨RX4, "isStill", "(II)Z"⟩
abbrev cX4_countStill : ByteArray := prog_6_method_7_code
def yX4_countStill : MethodName := ⟨RX4, "countStill", "()I"⟩
abbrev cX4_stillPair : ByteArray := prog_6_method_8_code
def yX4_stillPair : MethodName := ⟨RX4, "stillPair", "(I)I"⟩
abbrev cX4_turnsFrom : ByteArray := prog_6_method_9_code
def yX4_turnsFrom : MethodName := ⟨RX4, "turnsFrom", "(II)I"⟩
def RX5 : String := "BikeTown$Round"
def TX5 : u_T := fun k => match k with
  | 0 => ("BikeTown$Round", "want", "[I", true)
  | 1 => ("BikeTown$Round", "wanting", "[I", true)
  | 2 => ("BikeTown$Round", "size", "I", false)
  | 3 => ("BikeTown$Round", "load", "[I", true)
  | _ => ("BikeTown$Round", "ways", "[I", true)
def tyX5 : Nat → FieldType := fun k => match k with
  | 0 => .array .int
  | 1 => .array .int
  | 2 => .int
  | 3 => .array .int
  | _ => .array .int
abbrev wsX50 : List Cond := u_ws RX5 TX5 5
theorem nmX5 : ∀ a, a < 5 → ∀ b, b < 5 → a ≠ b → (TX5 a).2.1 ≠ (TX5 b).2.1 := by decide +kernel
theorem tyX5_ok : ∀ k, k < 5 → parseFieldDescriptor (TX5 k).2.2.1 = some (tyX5 k) := by decide +kernel
abbrev cX5_init : ByteArray := prog_7_method_1_code
def yX5_init : MethodName := ⟨RX5, "<init>", "()V"⟩
abbrev cX5_spot : ByteArray := prog_7_method_2_code
def yX5_spot : MethodName := ⟨RX5, "spot", "(II)I"⟩
abbrev cX5_countWanting : ByteArray := prog_7_method_3_code
def yX5_countWanting : MethodName := ⟨RX5, "countWanting", "()I"⟩
abbrev cX5_leastWays : ByteArray := prog_7_method_4_code
def yX5_leastWays : MethodName := ⟨RX5, "leastWays", "(LBikeTown$Told;LBikeTown$Van;)I"⟩
abbrev cX5_gather : ByteArray := prog_7_method_5_code
def yX5_gather : MethodName := ⟨RX5, "gather", "()V"⟩
abbrev cX5_sumOfWants : ByteArray := prog_7_method_6_code
def yX5_sumOfWants : MethodName := ⟨RX5, "sumOfWants", "(I)I"⟩
abbrev cX5_waysFrom : ByteArray := prog_7_method_7_code
def yX5_waysFrom : MethodName := ⟨RX5, "waysFrom", "(LBikeTown$Told;III)I"⟩
abbrev cX5_waysVia : ByteArray := prog_7_method_8_code
def yX5_waysVia : MethodName := ⟨RX5, "waysVia", "(LBikeTown$Told;III)I"⟩
abbrev cX5_waysOver : ByteArray := prog_7_method_9_code
def yX5_waysOver : MethodName := ⟨RX5, "waysOver", "(LBikeTown$Told;LBikeTown$Van;I)I"⟩
abbrev cX5_firstOfBest : ByteArray := prog_7_method_10_code
def yX5_firstOfBest : MethodName := ⟨RX5, "firstOfBest", "(LBikeTown$Told;LBikeTown$Van;)I"⟩
abbrev cX5_postOfOrder : ByteArray := prog_7_method_11_code
def yX5_postOfOrder : MethodName := ⟨RX5, "postOfOrder", "(LBikeTown$Told;LBikeTown$Van;I)I"⟩
abbrev cX5_nextOfBest : ByteArray := prog_7_method_12_code
def yX5_nextOfBest : MethodName := ⟨RX5, "nextOfBest", "(LBikeTown$Told;II)I"⟩
def RX6 : String := "BikeTown$Rules"
def TX6 : u_T := fun k => match k with
  | 0 => ("BikeTown$Rules", "text", "[I", true)
  | 1 => ("BikeTown$Rules", "length", "I", false)
  | 2 => ("BikeTown$Rules", "size", "I", false)
  | 3 => ("BikeTown$Rules", "rows", "[[I", true)
  | 4 => ("BikeTown$Rules", "lengths", "[I", true)
  | 5 => ("BikeTown$Rules", "thenAt", "[I", true)
  | 6 => ("BikeTown$Rules", "isOff", "[Z", true)
  | 7 => ("BikeTown$Rules", "at", "I", false)
  | 8 => ("BikeTown$Rules", "any", "[Z", true)
  | 9 => ("BikeTown$Rules", "all", "[Z", true)
  | _ => ("BikeTown$Rules", "turned", "[Z", true)
def tyX6 : Nat → FieldType := fun k => match k with
  | 0 => .array .int
  | 1 => .int
  | 2 => .int
  | 3 => .array (.array .int)
  | 4 => .array .int
  | 5 => .array .int
  | 6 => .array .boolean
  | 7 => .int
  | 8 => .array .boolean
  | 9 => .array .boolean
  | _ => .array .boolean
abbrev wsX60 : List Cond := u_ws RX6 TX6 11
theorem nmX6 : ∀ a, a < 11 → ∀ b, b < 11 → a ≠ b → (TX6 a).2.1 ≠ (TX6 b).2.1 := by decide +kernel
theorem tyX6_ok : ∀ k, k < 11 → parseFieldDescriptor (TX6 k).2.2.1 = some (tyX6 k) := by decide +kernel
abbrev cX6_init : ByteArray := prog_8_method_1_code
def yX6_init : MethodName := ⟨RX6, "<init>", "()V"⟩
abbrev cX6_faultPlace : ByteArray := prog_8_method_2_code
def yX6_faultPlace : MethodName := ⟨RX6, "faultPlace", "()I"⟩
abbrev cX6_stateBehind : ByteArray := prog_8_method_3_code
def yX6_stateBehind : MethodName := ⟨RX6, "stateBehind", "(II)I"⟩
abbrev cX6_stateBehindTerm : ByteArray := prog_8_method_4_code
def yX6_stateBehindTerm : MethodName := ⟨RX6, "stateBehindTerm", "(I)I"⟩
abbrev cX6_addText : ByteArray := prog_8_method_5_code
def yX6_addText : MethodName := ⟨RX6, "addText", "()I"⟩
abbrev cX6_holds : ByteArray := prog_8_method_6_code
def yX6_holds : MethodName := ⟨RX6, "holds", "(I[I)Z"⟩
abbrev cX6_begin : ByteArray := prog_8_method_7_code
def yX6_begin : MethodName := ⟨RX6, "begin", "(IZ)V"⟩
abbrev cX6_compare : ByteArray := prog_8_method_8_code
def yX6_compare : MethodName := ⟨RX6, "compare", "([II[I)Z"⟩
abbrev cX6_readSum : ByteArray := prog_8_method_9_code
def yX6_readSum : MethodName := ⟨RX6, "readSum", "([II[I)I"⟩
abbrev cX6_act : ByteArray := prog_8_method_10_code
def yX6_act : MethodName := ⟨RX6, "act", "(I)I"⟩
abbrev cX6_newPrice : ByteArray := prog_8_method_11_code
def yX6_newPrice : MethodName := ⟨RX6, "newPrice", "(I[I)I"⟩
def RX7 : String := "BikeTown$Sites"
def TX7 : u_T := fun k => match k with
  | 0 => ("BikeTown$Sites", "size", "I", false)
  | 1 => ("BikeTown$Sites", "wishes", "I", false)
  | 2 => ("BikeTown$Sites", "siteX", "[I", true)
  | 3 => ("BikeTown$Sites", "siteY", "[I", true)
  | 4 => ("BikeTown$Sites", "wishX", "[I", true)
  | 5 => ("BikeTown$Sites", "wishY", "[I", true)
  | 6 => ("BikeTown$Sites", "many", "[I", true)
  | _ => ("BikeTown$Sites", "toPost", "[I", true)
def tyX7 : Nat → FieldType := fun k => match k with
  | 0 => .int
  | 1 => .int
  | 2 => .array .int
  | 3 => .array .int
  | 4 => .array .int
  | 5 => .array .int
  | 6 => .array .int
  | _ => .array .int
abbrev wsX70 : List Cond := u_ws RX7 TX7 8
theorem nmX7 : ∀ a, a < 8 → ∀ b, b < 8 → a ≠ b → (TX7 a).2.1 ≠ (TX7 b).2.1 := by decide +kernel
theorem tyX7_ok : ∀ k, k < 8 → parseFieldDescriptor (TX7 k).2.2.1 = some (tyX7 k) := by decide +kernel
abbrev cX7_init : ByteArray := prog_9_method_1_code
def yX7_init : MethodName := ⟨RX7, "<init>", "()V"⟩
abbrev cX7_addSite : ByteArray := prog_9_method_2_code
def yX7_addSite : MethodName := ⟨RX7, "addSite", "(II)I"⟩
abbrev cX7_addWish : ByteArray := prog_9_method_3_code
def yX7_addWish : MethodName := ⟨RX7, "addWish", "(III)I"⟩
abbrev cX7_measureOpenPosts : ByteArray := prog_9_method_4_code
def yX7_measureOpenPosts : MethodName := ⟨RX7, "measureOpenPosts", "(LBikeTown$Told;[Z)V"⟩
abbrev cX7_measure : ByteArray := prog_9_method_5_code
def yX7_measure : MethodName := ⟨RX7, "measure", "(III)I"⟩
abbrev cX7_bestSet : ByteArray := prog_9_method_6_code
def yX7_bestSet : MethodName := ⟨RX7, "bestSet", "(I)I"⟩
abbrev cX7_sumFor : ByteArray := prog_9_method_7_code
def yX7_sumFor : MethodName := ⟨RX7, "sumFor", "(I)I"⟩
def RX8 : String := "BikeTown$Told"
def TX8 : u_T := fun k => match k with
  | 0 => ("BikeTown$Told", "posts", "I", false)
  | 1 => ("BikeTown$Told", "bikes", "I", false)
  | 2 => ("BikeTown$Told", "riders", "I", false)
  | 3 => ("BikeTown$Told", "mend", "I", false)
  | 4 => ("BikeTown$Told", "worn", "I", false)
  | 5 => ("BikeTown$Told", "x", "[I", true)
  | 6 => ("BikeTown$Told", "y", "[I", true)
  | 7 => ("BikeTown$Told", "racks", "[I", true)
  | 8 => ("BikeTown$Told", "home", "[I", true)
  | 9 => ("BikeTown$Told", "minute", "[I", true)
  | 10 => ("BikeTown$Told", "from", "[I", true)
  | 11 => ("BikeTown$Told", "to", "[I", true)
  | 12 => ("BikeTown$Told", "kind", "[I", true)
  | 13 => ("BikeTown$Told", "limit", "[I", true)
  | _ => ("BikeTown$Told", "patience", "[I", true)
def tyX8 : Nat → FieldType := fun k => match k with
  | 0 => .int
  | 1 => .int
  | 2 => .int
  | 3 => .int
  | 4 => .int
  | 5 => .array .int
  | 6 => .array .int
  | 7 => .array .int
  | 8 => .array .int
  | 9 => .array .int
  | 10 => .array .int
  | 11 => .array .int
  | 12 => .array .int
  | 13 => .array .int
  | _ => .array .int
abbrev wsX80 : List Cond := u_ws RX8 TX8 15
theorem nmX8 : ∀ a, a < 15 → ∀ b, b < 15 → a ≠ b → (TX8 a).2.1 ≠ (TX8 b).2.1 := by decide +kernel
theorem tyX8_ok : ∀ k, k < 15 → parseFieldDescriptor (TX8 k).2.2.1 = some (tyX8 k) := by decide +kernel
abbrev cX8_init : ByteArray := prog_10_method_1_code
def yX8_init : MethodName := ⟨RX8, "<init>", "()V"⟩
abbrev cX8_isPost : ByteArray := prog_10_method_2_code
def yX8_isPost : MethodName := ⟨RX8, "isPost", "(I)Z"⟩
abbrev cX8_isBike : ByteArray := prog_10_method_3_code
def yX8_isBike : MethodName := ⟨RX8, "isBike", "(I)Z"⟩
abbrev cX8_addPost : ByteArray := prog_10_method_4_code
def yX8_addPost : MethodName := ⟨RX8, "addPost", "(III)I"⟩
abbrev cX8_addBike : ByteArray := prog_10_method_5_code
def yX8_addBike : MethodName := ⟨RX8, "addBike", "(I)I"⟩
abbrev cX8_addRider : ByteArray := prog_10_method_6_code
def yX8_addRider : MethodName := ⟨RX8, "addRider", "(IIII)I"⟩
abbrev cX8_minutesBetween : ByteArray := prog_10_method_7_code
def yX8_minutesBetween : MethodName := ⟨RX8, "minutesBetween", "(II)I"⟩
abbrev cX8_bikesAhead : ByteArray := prog_10_method_8_code
def yX8_bikesAhead : MethodName := ⟨RX8, "bikesAhead", "(I)I"⟩
def RX9 : String := "BikeTown$Trials"
def TX9 : u_T := fun k => match k with
  | 0 => ("BikeTown$Trials", "size", "I", false)
  | 1 => ("BikeTown$Trials", "scores", "[I", true)
  | _ => ("BikeTown$Trials", "isFaulty", "[Z", true)
def tyX9 : Nat → FieldType := fun k => match k with
  | 0 => .int
  | 1 => .array .int
  | _ => .array .boolean
abbrev wsX90 : List Cond := u_ws RX9 TX9 3
theorem nmX9 : ∀ a, a < 3 → ∀ b, b < 3 → a ≠ b → (TX9 a).2.1 ≠ (TX9 b).2.1 := by decide +kernel
theorem tyX9_ok : ∀ k, k < 3 → parseFieldDescriptor (TX9 k).2.2.1 = some (tyX9 k) := by decide +kernel
abbrev cX9_init : ByteArray := prog_11_method_1_code
def yX9_init : MethodName := ⟨RX9, "<init>", "()V"⟩
abbrev cX9_add : ByteArray := prog_11_method_2_code
def yX9_add : MethodName := ⟨RX9, "add", "(IZ)I"⟩
abbrev cX9_countFrom : ByteArray := prog_11_method_3_code
def yX9_countFrom : MethodName := ⟨RX9, "countFrom", "(IZ)I"⟩
abbrev cX9_leastScore : ByteArray := prog_11_method_4_code
def yX9_leastScore : MethodName := ⟨RX9, "leastScore", "(I)I"⟩
def RX10 : String := "BikeTown$Van"
def TX10 : u_T := fun k => match k with
  | 0 => ("BikeTown$Van", "at", "I", false)
  | 1 => ("BikeTown$Van", "load", "I", false)
  | 2 => ("BikeTown$Van", "stops", "I", false)
  | 3 => ("BikeTown$Van", "comesAt", "I", false)
  | 4 => ("BikeTown$Van", "loaded", "[I", true)
  | 5 => ("BikeTown$Van", "stopPost", "[I", true)
  | _ => ("BikeTown$Van", "stopNumber", "[I", true)
def tyX10 : Nat → FieldType := fun k => match k with
  | 0 => .int
  | 1 => .int
  | 2 => .int
  | 3 => .int
  | 4 => .array .int
  | 5 => .array .int
  | _ => .array .int
abbrev wsX100 : List Cond := u_ws RX10 TX10 7
theorem nmX10 : ∀ a, a < 7 → ∀ b, b < 7 → a ≠ b → (TX10 a).2.1 ≠ (TX10 b).2.1 := by decide +kernel
theorem tyX10_ok : ∀ k, k < 7 → parseFieldDescriptor (TX10 k).2.2.1 = some (tyX10 k) := by decide +kernel
abbrev cX10_init : ByteArray := prog_12_method_1_code
def yX10_init : MethodName := ⟨RX10, "<init>", "()V"⟩
abbrev cX10_begin : ByteArray := prog_12_method_2_code
def yX10_begin : MethodName := ⟨RX10, "begin", "()V"⟩
abbrev cX10_addStop : ByteArray := prog_12_method_3_code
def yX10_addStop : MethodName := ⟨RX10, "addStop", "(II)V"⟩
abbrev cX10_dropFirstStop : ByteArray := prog_12_method_4_code
def yX10_dropFirstStop : MethodName := ⟨RX10, "dropFirstStop", "()V"⟩
abbrev cX10_put : ByteArray := prog_12_method_5_code
def yX10_put : MethodName := ⟨RX10, "put", "(I)V"⟩
abbrev cX10_takeFirst : ByteArray := prog_12_method_6_code
def yX10_takeFirst : MethodName := ⟨RX10, "takeFirst", "()I"⟩
def RX11 : String := "BikeTown"
def TX11 : u_T := fun k => match k with
  | 0 => ("BikeTown", "told", "LBikeTown$Told;", true)
  | 1 => ("BikeTown", "rules", "LBikeTown$Rules;", true)
  | 2 => ("BikeTown", "hands", "LBikeTown$Hands;", true)
  | 3 => ("BikeTown", "day", "LBikeTown$Day;", true)
  | 4 => ("BikeTown", "again", "LBikeTown$Day;", true)
  | 5 => ("BikeTown", "days", "LBikeTown$Days;", true)
  | 6 => ("BikeTown", "tour", "LBikeTown$Round;", true)
  | 7 => ("BikeTown", "houses", "LBikeTown$Houses;", true)
  | 8 => ("BikeTown", "places", "LBikeTown$Sites;", true)
  | _ => ("BikeTown", "trials", "LBikeTown$Trials;", true)
def tyX11 : Nat → FieldType := fun k => match k with
  | 0 => .object "BikeTown$Told"
  | 1 => .object "BikeTown$Rules"
  | 2 => .object "BikeTown$Hands"
  | 3 => .object "BikeTown$Day"
  | 4 => .object "BikeTown$Day"
  | 5 => .object "BikeTown$Days"
  | 6 => .object "BikeTown$Round"
  | 7 => .object "BikeTown$Houses"
  | 8 => .object "BikeTown$Sites"
  | _ => .object "BikeTown$Trials"
abbrev wsX110 : List Cond := u_ws RX11 TX11 10
theorem nmX11 : ∀ a, a < 10 → ∀ b, b < 10 → a ≠ b → (TX11 a).2.1 ≠ (TX11 b).2.1 := by decide +kernel
theorem tyX11_ok : ∀ k, k < 10 → parseFieldDescriptor (TX11 k).2.2.1 = some (tyX11 k) := by decide +kernel
abbrev cX11_init : ByteArray := prog_1_method_1_code
def yX11_init : MethodName := ⟨RX11, "<init>", "()V"⟩
abbrev cX11_post : ByteArray := prog_1_method_2_code
def yX11_post : MethodName := ⟨RX11, "post", "(III)I"⟩
abbrev cX11_bike : ByteArray := prog_1_method_3_code
def yX11_bike : MethodName := ⟨RX11, "bike", "(I)I"⟩
abbrev cX11_kind : ByteArray := prog_1_method_4_code
def yX11_kind : MethodName := ⟨RX11, "kind", "(III)I"⟩
abbrev cX11_rider : ByteArray := prog_1_method_5_code
def yX11_rider : MethodName := ⟨RX11, "rider", "(IIII)I"⟩
abbrev cX11_shop : ByteArray := prog_1_method_6_code
def yX11_shop : MethodName := ⟨RX11, "shop", "(II)I"⟩
abbrev cX11_hasBegun : ByteArray := prog_1_method_7_code
def yX11_hasBegun : MethodName := ⟨RX11, "hasBegun", "()Z"⟩
abbrev cX11_isIn : ByteArray := prog_1_method_8_code
def yX11_isIn : MethodName := ⟨RX11, "isIn", "(III)Z"⟩
abbrev cX11_bit : ByteArray := prog_1_method_9_code
def yX11_bit : MethodName := ⟨RX11, "bit", "(Z)I"⟩
abbrev cX11_price : ByteArray := prog_1_method_10_code
def yX11_price : MethodName := ⟨RX11, "price", "(II)I"⟩
abbrev cX11_open : ByteArray := prog_1_method_11_code
def yX11_open : MethodName := ⟨RX11, "open", "(IZ)I"⟩
abbrev cX11_faulty : ByteArray := prog_1_method_12_code
def yX11_faulty : MethodName := ⟨RX11, "faulty", "(I)I"⟩
abbrev cX11_steal : ByteArray := prog_1_method_13_code
def yX11_steal : MethodName := ⟨RX11, "steal", "(I)I"⟩
abbrev cX11_find : ByteArray := prog_1_method_14_code
def yX11_find : MethodName := ⟨RX11, "find", "(II)I"⟩
abbrev cX11_stop : ByteArray := prog_1_method_15_code
def yX11_stop : MethodName := ⟨RX11, "stop", "(II)I"⟩
abbrev cX11_byHand : ByteArray := prog_1_method_16_code
def yX11_byHand : MethodName := ⟨RX11, "byHand", "(III)I"⟩
abbrev cX11_say : ByteArray := prog_1_method_17_code
def yX11_say : MethodName := ⟨RX11, "say", "(I)I"⟩
abbrev cX11_hush : ByteArray := prog_1_method_18_code
def yX11_hush : MethodName := ⟨RX11, "hush", "()I"⟩
abbrev cX11_fault : ByteArray := prog_1_method_19_code
def yX11_fault : MethodName := ⟨RX11, "fault", "()I"⟩
abbrev cX11_rule : ByteArray := prog_1_method_20_code
def yX11_rule : MethodName := ⟨RX11, "rule", "()I"⟩
abbrev cX11_off : ByteArray := prog_1_method_21_code
def yX11_off : MethodName := ⟨RX11, "off", "(IZ)I"⟩
abbrev cX11_step : ByteArray := prog_1_method_22_code
def yX11_step : MethodName := ⟨RX11, "step", "(I)I"⟩
abbrev cX11_endDay : ByteArray := prog_1_method_23_code
def yX11_endDay : MethodName := ⟨RX11, "endDay", "(I)I"⟩
abbrev cX11_bikeAt : ByteArray := prog_1_method_24_code
def yX11_bikeAt : MethodName := ⟨RX11, "bikeAt", "(II)I"⟩
abbrev cX11_postAt : ByteArray := prog_1_method_25_code
def yX11_postAt : MethodName := ⟨RX11, "postAt", "(II)I"⟩
abbrev cX11_riderAt : ByteArray := prog_1_method_26_code
def yX11_riderAt : MethodName := ⟨RX11, "riderAt", "(II)I"⟩
abbrev cX11_van : ByteArray := prog_1_method_27_code
def yX11_van : MethodName := ⟨RX11, "van", "(I)I"⟩
abbrev cX11_way : ByteArray := prog_1_method_28_code
def yX11_way : MethodName := ⟨RX11, "way", "(II)I"⟩
abbrev cX11_log : ByteArray := prog_1_method_29_code
def yX11_log : MethodName := ⟨RX11, "log", "(II)I"⟩
abbrev cX11_asOf : ByteArray := prog_1_method_30_code
def yX11_asOf : MethodName := ⟨RX11, "asOf", "(II)I"⟩
abbrev cX11_ends : ByteArray := prog_1_method_31_code
def yX11_ends : MethodName := ⟨RX11, "ends", "(III)I"⟩
abbrev cX11_forecast : ByteArray := prog_1_method_32_code
def yX11_forecast : MethodName := ⟨RX11, "forecast", "(IIII)I"⟩
abbrev cX11_whatIf : ByteArray := prog_1_method_33_code
def yX11_whatIf : MethodName := ⟨RX11, "whatIf", "(II)I"⟩
abbrev cX11_sumOver : ByteArray := prog_1_method_34_code
def yX11_sumOver : MethodName := ⟨RX11, "sumOver", "([[I)I"⟩
abbrev cX11_want : ByteArray := prog_1_method_35_code
def yX11_want : MethodName := ⟨RX11, "want", "(II)I"⟩
abbrev cX11_round : ByteArray := prog_1_method_36_code
def yX11_round : MethodName := ⟨RX11, "round", "()I"⟩
abbrev cX11_roundAt : ByteArray := prog_1_method_37_code
def yX11_roundAt : MethodName := ⟨RX11, "roundAt", "(I)I"⟩
abbrev cX11_gain : ByteArray := prog_1_method_38_code
def yX11_gain : MethodName := ⟨RX11, "gain", "(IIII)I"⟩
abbrev cX11_still : ByteArray := prog_1_method_39_code
def yX11_still : MethodName := ⟨RX11, "still", "()I"⟩
abbrev cX11_stillAt : ByteArray := prog_1_method_40_code
def yX11_stillAt : MethodName := ⟨RX11, "stillAt", "(I)I"⟩
abbrev cX11_answers : ByteArray := prog_1_method_41_code
def yX11_answers : MethodName := ⟨RX11, "answers", "(II)I"⟩
abbrev cX11_site : ByteArray := prog_1_method_42_code
def yX11_site : MethodName := ⟨RX11, "site", "(II)I"⟩
abbrev cX11_wish : ByteArray := prog_1_method_43_code
def yX11_wish : MethodName := ⟨RX11, "wish", "(III)I"⟩
abbrev cX11_sites : ByteArray := prog_1_method_44_code
def yX11_sites : MethodName := ⟨RX11, "sites", "(II)I"⟩
abbrev cX11_test : ByteArray := prog_1_method_45_code
def yX11_test : MethodName := ⟨RX11, "test", "(IZ)I"⟩
abbrev cX11_line : ByteArray := prog_1_method_46_code
def yX11_line : MethodName := ⟨RX11, "line", "(II)I"⟩
abbrev cX11_count : ByteArray := prog_1_method_47_code
def yX11_count : MethodName := ⟨RX11, "count", "(I)I"⟩
abbrev cX11_digest : ByteArray := prog_1_method_48_code
def yX11_digest : MethodName := ⟨RX11, "digest", "()J"⟩
abbrev cX11_digestAt : ByteArray := prog_1_method_49_code
def yX11_digestAt : MethodName := ⟨RX11, "digestAt", "(J[[II)J"⟩
def RX12 : String := "BikeTownModel"
def TX12 : u_T := fun k => match k with
  | 0 => ("BikeTownModel", "thrown", "I", false)
  | 1 => ("BikeTownModel", "s", "[I", true)
  | 2 => ("BikeTownModel", "kept", "[I", true)
  | 3 => ("BikeTownModel", "posts", "I", false)
  | 4 => ("BikeTownModel", "px", "[I", true)
  | 5 => ("BikeTownModel", "py", "[I", true)
  | 6 => ("BikeTownModel", "racks", "[I", true)
  | 7 => ("BikeTownModel", "bikes", "I", false)
  | 8 => ("BikeTownModel", "home", "[I", true)
  | 9 => ("BikeTownModel", "riders", "I", false)
  | 10 => ("BikeTownModel", "minute", "[I", true)
  | 11 => ("BikeTownModel", "from", "[I", true)
  | 12 => ("BikeTownModel", "to", "[I", true)
  | 13 => ("BikeTownModel", "kindOf", "[I", true)
  | 14 => ("BikeTownModel", "limit", "[I", true)
  | 15 => ("BikeTownModel", "patience", "[I", true)
  | 16 => ("BikeTownModel", "mend", "I", false)
  | 17 => ("BikeTownModel", "worn", "I", false)
  | 18 => ("BikeTownModel", "hands", "I", false)
  | 19 => ("BikeTownModel", "hand", "[I", true)
  | 20 => ("BikeTownModel", "said", "I", false)
  | 21 => ("BikeTownModel", "text", "[I", true)
  | 22 => ("BikeTownModel", "rules", "I", false)
  | 23 => ("BikeTownModel", "ruleSize", "[I", true)
  | 24 => ("BikeTownModel", "rule", "[I", true)
  | 25 => ("BikeTownModel", "isOff", "[Z", true)
  | 26 => ("BikeTownModel", "days", "I", false)
  | 27 => ("BikeTownModel", "weekday", "[I", true)
  | 28 => ("BikeTownModel", "dayTaken", "[I", true)
  | 29 => ("BikeTownModel", "want", "[I", true)
  | 30 => ("BikeTownModel", "gains", "[I", true)
  | 31 => ("BikeTownModel", "sites", "I", false)
  | 32 => ("BikeTownModel", "siteX", "[I", true)
  | 33 => ("BikeTownModel", "siteY", "[I", true)
  | 34 => ("BikeTownModel", "wishes", "I", false)
  | 35 => ("BikeTownModel", "wishX", "[I", true)
  | 36 => ("BikeTownModel", "wishY", "[I", true)
  | 37 => ("BikeTownModel", "wishMany", "[I", true)
  | 38 => ("BikeTownModel", "tests", "I", false)
  | 39 => ("BikeTownModel", "score", "[I", true)
  | 40 => ("BikeTownModel", "isFaulty", "[Z", true)
  | 41 => ("BikeTownModel", "at", "I", false)
  | 42 => ("BikeTownModel", "values", "[I", true)
  | 43 => ("BikeTownModel", "signs", "[I", true)
  | 44 => ("BikeTownModel", "waiting", "[I", true)
  | 45 => ("BikeTownModel", "chosen", "[I", true)
  | 46 => ("BikeTownModel", "costs", "[I", true)
  | 47 => ("BikeTownModel", "isMet", "[Z", true)
  | 48 => ("BikeTownModel", "order", "[I", true)
  | _ => ("BikeTownModel", "orderMany", "I", false)
def tyX12 : Nat → FieldType := fun k => match k with
  | 0 => .int
  | 1 => .array .int
  | 2 => .array .int
  | 3 => .int
  | 4 => .array .int
  | 5 => .array .int
  | 6 => .array .int
  | 7 => .int
  | 8 => .array .int
  | 9 => .int
  | 10 => .array .int
  | 11 => .array .int
  | 12 => .array .int
  | 13 => .array .int
  | 14 => .array .int
  | 15 => .array .int
  | 16 => .int
  | 17 => .int
  | 18 => .int
  | 19 => .array .int
  | 20 => .int
  | 21 => .array .int
  | 22 => .int
  | 23 => .array .int
  | 24 => .array .int
  | 25 => .array .boolean
  | 26 => .int
  | 27 => .array .int
  | 28 => .array .int
  | 29 => .array .int
  | 30 => .array .int
  | 31 => .int
  | 32 => .array .int
  | 33 => .array .int
  | 34 => .int
  | 35 => .array .int
  | 36 => .array .int
  | 37 => .array .int
  | 38 => .int
  | 39 => .array .int
  | 40 => .array .boolean
  | 41 => .int
  | 42 => .array .int
  | 43 => .array .int
  | 44 => .array .int
  | 45 => .array .int
  | 46 => .array .int
  | 47 => .array .boolean
  | 48 => .array .int
  | _ => .int
abbrev wsX120 : List Cond := u_ws RX12 TX12 50
theorem nmX12 : ∀ a, a < 50 → ∀ b, b < 50 → a ≠ b → (TX12 a).2.1 ≠ (TX12 b).2.1 := by decide +kernel
theorem tyX12_ok : ∀ k, k < 50 → parseFieldDescriptor (TX12 k).2.2.1 = some (tyX12 k) := by decide +kernel
abbrev cX12_init : ByteArray := prog_14_method_1_code
def yX12_init : MethodName := ⟨RX12, "<init>", "()V"⟩
abbrev cX12_in : ByteArray := prog_14_method_3_code
def yX12_in : MethodName := ⟨RX12, "in", "(III)Z"⟩
abbrev cX12_begins : ByteArray := prog_14_method_4_code
def yX12_begins : MethodName := ⟨RX12, "begins", "()V"⟩
abbrev cX12_tells : ByteArray := prog_14_method_5_code
def yX12_tells : MethodName := ⟨RX12, "tells", "(I)V"⟩
abbrev cX12_logs : ByteArray := prog_14_method_6_code
def yX12_logs : MethodName := ⟨RX12, "logs", "(IIII)V"⟩
abbrev cX12_isPost : ByteArray := prog_14_method_7_code
def yX12_isPost : MethodName := ⟨RX12, "isPost", "(I)Z"⟩
abbrev cX12_isBike : ByteArray := prog_14_method_8_code
def yX12_isBike : MethodName := ⟨RX12, "isBike", "(I)Z"⟩
abbrev cX12_isBegun : ByteArray := prog_14_method_9_code
def yX12_isBegun : MethodName := ⟨RX12, "isBegun", "()Z"⟩
abbrev cX12_post : ByteArray := prog_14_method_10_code
def yX12_post : MethodName := ⟨RX12, "post", "(III)I"⟩
abbrev cX12_there : ByteArray := prog_14_method_11_code
def yX12_there : MethodName := ⟨RX12, "there", "(I)I"⟩
abbrev cX12_good : ByteArray := prog_14_method_12_code
def yX12_good : MethodName := ⟨RX12, "good", "(I)I"⟩
abbrev cX12_free : ByteArray := prog_14_method_13_code
def yX12_free : MethodName := ⟨RX12, "free", "(I)I"⟩
abbrev cX12_bike : ByteArray := prog_14_method_14_code
def yX12_bike : MethodName := ⟨RX12, "bike", "(I)I"⟩
abbrev cX12_kind : ByteArray := prog_14_method_15_code
def yX12_kind : MethodName := ⟨RX12, "kind", "(III)I"⟩
abbrev cX12_rider : ByteArray := prog_14_method_16_code
def yX12_rider : MethodName := ⟨RX12, "rider", "(IIII)I"⟩
abbrev cX12_shop : ByteArray := prog_14_method_17_code
def yX12_shop : MethodName := ⟨RX12, "shop", "(II)I"⟩
abbrev cX12_can : ByteArray := prog_14_method_18_code
def yX12_can : MethodName := ⟨RX12, "can", "(III)Z"⟩
abbrev cX12_does : ByteArray := prog_14_method_19_code
def yX12_does : MethodName := ⟨RX12, "does", "(III)V"⟩
abbrev cX12_byHand : ByteArray := prog_14_method_20_code
def yX12_byHand : MethodName := ⟨RX12, "byHand", "(III)V"⟩
abbrev cX12_handled : ByteArray := prog_14_method_21_code
def yX12_handled : MethodName := ⟨RX12, "handled", "(III)I"⟩
abbrev cX12_price : ByteArray := prog_14_method_22_code
def yX12_price : MethodName := ⟨RX12, "price", "(II)I"⟩
abbrev cX12_open : ByteArray := prog_14_method_23_code
def yX12_open : MethodName := ⟨RX12, "open", "(IZ)I"⟩
abbrev cX12_faulty : ByteArray := prog_14_method_24_code
def yX12_faulty : MethodName := ⟨RX12, "faulty", "(I)I"⟩
abbrev cX12_steal : ByteArray := prog_14_method_25_code
def yX12_steal : MethodName := ⟨RX12, "steal", "(I)I"⟩
abbrev cX12_find : ByteArray := prog_14_method_26_code
def yX12_find : MethodName := ⟨RX12, "find", "(II)I"⟩
abbrev cX12_stop : ByteArray := prog_14_method_27_code
def yX12_stop : MethodName := ⟨RX12, "stop", "(II)I"⟩
abbrev cX12_say : ByteArray := prog_14_method_28_code
def yX12_say : MethodName := ⟨RX12, "say", "(I)I"⟩
abbrev cX12_hush : ByteArray := prog_14_method_29_code
def yX12_hush : MethodName := ⟨RX12, "hush", "()I"⟩
abbrev cX12_faultOf : ByteArray := prog_14_method_30_code
def yX12_faultOf : MethodName := ⟨RX12, "faultOf", "()I"⟩
abbrev cX12_behind : ByteArray := prog_14_method_31_code
def yX12_behind : MethodName := ⟨RX12, "behind", "(II)I"⟩
abbrev cX12_fault : ByteArray := prog_14_method_32_code
def yX12_fault : MethodName := ⟨RX12, "fault", "()I"⟩
abbrev cX12_rule : ByteArray := prog_14_method_33_code
def yX12_rule : MethodName := ⟨RX12, "rule", "()I"⟩
abbrev cX12_off : ByteArray := prog_14_method_34_code
def yX12_off : MethodName := ⟨RX12, "off", "(IZ)I"⟩
abbrev cX12_symbol : ByteArray := prog_14_method_35_code
def yX12_symbol : MethodName := ⟨RX12, "symbol", "(I)I"⟩
abbrev cX12_sum : ByteArray := prog_14_method_36_code
def yX12_sum : MethodName := ⟨RX12, "sum", "(II)I"⟩
abbrev cX12_isSo : ByteArray := prog_14_method_37_code
def yX12_isSo : MethodName := ⟨RX12, "isSo", "(II)Z"⟩
abbrev cX12_joins : ByteArray := prog_14_method_38_code
def yX12_joins : MethodName := ⟨RX12, "joins", "(III)I"⟩
abbrev cX12_turned : ByteArray := prog_14_method_39_code
def yX12_turned : MethodName := ⟨RX12, "turned", "(II)I"⟩
abbrev cX12_acts : ByteArray := prog_14_method_40_code
def yX12_acts : MethodName := ⟨RX12, "acts", "(II)V"⟩
abbrev cX12_size : ByteArray := prog_14_method_41_code
def yX12_size : MethodName := ⟨RX12, "size", "(I)I"⟩
abbrev cX12_wayOf : ByteArray := prog_14_method_42_code
def yX12_wayOf : MethodName := ⟨RX12, "wayOf", "(II)I"⟩
abbrev cX12_rides : ByteArray := prog_14_method_43_code
def yX12_rides : MethodName := ⟨RX12, "rides", "(I)V"⟩
abbrev cX12_pick : ByteArray := prog_14_method_44_code
def yX12_pick : MethodName := ⟨RX12, "pick", "(I)I"⟩
abbrev cX12_stops : ByteArray := prog_14_method_45_code
def yX12_stops : MethodName := ⟨RX12, "stops", "()V"⟩
abbrev cX12_drives : ByteArray := prog_14_method_46_code
def yX12_drives : MethodName := ⟨RX12, "drives", "()V"⟩
abbrev cX12_loses : ByteArray := prog_14_method_47_code
def yX12_loses : MethodName := ⟨RX12, "loses", "(II)V"⟩
abbrev cX12_comes : ByteArray := prog_14_method_48_code
def yX12_comes : MethodName := ⟨RX12, "comes", "(I)V"⟩
abbrev cX12_goes : ByteArray := prog_14_method_49_code
def yX12_goes : MethodName := ⟨RX12, "goes", "()V"⟩
abbrev cX12_step : ByteArray := prog_14_method_50_code
def yX12_step : MethodName := ⟨RX12, "step", "(I)I"⟩
abbrev cX12_endDay : ByteArray := prog_14_method_51_code
def yX12_endDay : MethodName := ⟨RX12, "endDay", "(I)I"⟩
abbrev cX12_bikeAt : ByteArray := prog_14_method_52_code
def yX12_bikeAt : MethodName := ⟨RX12, "bikeAt", "(II)I"⟩
abbrev cX12_postAt : ByteArray := prog_14_method_53_code
def yX12_postAt : MethodName := ⟨RX12, "postAt", "(II)I"⟩
abbrev cX12_riderAt : ByteArray := prog_14_method_54_code
def yX12_riderAt : MethodName := ⟨RX12, "riderAt", "(II)I"⟩
abbrev cX12_van : ByteArray := prog_14_method_55_code
def yX12_van : MethodName := ⟨RX12, "van", "(I)I"⟩
abbrev cX12_way : ByteArray := prog_14_method_56_code
def yX12_way : MethodName := ⟨RX12, "way", "(II)I"⟩
abbrev cX12_log : ByteArray := prog_14_method_57_code
def yX12_log : MethodName := ⟨RX12, "log", "(II)I"⟩
abbrev cX12_asOf : ByteArray := prog_14_method_58_code
def yX12_asOf : MethodName := ⟨RX12, "asOf", "(II)I"⟩
abbrev cX12_ends : ByteArray := prog_14_method_59_code
def yX12_ends : MethodName := ⟨RX12, "ends", "(III)I"⟩
abbrev cX12_forecast : ByteArray := prog_14_method_60_code
def yX12_forecast : MethodName := ⟨RX12, "forecast", "(IIII)I"⟩
abbrev cX12_whatIf : ByteArray := prog_14_method_61_code
def yX12_whatIf : MethodName := ⟨RX12, "whatIf", "(II)I"⟩
abbrev cX12_want : ByteArray := prog_14_method_62_code
def yX12_want : MethodName := ⟨RX12, "want", "(II)I"⟩
abbrev cX12_roundWay : ByteArray := prog_14_method_63_code
def yX12_roundWay : MethodName := ⟨RX12, "roundWay", "(II)I"⟩
abbrev cX12_rounds : ByteArray := prog_14_method_64_code
def yX12_rounds : MethodName := ⟨RX12, "rounds", "()I"⟩
abbrev cX12_round : ByteArray := prog_14_method_65_code
def yX12_round : MethodName := ⟨RX12, "round", "()I"⟩
abbrev cX12_roundAt : ByteArray := prog_14_method_66_code
def yX12_roundAt : MethodName := ⟨RX12, "roundAt", "(I)I"⟩
abbrev cX12_isLevel : ByteArray := prog_14_method_67_code
def yX12_isLevel : MethodName := ⟨RX12, "isLevel", "(I)Z"⟩
abbrev cX12_gain : ByteArray := prog_14_method_68_code
def yX12_gain : MethodName := ⟨RX12, "gain", "(IIII)I"⟩
abbrev cX12_answer : ByteArray := prog_14_method_69_code
def yX12_answer : MethodName := ⟨RX12, "answer", "(III)I"⟩
abbrev cX12_isStill : ByteArray := prog_14_method_70_code
def yX12_isStill : MethodName := ⟨RX12, "isStill", "(II)Z"⟩
abbrev cX12_still : ByteArray := prog_14_method_71_code
def yX12_still : MethodName := ⟨RX12, "still", "()I"⟩
abbrev cX12_stillAt : ByteArray := prog_14_method_72_code
def yX12_stillAt : MethodName := ⟨RX12, "stillAt", "(I)I"⟩
abbrev cX12_answers : ByteArray := prog_14_method_73_code
def yX12_answers : MethodName := ⟨RX12, "answers", "(II)I"⟩
abbrev cX12_site : ByteArray := prog_14_method_74_code
def yX12_site : MethodName := ⟨RX12, "site", "(II)I"⟩
abbrev cX12_wish : ByteArray := prog_14_method_75_code
def yX12_wish : MethodName := ⟨RX12, "wish", "(III)I"⟩
abbrev cX12_sites : ByteArray := prog_14_method_76_code
def yX12_sites : MethodName := ⟨RX12, "sites", "(II)I"⟩
abbrev cX12_nearest : ByteArray := prog_14_method_77_code
def yX12_nearest : MethodName := ⟨RX12, "nearest", "(II)I"⟩
abbrev cX12_test : ByteArray := prog_14_method_78_code
def yX12_test : MethodName := ⟨RX12, "test", "(IZ)I"⟩
abbrev cX12_rows : ByteArray := prog_14_method_79_code
def yX12_rows : MethodName := ⟨RX12, "rows", "(IZ)I"⟩
abbrev cX12_line : ByteArray := prog_14_method_80_code
def yX12_line : MethodName := ⟨RX12, "line", "(II)I"⟩
abbrev cX12_count : ByteArray := prog_14_method_81_code
def yX12_count : MethodName := ⟨RX12, "count", "(I)I"⟩
abbrev cX12_digest : ByteArray := prog_14_method_82_code
def yX12_digest : MethodName := ⟨RX12, "digest", "()J"⟩
def RJ6 : String := "java/lang/Integer"
def TJ6 : u_T := fun k => match k with
  | _ => ("", "", "", false)
def tyJ6 : Nat → FieldType := fun k => match k with
  | _ => .int
abbrev wsJ60 : List Cond := u_ws RJ6 TJ6 0
theorem nmJ6 : ∀ a, a < 0 → ∀ b, b < 0 → a ≠ b → (TJ6 a).2.1 ≠ (TJ6 b).2.1 := by decide +kernel
theorem tyJ6_ok : ∀ k, k < 0 → parseFieldDescriptor (TJ6 k).2.2.1 = some (tyJ6 k) := by decide +kernel
abbrev cJ6_bitCount_0f7a4 : ByteArray := prog_15_method_49_code
def yJ6_bitCount_0f7a4 : MethodName := ⟨RJ6, "bitCount", "(I)I"⟩
def RJ9 : String := "java/lang/Math"
def TJ9 : u_T := fun k => match k with
  | _ => ("", "", "", false)
def tyJ9 : Nat → FieldType := fun k => match k with
  | _ => .int
abbrev wsJ90 : List Cond := u_ws RJ9 TJ9 0
theorem nmJ9 : ∀ a, a < 0 → ∀ b, b < 0 → a ≠ b → (TJ9 a).2.1 ≠ (TJ9 b).2.1 := by decide +kernel
theorem tyJ9_ok : ∀ k, k < 0 → parseFieldDescriptor (TJ9 k).2.2.1 = some (tyJ9 k) := by decide +kernel
abbrev cJ9_abs_0f7a4 : ByteArray := prog_16_method_59_code
def yJ9_abs_0f7a4 : MethodName := ⟨RJ9, "abs", "(I)I"⟩
abbrev cJ9_max_7cf53 : ByteArray := prog_16_method_65_code
def yJ9_max_7cf53 : MethodName := ⟨RJ9, "max", "(II)I"⟩
abbrev cJ9_min_7cf53 : ByteArray := prog_16_method_69_code
def yJ9_min_7cf53 : MethodName := ⟨RJ9, "min", "(II)I"⟩
def RJ7 : String := "java/util/Arrays"
def TJ7 : u_T := fun k => match k with
  | _ => ("", "", "", false)
def tyJ7 : Nat → FieldType := fun k => match k with
  | _ => .int
abbrev wsJ70 : List Cond := u_ws RJ7 TJ7 0
theorem nmJ7 : ∀ a, a < 0 → ∀ b, b < 0 → a ≠ b → (TJ7 a).2.1 ≠ (TJ7 b).2.1 := by decide +kernel
theorem tyJ7_ok : ∀ k, k < 0 → parseFieldDescriptor (TJ7 k).2.2.1 = some (tyJ7 k) := by decide +kernel
abbrev cJ7_fill_53178 : ByteArray := prog_17_method_103_code
def yJ7_fill_53178 : MethodName := ⟨RJ7, "fill", "([II)V"⟩
def RL : String := "BikeTownLaw"
abbrev cL_law : ByteArray := code
def yL_law : MethodName := ⟨RL, "law", "([I)Z"⟩
abbrev classes : List vw_C := [(RX0, TX0, 16), (RX1, TX1, 3), (RX2, TX2, 9), (RX3, TX3, 5), (RX4, TX4, 2), (RX5, TX5, 5), (RX6, TX6, 11), (RX7, TX7, 8), (RX8, TX8, 15), (RX9, TX9, 3), (RX10, TX10, 7), (RX11, TX11, 10), (RX12, TX12, 50)]
end
section
/-! The pure layer: values, worlds by labels, and what they are on the heap. -/
abbrev AV : Type := Int32 ⊕ (Int64 ⊕ (Nat × Bool × Nat))
abbrev Sg : Type := Nat → Bool → Nat → Nat → Int32
abbrev Ad : Type := Nat → Bool → Nat → Nat
abbrev Shp : Type := (Nat × List (Option (Nat × (Bool → Bool)))) ⊕ ((Bool × (Bool → Nat)) ⊕ (Nat × (Bool → Nat)))
abbrev Lc : Type := List (Option AV)
abbrev Lb : Type := Nat × Bool × Nat
abbrev Cs : Type := ClassId × ClassId × ClassId
def up4 (σ : Sg) (k : Nat) (d : Bool) (i j : Nat) (v : Int32) : Sg := fun k' d' i' j' => if k' = k ∧ d' = d ∧ i' = i ∧ j' = j then v else σ k' d' i' j'
def cv (as : Ad) : AV → Value
  | .inl x => .int x
  | .inr (.inl x) => .long x
  | .inr (.inr (k, d, i)) => .ref (as k d i)
def shp : Nat → Option (Bool × Shp) := fun k => bif Nat.blt k 105 then (bif Nat.blt k 52 then
 (bif Nat.blt k 26 then
 (bif Nat.blt k 13 then
 (bif Nat.blt k 6 then
 (bif Nat.blt k 3 then
 (bif Nat.blt k 1 then
 (some (false, .inl (11, [some (1, fun _ => false), some (12, fun _ => false), some (21, fun _ => false), some (26, fun _ => false), some (26, fun _ => true), some (48, fun _ => false), some (51, fun _ => false), some (56, fun _ => false), some (59, fun _ => false), some (66, fun _ => false)])))
 else (bif Nat.blt k 2 then
 (some (false, .inl (8, [none, none, none, none, none, some (2, fun _ => false), some (3, fun _ => false), some (4, fun _ => false), some (5, fun _ => false), some (6, fun _ => false), some (7, fun _ => false), some (8, fun _ => false), some (9, fun _ => false), some (10, fun _ => false), some (11, fun _ => false)])))
 else (some (false, .inr (.inl (false, fun _ => 12))))))
 else (bif Nat.blt k 4 then
 (some (false, .inr (.inl (false, fun _ => 12))))
 else (bif Nat.blt k 5 then
 (some (false, .inr (.inl (false, fun _ => 12))))
 else (some (false, .inr (.inl (false, fun _ => 60)))))))
 else (bif Nat.blt k 9 then
 (bif Nat.blt k 7 then
 (some (false, .inr (.inl (false, fun _ => 200))))
 else (bif Nat.blt k 8 then
 (some (false, .inr (.inl (false, fun _ => 200))))
 else (some (false, .inr (.inl (false, fun _ => 200))))))
 else (bif Nat.blt k 11 then
 (bif Nat.blt k 10 then
 (some (false, .inr (.inl (false, fun _ => 200))))
 else (some (false, .inr (.inl (false, fun _ => 4)))))
 else (bif Nat.blt k 12 then
 (some (false, .inr (.inl (false, fun _ => 4))))
 else (some (false, .inl (6, [some (13, fun _ => false), none, none, some (14, fun _ => false), some (15, fun _ => false), some (16, fun _ => false), some (17, fun _ => false), none, some (18, fun _ => false), some (19, fun _ => false), some (20, fun _ => false)])))))))
 else (bif Nat.blt k 19 then
 (bif Nat.blt k 16 then
 (bif Nat.blt k 14 then
 (some (false, .inr (.inl (false, fun _ => 40))))
 else (bif Nat.blt k 15 then
 (some (false, .inr (.inr (10, fun _ => 40))))
 else (some (false, .inr (.inl (false, fun _ => 10))))))
 else (bif Nat.blt k 17 then
 (some (false, .inr (.inl (false, fun _ => 10))))
 else (bif Nat.blt k 18 then
 (some (false, .inr (.inl (true, fun _ => 10))))
 else (some (false, .inr (.inl (true, fun _ => 9)))))))
 else (bif Nat.blt k 22 then
 (bif Nat.blt k 20 then
 (some (false, .inr (.inl (true, fun _ => 9))))
 else (bif Nat.blt k 21 then
 (some (false, .inr (.inl (true, fun _ => 9))))
 else (some (false, .inl (3, [none, some (22, fun _ => false), some (23, fun _ => false), some (24, fun _ => false), some (25, fun _ => false)])))))
 else (bif Nat.blt k 24 then
 (bif Nat.blt k 23 then
 (some (false, .inr (.inl (false, fun _ => 200))))
 else (some (false, .inr (.inl (false, fun _ => 200)))))
 else (bif Nat.blt k 25 then
 (some (false, .inr (.inl (false, fun _ => 200))))
 else (some (false, .inr (.inl (false, fun _ => 200)))))))))
 else (bif Nat.blt k 39 then
 (bif Nat.blt k 32 then
 (bif Nat.blt k 29 then
 (bif Nat.blt k 27 then
 (some (true, .inl (0, [some (1, fun _ => false), some (12, fun _ => false), some (37, fun d => d), some (44, fun d => d), none, none, some (27, fun d => d), some (28, fun d => d), some (29, fun d => d), some (30, fun d => d), some (31, fun d => d), some (32, fun d => d), some (33, fun d => d), some (34, fun d => d), some (35, fun d => d), some (36, fun d => d)])))
 else (bif Nat.blt k 28 then
 (some (true, .inr (.inl (false, fun _ => 12))))
 else (some (true, .inr (.inl (true, fun _ => 12))))))
 else (bif Nat.blt k 30 then
 (some (true, .inr (.inl (false, fun _ => 12))))
 else (bif Nat.blt k 31 then
 (some (true, .inr (.inl (false, fun _ => 12))))
 else (some (true, .inr (.inl (false, fun _ => 12)))))))
 else (bif Nat.blt k 35 then
 (bif Nat.blt k 33 then
 (some (true, .inr (.inr (4, fun _ => 60))))
 else (bif Nat.blt k 34 then
 (some (true, .inr (.inl (false, fun _ => 60))))
 else (some (true, .inr (.inr (6, fun _ => 200))))))
 else (bif Nat.blt k 37 then
 (bif Nat.blt k 36 then
 (some (true, .inr (.inl (false, fun _ => 200))))
 else (some (true, .inr (.inl (false, fun _ => 7)))))
 else (bif Nat.blt k 38 then
 (some (true, .inl (2, [none, none, none, some (38, fun d => d), some (39, fun d => d), some (40, fun d => d), some (41, fun d => d), some (42, fun d => d), some (43, fun d => d)])))
 else (some (true, .inr (.inr (5, fun d => bif d then 0 else 4000))))))))
 else (bif Nat.blt k 45 then
 (bif Nat.blt k 42 then
 (bif Nat.blt k 40 then
 (some (true, .inr (.inr (12, fun _ => 24))))
 else (bif Nat.blt k 41 then
 (some (true, .inr (.inr (12, fun _ => 24))))
 else (some (true, .inr (.inr (12, fun _ => 24))))))
 else (bif Nat.blt k 43 then
 (some (true, .inr (.inr (12, fun _ => 24))))
 else (bif Nat.blt k 44 then
 (some (true, .inr (.inl (false, fun _ => 12))))
 else (some (true, .inl (10, [none, none, none, none, some (45, fun d => d), some (46, fun d => d), some (47, fun d => d)]))))))
 else (bif Nat.blt k 48 then
 (bif Nat.blt k 46 then
 (some (true, .inr (.inl (false, fun _ => 12))))
 else (bif Nat.blt k 47 then
 (some (true, .inr (.inl (false, fun _ => 20))))
 else (some (true, .inr (.inl (false, fun _ => 20))))))
 else (bif Nat.blt k 50 then
 (bif Nat.blt k 49 then
 (some (false, .inl (1, [none, some (49, fun _ => false), some (50, fun _ => false)])))
 else (some (false, .inr (.inl (false, fun _ => 20)))))
 else (bif Nat.blt k 51 then
 (some (false, .inr (.inr (20, fun _ => 288))))
 else (some (false, .inl (5, [some (52, fun _ => false), some (53, fun _ => false), none, some (54, fun _ => false), some (55, fun _ => false)])))))))))
 else (bif Nat.blt k 78 then
 (bif Nat.blt k 65 then
 (bif Nat.blt k 58 then
 (bif Nat.blt k 55 then
 (bif Nat.blt k 53 then
 (some (false, .inr (.inl (false, fun _ => 12))))
 else (bif Nat.blt k 54 then
 (some (false, .inr (.inl (false, fun _ => 8))))
 else (some (false, .inr (.inl (false, fun _ => 256))))))
 else (bif Nat.blt k 56 then
 (some (false, .inr (.inl (false, fun _ => 2048))))
 else (bif Nat.blt k 57 then
 (some (false, .inl (4, [some (57, fun _ => false), some (58, fun _ => false)])))
 else (some (false, .inr (.inr (2, fun _ => 25)))))))
 else (bif Nat.blt k 61 then
 (bif Nat.blt k 59 then
 (some (false, .inr (.inl (true, fun _ => 50))))
 else (bif Nat.blt k 60 then
 (some (false, .inl (7, [none, none, some (60, fun _ => false), some (61, fun _ => false), some (62, fun _ => false), some (63, fun _ => false), some (64, fun _ => false), some (65, fun _ => false)])))
 else (some (false, .inr (.inl (false, fun _ => 12))))))
 else (bif Nat.blt k 63 then
 (bif Nat.blt k 62 then
 (some (false, .inr (.inl (false, fun _ => 12))))
 else (some (false, .inr (.inl (false, fun _ => 40)))))
 else (bif Nat.blt k 64 then
 (some (false, .inr (.inl (false, fun _ => 40))))
 else (some (false, .inr (.inl (false, fun _ => 40))))))))
 else (bif Nat.blt k 71 then
 (bif Nat.blt k 68 then
 (bif Nat.blt k 66 then
 (some (false, .inr (.inl (false, fun _ => 40))))
 else (bif Nat.blt k 67 then
 (some (false, .inl (9, [none, some (67, fun _ => false), some (68, fun _ => false)])))
 else (some (false, .inr (.inl (false, fun _ => 60))))))
 else (bif Nat.blt k 69 then
 (some (false, .inr (.inl (true, fun _ => 60))))
 else (bif Nat.blt k 70 then
 (some (false, .inl (12, [none, some (70, fun _ => false), some (71, fun _ => false), none, some (72, fun _ => false), some (73, fun _ => false), some (74, fun _ => false), none, some (75, fun _ => false), none, some (76, fun _ => false), some (77, fun _ => false), some (78, fun _ => false), some (79, fun _ => false), some (80, fun _ => false), some (81, fun _ => false), none, none, none, some (82, fun _ => false), none, some (83, fun _ => false), none, some (84, fun _ => false), some (85, fun _ => false), some (86, fun _ => false), none, some (87, fun _ => false), some (88, fun _ => false), some (89, fun _ => false), some (90, fun _ => false), none, some (91, fun _ => false), some (92, fun _ => false), none, some (93, fun _ => false), some (94, fun _ => false), some (95, fun _ => false), none, some (96, fun _ => false), some (97, fun _ => false), none, some (98, fun _ => false), some (99, fun _ => false), some (100, fun _ => false), some (101, fun _ => false), some (102, fun _ => false), some (103, fun _ => false), some (104, fun _ => false), none])))
 else (some (false, .inr (.inl (false, fun _ => 23184)))))))
 else (bif Nat.blt k 74 then
 (bif Nat.blt k 72 then
 (some (false, .inr (.inl (false, fun _ => 23184))))
 else (bif Nat.blt k 73 then
 (some (false, .inr (.inl (false, fun _ => 12))))
 else (some (false, .inr (.inl (false, fun _ => 12))))))
 else (bif Nat.blt k 76 then
 (bif Nat.blt k 75 then
 (some (false, .inr (.inl (false, fun _ => 12))))
 else (some (false, .inr (.inl (false, fun _ => 60)))))
 else (bif Nat.blt k 77 then
 (some (false, .inr (.inl (false, fun _ => 200))))
 else (some (false, .inr (.inl (false, fun _ => 200)))))))))
 else (bif Nat.blt k 91 then
 (bif Nat.blt k 84 then
 (bif Nat.blt k 81 then
 (bif Nat.blt k 79 then
 (some (false, .inr (.inl (false, fun _ => 200))))
 else (bif Nat.blt k 80 then
 (some (false, .inr (.inl (false, fun _ => 200))))
 else (some (false, .inr (.inl (false, fun _ => 4))))))
 else (bif Nat.blt k 82 then
 (some (false, .inr (.inl (false, fun _ => 4))))
 else (bif Nat.blt k 83 then
 (some (false, .inr (.inl (false, fun _ => 800))))
 else (some (false, .inr (.inl (false, fun _ => 40)))))))
 else (bif Nat.blt k 87 then
 (bif Nat.blt k 85 then
 (some (false, .inr (.inl (false, fun _ => 10))))
 else (bif Nat.blt k 86 then
 (some (false, .inr (.inl (false, fun _ => 400))))
 else (some (false, .inr (.inl (true, fun _ => 10))))))
 else (bif Nat.blt k 89 then
 (bif Nat.blt k 88 then
 (some (false, .inr (.inl (false, fun _ => 20))))
 else (some (false, .inr (.inl (false, fun _ => 5760)))))
 else (bif Nat.blt k 90 then
 (some (false, .inr (.inl (false, fun _ => 12))))
 else (some (false, .inr (.inl (false, fun _ => 50))))))))
 else (bif Nat.blt k 98 then
 (bif Nat.blt k 94 then
 (bif Nat.blt k 92 then
 (some (false, .inr (.inl (false, fun _ => 12))))
 else (bif Nat.blt k 93 then
 (some (false, .inr (.inl (false, fun _ => 12))))
 else (some (false, .inr (.inl (false, fun _ => 40))))))
 else (bif Nat.blt k 96 then
 (bif Nat.blt k 95 then
 (some (false, .inr (.inl (false, fun _ => 40))))
 else (some (false, .inr (.inl (false, fun _ => 40)))))
 else (bif Nat.blt k 97 then
 (some (false, .inr (.inl (false, fun _ => 60))))
 else (some (false, .inr (.inl (true, fun _ => 60)))))))
 else (bif Nat.blt k 101 then
 (bif Nat.blt k 99 then
 (some (false, .inr (.inl (false, fun _ => 60))))
 else (bif Nat.blt k 100 then
 (some (false, .inr (.inl (false, fun _ => 60))))
 else (some (false, .inr (.inl (false, fun _ => 12))))))
 else (bif Nat.blt k 103 then
 (bif Nat.blt k 102 then
 (some (false, .inr (.inl (false, fun _ => 8))))
 else (some (false, .inr (.inl (false, fun _ => 2304)))))
 else (bif Nat.blt k 104 then
 (some (false, .inr (.inl (true, fun _ => 50))))
 else (some (false, .inr (.inl (false, fun _ => 8))))))))))) else none
def rowsOf : Shp → Nat
  | .inr (.inr (n, _)) => n
  | _ => 0
def lbsAt (k : Nat) : List Lb := match shp k with
  | none => []
  | some (b, s) => (bif b then [false, true] else [false]).flatMap fun d => (List.range (rowsOf s + 1)).map fun i => (k, d, i)
def lbs (sd : Bool) : List Lb := bif sd then (List.range' 69 36).flatMap lbsAt else (List.range 69).flatMap lbsAt
def inS (sd : Bool) (k : Nat) : Bool := bif sd then Nat.ble 69 k && Nat.blt k 105 else Nat.blt k 69
def objV (as : Ad) (v : Nat → Int32) (d : Bool) (j : Nat) (f : Option (Nat × (Bool → Bool))) : Value := match f with
  | none => .int (v j)
  | some (k', g) => .ref (as k' (g d) 0)
def cel (cs : Cs) (as : Ad) (σ : Sg) (k : Nat) (d : Bool) (i : Nat) : va_E := match shp k with
  | none => .inr (0, [])
  | some (_, .inl (ci, fs)) => .inr (ci, fs.mapIdx (objV as (σ k d i) d))
  | some (_, .inr (.inl (z, len))) => .inl (bif z then cs.2.1 else cs.1, len d, .inl (σ k d i))
  | some (_, .inr (.inr (n, len))) => match i with
    | 0 => .inl (cs.2.2, n, .inr (.inr (.inr (.inr fun j => if j < n then some (as k d (j + 1)) else none))))
    | i' + 1 => .inl (cs.1, len d, .inl (σ k d (i' + 1)))
def conc (sd : Bool) (cs : Cs) (as : Ad) (σ : Sg) : va_W := (lbs sd).map fun c => (as c.1 c.2.1 c.2.2, cel cs as σ c.1 c.2.1 c.2.2)
theorem lbs_mem {sd : Bool} {k : Nat} {b : Bool} {s : Shp} {d : Bool} {i : Nat} (h : shp k = some (b, s)) (hs : inS sd k = true) (hd : (b || !d) = true) (hi : i ≤ rowsOf s) : (k, d, i) ∈ lbs sd := by
  have h1 : (k, d, i) ∈ lbsAt k := by
    unfold lbsAt
    rw [h]
    refine List.mem_flatMap.mpr ⟨d, ?_, List.mem_map.mpr ⟨i, List.mem_range.mpr (by omega), rfl⟩⟩
    cases b <;> cases d <;> simp_all
  cases sd with
  | false =>
    have h2 : k < 69 := by simpa [inS] using hs
    exact List.mem_flatMap.mpr ⟨k, List.mem_range.mpr h2, h1⟩
  | true =>
    have h2 : 69 ≤ k ∧ k < 105 := by simpa [inS] using hs
    exact List.mem_flatMap.mpr ⟨k, List.mem_range'.mpr ⟨k - 69, by omega, by omega⟩, h1⟩
theorem lbs_nd (sd : Bool) : (lbs sd).Nodup := by cases sd <;> decide +kernel
theorem conc_get {sd : Bool} {cs : Cs} {as : Ad} {σ : Sg} {c : Lb} (h : c ∈ lbs sd) : ∃ q : Nat, (lbs sd)[q]? = some c ∧ (conc sd cs as σ)[q]? = some (as c.1 c.2.1 c.2.2, cel cs as σ c.1 c.2.1 c.2.2) := by
  obtain ⟨q, hq⟩ := List.getElem?_of_mem h
  exact ⟨q, hq, by unfold conc; rw [List.getElem?_map, hq]; rfl⟩
theorem up4_ne {σ : Sg} {k : Nat} {d : Bool} {i j : Nat} {v : Int32} {k' : Nat} {d' : Bool} {i' : Nat} (h : ¬ (k', d', i') = (k, d, i)) (j' : Nat) : up4 σ k d i j v k' d' i' j' = σ k' d' i' j' := by
  unfold up4
  rw [if_neg]
  rintro ⟨rfl, rfl, rfl, -⟩
  exact h rfl
theorem up4_same (σ : Sg) (k : Nat) (d : Bool) (i j : Nat) (v : Int32) : (up4 σ k d i j v) k d i = upd (σ k d i) j v := by
  funext j'
  unfold up4 upd
  by_cases h : j' = j <;> simp [h]
theorem cel_ne {cs : Cs} {as : Ad} {σ : Sg} {k : Nat} {d : Bool} {i j : Nat} {v : Int32} {c : Lb} (h : ¬ c = (k, d, i)) : cel cs as (up4 σ k d i j v) c.1 c.2.1 c.2.2 = cel cs as σ c.1 c.2.1 c.2.2 := by
  obtain ⟨k', d', i'⟩ := c
  have e : up4 σ k d i j v k' d' i' = σ k' d' i' := funext (up4_ne h)
  unfold cel
  dsimp only
  cases i' with
  | zero => rw [e]
  | succ i'' => simp only [e]
theorem conc_set {sd : Bool} {cs : Cs} {as : Ad} {σ : Sg} {k : Nat} {d : Bool} {i q : Nat} (j : Nat) (v : Int32) (hq : (lbs sd)[q]? = some (k, d, i)) : (conc sd cs as σ).set q (as k d i, cel cs as (up4 σ k d i j v) k d i) = conc sd cs as (up4 σ k d i j v) := by
  refine List.ext_getElem? fun p => ?_
  unfold conc
  by_cases hp : q = p
  · subst hp
    have hl : q < ((lbs sd).map fun c => (as c.1 c.2.1 c.2.2, cel cs as σ c.1 c.2.1 c.2.2)).length := by
      rw [List.length_map]; exact (List.getElem?_eq_some_iff.mp hq).1
    rw [List.getElem?_set_self hl, List.getElem?_map, hq]
    rfl
  · rw [List.getElem?_set_ne hp, List.getElem?_map, List.getElem?_map]
    cases hc : (lbs sd)[p]? with
    | none => rfl
    | some c =>
      have hne : ¬ c = (k, d, i) := by
        rintro rfl
        exact hp ((List.getElem?_inj (List.getElem?_eq_some_iff.mp hq).1 (lbs_nd sd)).mp (hq.trans hc.symm))
      simp only [Option.map_some, cel_ne hne]
/-! locals -/
def noL (L : Lc) : Nat → Bool
  | 0 => true
  | j + 1 => match L[j]? with
    | some (some (.inr (.inl _))) => false
    | _ => true
theorem noL_cat (as : Ad) {L : Lc} {i : Nat} {u : AV} (hn : noL L (i + 1) = true) (hu : L[i]? = some (some u)) : (cv as u).category = 1 := by
  rcases u with x | x | x
  · rfl
  · simp [noL, hu] at hn
  · rfl
def lvOf (as : Ad)
 (L : Lc) : List (Nat × Value) := (List.range L.length).filterMap fun i => match L[i]? with
  | some (some v) => some (i, cv as v)
  | _ => none
def hasL (as : Ad) (ls : Array Slot) (nL : Nat) (L : Lc) : Prop := lv_has ls nL (lvOf as L) ∧ L.length = nL
theorem lvOf_mem {as : Ad} {L : Lc} {i : Nat} {w : Value} : (i, w) ∈ lvOf as L ↔ ∃ v, L[i]? = some (some v) ∧ w = cv as v := by
  unfold lvOf
  rw [List.mem_filterMap]
  constructor
  · rintro ⟨j, hj, h⟩
    split at h
    next v hv =>
      cases h
      exact ⟨v, hv, rfl⟩
    next => cases h
  · rintro ⟨v, hv, rfl⟩
    exact ⟨i, List.mem_range.mpr (List.getElem?_eq_some_iff.mp hv).1, by rw [hv]⟩
theorem hasL_at {as : Ad} {ls : Array Slot} {nL : Nat} {L : Lc} (h : hasL as ls nL L) {i : Nat} {v : AV} (hi : L[i]? = some (some v)) : ls[i]? = some (.val (cv as v)) :=
  h.1.2.2 (i, cv as v) (lvOf_mem.mpr ⟨v, hi, rfl⟩)
theorem hasL_set {as : Ad} {ls ls' : Array Slot} {nL n : Nat} {L : Lc} {v : AV} (h : hasL as ls nL L) (hn : noL L n = true) (hk : lv_has ls' nL ((n, cv as v) :: (lvOf as L).filter (fun q => !(q.1 == n) && !(q.1 + 1 == n && q.2.category == 2)))) : hasL as ls' nL (L.set n (some v)) := by
  refine ⟨⟨hk.1, hk.2.1, fun q hq => ?_⟩, by rw [List.length_set]; exact h.2⟩
  obtain ⟨i, w⟩ := q
  obtain ⟨u, hu, rfl⟩ := lvOf_mem.mp hq
  refine hk.2.2 (i, cv as u) ?_
  by_cases e : n = i
  · subst e
    have hl : n < L.length := by
      have := (List.getElem?_eq_some_iff.mp hu).1
      rwa [List.length_set] at this
    rw [List.getElem?_set_self hl] at hu
    cases hu
    exact List.mem_cons_self
  · rw [List.getElem?_set_ne e] at hu
    refine List.mem_cons_of_mem _ (List.mem_filter.mpr ⟨lvOf_mem.mpr ⟨u, hu, rfl⟩, ?_⟩)
    have e1 : (i == n) = false := by simp; omega
    simp only [e1, Bool.not_false, Bool.true_and, Bool.not_eq_true']
    by_cases e2 : i + 1 = n
    · subst e2
      simp [noL_cat as hn hu]
    · have : (i + 1 == n) = false := by simp; omega
      simp [this]
theorem hasL_set2 {as : Ad} {ls ls' : Array Slot} {nL n : Nat} {L : Lc} {v : AV} (h : hasL as ls nL L) (hn : noL L n = true) (hk : lv_has ls' nL ((n, cv as v) :: (lvOf as L).filter (fun q => !(q.1 == n) && (!(q.1 == n + 1) && !(q.1 + 1 == n && q.2.category == 2))))) : hasL as ls' nL ((L.set n (some v)).set (n + 1) none) := by
  refine ⟨⟨hk.1, hk.2.1, fun q hq => ?_⟩, by rw [List.length_set, List.length_set]; exact h.2⟩
  obtain ⟨i, w⟩ := q
  obtain ⟨u, hu, rfl⟩ := lvOf_mem.mp hq
  refine hk.2.2 (i, cv as u) ?_
  by_cases e0 : n + 1 = i
  · subst e0
    have hl : n + 1 < (L.set n (some v)).length := by
      have := (List.getElem?_eq_some_iff.mp hu).1
      rwa [List.length_set] at this
    rw [List.getElem?_set_self hl] at hu
    cases hu
  rw [List.getElem?_set_ne e0] at hu
  by_cases e : n = i
  · subst e
    have hl : n < L.length := by
      have := (List.getElem?_eq_some_iff.mp hu).1
      rwa [List.length_set] at this
    rw [List.getElem?_set_self hl] at hu
    cases hu
    exact List.mem_cons_self
  · rw [List.getElem?_set_ne e] at hu
    refine List.mem_cons_of_mem _ (List.mem_filter.mpr ⟨lvOf_mem.mpr ⟨u, hu, rfl⟩, ?_⟩)
    have e1 : (i == n) = false := by simp; omega
    have e3 : (i == n + 1) = false := by simp; omega
    simp only [e1, e3, Bool.not_false, Bool.true_and, Bool.not_eq_true']
    by_cases e2 : i + 1 = n
    · subst e2
      simp [noL_cat as hn hu]
    · have : (i + 1 == n) = false := by simp; omega
      simp [this]
def argL : List AV → Lc
  | [] => []
  | v :: vs => match v with
    | .inr (.inl x) => some (.inr (.inl x)) :: none :: argL vs
    | v => some v :: argL vs
def initL (nL : Nat) (vs : List AV) : Lc := argL vs ++ List.replicate (nL - (argL vs).length) none
theorem argL_mem (as : Ad) : ∀ (vs : List AV) (off i : Nat) (v : AV), (argL vs)[i]? = some (some v) → (off + i, cv as v) ∈ lv_args off (vs.map (cv as))
  | [], off, i, v, h => by simp [argL] at h
  | .inl x :: vs, off, i, v, h => by
    show _ ∈ lv_args off (Value.int x :: vs.map (cv as))
    unfold lv_args
    cases i with
    | zero =>
      cases h
      exact List.mem_cons_self
    | succ i =>
      refine List.mem_cons_of_mem _ ?_
      have := argL_mem as vs (off + 1) i v h
      rw [show off + (i + 1) = off + 1 + i by omega]
      exact this
  | .inr (.inr x) :: vs, off, i, v, h => by
    show _ ∈ lv_args off (Value.ref _ :: vs.map (cv as))
    unfold lv_args
    cases i with
    | zero =>
      cases h
      exact List.mem_cons_self
    | succ i =>
      refine List.mem_cons_of_mem _ ?_
      have := argL_mem as vs (off + 1) i v h
      rw [show off + (i + 1) = off + 1 + i by omega]
      exact this
  | .inr (.inl x) :: vs, off, i, v, h => by
    show _ ∈ lv_args off (Value.long x :: vs.map (cv as))
    unfold lv_args
    match i, h with
    | 0, h =>
      cases h
      exact List.mem_cons_self
    | 1, h => cases h
    | i + 2, h =>
      refine List.mem_cons_of_mem _ ?_
      have := argL_mem as vs (off + 2) i v h
      rw [show off + (i + 2) = off + 2 + i by omega]
      exact this
theorem argL_len (as : Ad) : ∀ vs : List AV, (lg_sl (vs.map (cv as))).length = (argL vs).length
  | [] => rfl
  | .inl x :: vs => by
    have := argL_len as vs
    simp [lg_sl, argL, cv, Value.category] at this ⊢
    exact this
  | .inr (.inr x) :: vs => by
    have := argL_len as vs
    simp [lg_sl, argL, cv, Value.category] at this ⊢
    exact this
  | .inr (.inl x) :: vs => by
    have := argL_len as vs
    simp [lg_sl, argL, cv, Value.category] at this ⊢
    omega
theorem hasL_init {as : Ad} {nL : Nat} {vs : List AV} (h : (argL vs).length ≤ nL) : hasL as ((lg_sl (vs.map (cv as)) ++ List.replicate (nL - (lg_sl (vs.map (cv as))).length) Slot.unset).toArray) nL (initL nL vs) := by
  have h1 := lv_entry (vs.map (cv as)) (n := nL) (by rw [argL_len]; exact h)
  refine ⟨⟨h1.1, h1.2.1, fun q hq => h1.2.2 q ?_⟩, by unfold initL; rw [List.length_append, List.length_replicate]; omega⟩
  obtain ⟨i, w⟩ := q
  obtain ⟨v, hv, rfl⟩ := lvOf_mem.mp hq
  have hv2 : (argL vs)[i]? = some (some v) := by
    unfold initL at hv
    by_cases hi : i < (argL vs).length
    · rwa [List.getElem?_append_left hi] at hv
    · rw [List.getElem?_append_right (by omega)] at hv
      have := List.eq_of_mem_replicate (List.mem_of_getElem? hv)
      cases this
  have := argL_mem as vs 0 i v hv2
  rwa [Nat.zero_add] at this
end
section
/-! The methods' code, with what its instructions link. -/
abbrev Ent : Type := Nat × Instr × Nat × Nat × Int32 × List (Int32 × Nat) × Nat
/-- BikeTown$Day.startPost(I)V -/
def cd0 : List Ent := [(0, .aload_n 0, 0, 0, 0, [], 0),
  (1, .getfield 22, 0, 6, 0, [], 364),
  (4, .iload_n 1, 0, 0, 0, [], 0),
  (5, .bipush 10, 0, 0, nI 10, [], 0),
  (7, .iastore, 0, 0, 0, [], 0),
  (8, .aload_n 0, 0, 0, 0, [], 0),
  (9, .getfield 26, 0, 7, 0, [], 366),
  (12, .iload_n 1, 0, 0, 0, [], 0),
  (13, .iconst 1, 0, 0, nI 1, [], 0),
  (14, .bastore, 0, 0, 0, [], 0),
  (15, .aload_n 0, 0, 0, 0, [], 0),
  (16, .getfield 30, 0, 8, 0, [], 368),
  (19, .iload_n 1, 0, 0, 0, [], 0),
  (20, .iconst 0, 0, 0, nI 0, [], 0),
  (21, .iastore, 0, 0, 0, [], 0),
  (22, .aload_n 0, 0, 0, 0, [], 0),
  (23, .getfield 33, 0, 9, 0, [], 369),
  (26, .iload_n 1, 0, 0, 0, [], 0),
  (27, .iconst 0, 0, 0, nI 0, [], 0),
  (28, .iastore, 0, 0, 0, [], 0),
  (29, .aload_n 0, 0, 0, 0, [], 0),
  (30, .getfield 36, 0, 10, 0, [], 370),
  (33, .iload_n 1, 0, 0, 0, [], 0),
  (34, .iconst 0, 0, 0, nI 0, [], 0),
  (35, .iastore, 0, 0, 0, [], 0),
  (36, .return_, 0, 0, 0, [], 0)]
/-- BikeTown$Day.startRider(I)V -/
def cd1 : List Ent := [(0, .aload_n 0, 0, 0, 0, [], 0),
  (1, .getfield 47, 0, 13, 0, [], 374),
  (4, .iconst 0, 0, 0, nI 0, [], 0),
  (5, .aaload, 0, 0, 0, [], 0),
  (6, .iload_n 1, 0, 0, 0, [], 0),
  (7, .iconst 0, 0, 0, nI 0, [], 0),
  (8, .iastore, 0, 0, 0, [], 0),
  (9, .aload_n 0, 0, 0, 0, [], 0),
  (10, .getfield 47, 0, 13, 0, [], 374),
  (13, .iconst 1, 0, 0, nI 1, [], 0),
  (14, .aaload, 0, 0, 0, [], 0),
  (15, .iload_n 1, 0, 0, 0, [], 0),
  (16, .iconst (-1), 0, 0, (-1), [], 0),
  (17, .iastore, 0, 0, 0, [], 0),
  (18, .aload_n 0, 0, 0, 0, [], 0),
  (19, .getfield 47, 0, 13, 0, [], 374),
  (22, .iconst 2, 0, 0, nI 2, [], 0),
  (23, .aaload, 0, 0, 0, [], 0),
  (24, .iload_n 1, 0, 0, 0, [], 0),
  (25, .iconst (-1), 0, 0, (-1), [], 0),
  (26, .iastore, 0, 0, 0, [], 0),
  (27, .aload_n 0, 0, 0, 0, [], 0),
  (28, .getfield 47, 0, 13, 0, [], 374),
  (31, .iconst 3, 0, 0, nI 3, [], 0),
  (32, .aaload, 0, 0, 0, [], 0),
  (33, .iload_n 1, 0, 0, 0, [], 0),
  (34, .iconst (-1), 0, 0, (-1), [], 0),
  (35, .iastore, 0, 0, 0, [], 0),
  (36, .aload_n 0, 0, 0, 0, [], 0),
  (37, .getfield 47, 0, 13, 0, [], 374),
  (40, .iconst 4, 0, 0, nI 4, [], 0),
  (41, .aaload, 0, 0, 0, [], 0),
  (42, .iload_n 1, 0, 0, 0, [], 0),
  (43, .iconst (-1), 0, 0, (-1), [], 0),
  (44, .iastore, 0, 0, 0, [], 0),
  (45, .aload_n 0, 0, 0, 0, [], 0),
  (46, .getfield 47, 0, 13, 0, [], 374),
  (49, .iconst 5, 0, 0, nI 5, [], 0),
  (50, .aaload, 0, 0, 0, [], 0),
  (51, .iload_n 1, 0, 0, 0, [], 0),
  (52, .iconst 0, 0, 0, nI 0, [], 0),
  (53, .iastore, 0, 0, 0, [], 0),
  (54, .return_, 0, 0, 0, [], 0)]
/-- BikeTown$Day.freeRacks(I)I -/
def cd2 : List Ent := [(0, .aload_n 0, 0, 0, 0, [], 0),
  (1, .getfield 58, 0, 0, 0, [], 355),
  (4, .getfield 135, 8, 7, 0, [], 133),
  (7, .iload_n 1, 0, 0, 0, [], 0),
  (8, .iaload, 0, 0, 0, [], 0),
  (9, .aload_n 0, 0, 0, 0, [], 0),
  (10, .getfield 30, 0, 8, 0, [], 368),
  (13, .iload_n 1, 0, 0, 0, [], 0),
  (14, .iaload, 0, 0, 0, [], 0),
  (15, .isub, 0, 0, 0, [], 0),
  (16, .ireturn, 0, 0, 0, [], 0)]
/-- BikeTown$Day.settle(II)V -/
def cd3 : List Ent := [(0, .aload_n 0, 0, 0, 0, [], 0),
  (1, .getfield 41, 0, 11, 0, [], 371),
  (4, .iconst 0, 0, 0, nI 0, [], 0),
  (5, .aaload, 0, 0, 0, [], 0),
  (6, .iload_n 1, 0, 0, 0, [], 0),
  (7, .iconst 0, 0, 0, nI 0, [], 0),
  (8, .iastore, 0, 0, 0, [], 0),
  (9, .aload_n 0, 0, 0, 0, [], 0),
  (10, .getfield 41, 0, 11, 0, [], 371),
  (13, .iconst 1, 0, 0, nI 1, [], 0),
  (14, .aaload, 0, 0, 0, [], 0),
  (15, .iload_n 1, 0, 0, 0, [], 0),
  (16, .iload_n 2, 0, 0, 0, [], 0),
  (17, .iastore, 0, 0, 0, [], 0),
  (18, .aload_n 0, 0, 0, 0, [], 0),
  (19, .getfield 30, 0, 8, 0, [], 368),
  (22, .iload_n 2, 0, 0, 0, [], 0),
  (23, .dup2, 0, 0, 0, [], 0),
  (24, .iaload, 0, 0, 0, [], 0),
  (25, .iconst 1, 0, 0, nI 1, [], 0),
  (26, .iadd, 0, 0, 0, [], 0),
  (27, .iastore, 0, 0, 0, [], 0),
  (28, .aload_n 0, 0, 0, 0, [], 0),
  (29, .getfield 41, 0, 11, 0, [], 371),
  (32, .iconst 3, 0, 0, nI 3, [], 0),
  (33, .aaload, 0, 0, 0, [], 0),
  (34, .iload_n 1, 0, 0, 0, [], 0),
  (35, .iaload, 0, 0, 0, [], 0),
  (36, .ifCond .ne 13, 37, 0, 0, [], 0),
  (39, .aload_n 0, 0, 0, 0, [], 0),
  (40, .getfield 33, 0, 9, 0, [], 369),
  (43, .iload_n 2, 0, 0, 0, [], 0),
  (44, .dup2, 0, 0, 0, [], 0),
  (45, .iaload, 0, 0, 0, [], 0),
  (46, .iconst 1, 0, 0, nI 1, [], 0),
  (47, .iadd, 0, 0, 0, [], 0),
  (48, .iastore, 0, 0, 0, [], 0),
  (49, .return_, 0, 0, 0, [], 0)]
/-- BikeTown$Day.isAt(II)Z -/
def cd4 : List Ent := [(0, .aload_n 0, 0, 0, 0, [], 0),
  (1, .getfield 41, 0, 11, 0, [], 371),
  (4, .iconst 0, 0, 0, nI 0, [], 0),
  (5, .aaload, 0, 0, 0, [], 0),
  (6, .iload_n 1, 0, 0, 0, [], 0),
  (7, .iaload, 0, 0, 0, [], 0),
  (8, .ifCond .ne 19, 17, 0, 0, [], 0),
  (11, .aload_n 0, 0, 0, 0, [], 0),
  (12, .getfield 41, 0, 11, 0, [], 371),
  (15, .iconst 1, 0, 0, nI 1, [], 0),
  (16, .aaload, 0, 0, 0, [], 0),
  (17, .iload_n 1, 0, 0, 0, [], 0),
  (18, .iaload, 0, 0, 0, [], 0),
  (19, .iload_n 2, 0, 0, 0, [], 0),
  (20, .if_icmp .ne 7, 17, 0, 0, [], 0),
  (23, .iconst 1, 0, 0, nI 1, [], 0),
  (24, .goto 4, 18, 0, 0, [], 0),
  (27, .iconst 0, 0, 0, nI 0, [], 0),
  (28, .ireturn, 0, 0, 0, [], 0)]
/-- BikeTown$Day.hour()I -/
def cd5 : List Ent := [(0, .aload_n 0, 0, 0, 0, [], 0),
  (1, .getfield 75, 0, 4, 0, [], 361),
  (4, .bipush 60, 0, 0, nI 60, [], 0),
  (6, .idiv, 0, 0, 0, [], 0),
  (7, .ireturn, 0, 0, 0, [], 0)]
/-- BikeTown$Days.keep(ILBikeTown$Diary;)V -/
def cd6 : List Ent := [(0, .aload_n 0, 0, 0, 0, [], 0),
  (1, .getfield 9, 1, 1, 0, [], 420),
  (4, .aload_n 0, 0, 0, 0, [], 0),
  (5, .getfield 20, 1, 0, 0, [], 418),
  (8, .iload_n 1, 0, 0, 0, [], 0),
  (9, .iastore, 0, 0, 0, [], 0),
  (10, .iconst 0, 0, 0, nI 0, [], 0),
  (11, .istore_n 3, 0, 0, 0, [], 0),
  (12, .iload_n 3, 0, 0, 0, [], 0),
  (13, .bipush 12, 0, 0, nI 12, [], 0),
  (15, .if_icmp .ge 51, 37, 0, 0, [], 0),
  (18, .iconst 0, 0, 0, nI 0, [], 0),
  (19, .istore 4, 0, 0, 0, [], 0),
  (21, .iload 4, 0, 0, 0, [], 0),
  (23, .bipush 24, 0, 0, nI 24, [], 0),
  (25, .if_icmp .ge 35, 35, 0, 0, [], 0),
  (28, .aload_n 0, 0, 0, 0, [], 0),
  (29, .getfield 17, 1, 2, 0, [], 421),
  (32, .aload_n 0, 0, 0, 0, [], 0),
  (33, .getfield 20, 1, 0, 0, [], 418),
  (36, .aaload, 0, 0, 0, [], 0),
  (37, .iload_n 3, 0, 0, 0, [], 0),
  (38, .bipush 24, 0, 0, nI 24, [], 0),
  (40, .imul, 0, 0, 0, [], 0),
  (41, .iload 4, 0, 0, 0, [], 0),
  (43, .iadd, 0, 0, 0, [], 0),
  (44, .aload_n 2, 0, 0, 0, [], 0),
  (45, .getfield 24, 2, 4, 0, [], 324),
  (48, .iload_n 3, 0, 0, 0, [], 0),
  (49, .aaload, 0, 0, 0, [], 0),
  (50, .iload 4, 0, 0, 0, [], 0),
  (52, .iaload, 0, 0, 0, [], 0),
  (53, .iastore, 0, 0, 0, [], 0),
  (54, .iinc 4 1, 0, 0, nI 1, [], 0),
  (57, .goto (-36), 13, 0, 0, [], 0),
  (60, .iinc 3 1, 0, 0, nI 1, [], 0),
  (63, .goto (-51), 8, 0, 0, [], 0),
  (66, .aload_n 0, 0, 0, 0, [], 0),
  (67, .dup, 0, 0, 0, [], 0),
  (68, .getfield 20, 1, 0, 0, [], 418),
  (71, .iconst 1, 0, 0, nI 1, [], 0),
  (72, .iadd, 0, 0, 0, [], 0),
  (73, .putfield 20, 1, 0, 0, [], 418),
  (76, .return_, 0, 0, 0, [], 0)]
/-- BikeTown$Days.countWith(I)I -/
def cd7 : List Ent := [(0, .iconst 0, 0, 0, nI 0, [], 0),
  (1, .istore_n 2, 0, 0, 0, [], 0),
  (2, .iconst 0, 0, 0, nI 0, [], 0),
  (3, .istore_n 3, 0, 0, 0, [], 0),
  (4, .iload_n 3, 0, 0, 0, [], 0),
  (5, .aload_n 0, 0, 0, 0, [], 0),
  (6, .getfield 20, 1, 0, 0, [], 418),
  (9, .if_icmp .ge 22, 17, 0, 0, [], 0),
  (12, .aload_n 0, 0, 0, 0, [], 0),
  (13, .getfield 9, 1, 1, 0, [], 420),
  (16, .iload_n 3, 0, 0, 0, [], 0),
  (17, .iaload, 0, 0, 0, [], 0),
  (18, .iload_n 1, 0, 0, 0, [], 0),
  (19, .if_icmp .ne 6, 15, 0, 0, [], 0),
  (22, .iinc 2 1, 0, 0, nI 1, [], 0),
  (25, .iinc 3 1, 0, 0, nI 1, [], 0),
  (28, .goto (-24), 4, 0, 0, [], 0),
  (31, .iload_n 2, 0, 0, 0, [], 0),
  (32, .ireturn, 0, 0, 0, [], 0)]
/-- BikeTown$Diary.add(IIIII)V -/
def cd8 : List Ent := [(0, .aload_n 0, 0, 0, 0, [], 0),
  (1, .getfield 42, 2, 1, 0, [], 317),
  (4, .aload_n 0, 0, 0, 0, [], 0),
  (5, .getfield 35, 2, 0, 0, [], 316),
  (8, .if_icmp .lt 4, 6, 0, 0, [], 0),
  (11, .return_, 0, 0, 0, [], 0),
  (12, .aload_n 0, 0, 0, 0, [], 0),
  (13, .getfield 39, 2, 3, 0, [], 321),
  (16, .iconst 0, 0, 0, nI 0, [], 0),
  (17, .aaload, 0, 0, 0, [], 0),
  (18, .aload_n 0, 0, 0, 0, [], 0),
  (19, .getfield 42, 2, 1, 0, [], 317),
  (22, .iload_n 1, 0, 0, 0, [], 0),
  (23, .iastore, 0, 0, 0, [], 0),
  (24, .aload_n 0, 0, 0, 0, [], 0),
  (25, .getfield 39, 2, 3, 0, [], 321),
  (28, .iconst 1, 0, 0, nI 1, [], 0),
  (29, .aaload, 0, 0, 0, [], 0),
  (30, .aload_n 0, 0, 0, 0, [], 0),
  (31, .getfield 42, 2, 1, 0, [], 317),
  (34, .iload_n 2, 0, 0, 0, [], 0),
  (35, .iastore, 0, 0, 0, [], 0),
  (36, .aload_n 0, 0, 0, 0, [], 0),
  (37, .getfield 39, 2, 3, 0, [], 321),
  (40, .iconst 2, 0, 0, nI 2, [], 0),
  (41, .aaload, 0, 0, 0, [], 0),
  (42, .aload_n 0, 0, 0, 0, [], 0),
  (43, .getfield 42, 2, 1, 0, [], 317),
  (46, .iload_n 3, 0, 0, 0, [], 0),
  (47, .iastore, 0, 0, 0, [], 0),
  (48, .aload_n 0, 0, 0, 0, [], 0),
  (49, .getfield 39, 2, 3, 0, [], 321),
  (52, .iconst 3, 0, 0, nI 3, [], 0),
  (53, .aaload, 0, 0, 0, [], 0),
  (54, .aload_n 0, 0, 0, 0, [], 0),
  (55, .getfield 42, 2, 1, 0, [], 317),
  (58, .iload 4, 0, 0, 0, [], 0),
  (60, .iastore, 0, 0, 0, [], 0),
  (61, .aload_n 0, 0, 0, 0, [], 0),
  (62, .getfield 39, 2, 3, 0, [], 321),
  (65, .iconst 4, 0, 0, nI 4, [], 0),
  (66, .aaload, 0, 0, 0, [], 0),
  (67, .aload_n 0, 0, 0, 0, [], 0),
  (68, .getfield 42, 2, 1, 0, [], 317),
  (71, .iload 5, 0, 0, 0, [], 0),
  (73, .iastore, 0, 0, 0, [], 0),
  (74, .aload_n 0, 0, 0, 0, [], 0),
  (75, .dup, 0, 0, 0, [], 0),
  (76, .getfield 42, 2, 1, 0, [], 317),
  (79, .iconst 1, 0, 0, nI 1, [], 0),
  (80, .iadd, 0, 0, 0, [], 0),
  (81, .putfield 42, 2, 1, 0, [], 317),
  (84, .return_, 0, 0, 0, [], 0)]
/-- BikeTown$Diary.changeBy(I)I -/
def cd9 : List Ent := [(0, .iload_n 0, 0, 0, 0, [], 0),
  (1, .tableswitch 59 1 10 #[57, 55, 59, 59, 57, 55, 57, 55, 57, 55], 6, 0, 0, [(nI 1, 4), (nI 2, 2), (nI 3, 6), (nI 4, 6), (nI 5, 4), (nI 6, 2), (nI 7, 4), (nI 8, 2), (nI 9, 4), (nI 10, 2)], 0),
  (56, .iconst 1, 0, 0, nI 1, [], 0),
  (57, .ireturn, 0, 0, 0, [], 0),
  (58, .iconst (-1), 0, 0, (-1), [], 0),
  (59, .ireturn, 0, 0, 0, [], 0),
  (60, .iconst 0, 0, 0, nI 0, [], 0),
  (61, .ireturn, 0, 0, 0, [], 0)]
/-- BikeTown$Diary.sumOf([I)I -/
def cd10 : List Ent := [(0, .iconst 0, 0, 0, nI 0, [], 0),
  (1, .istore_n 1, 0, 0, 0, [], 0),
  (2, .aload_n 0, 0, 0, 0, [], 0),
  (3, .astore_n 2, 0, 0, 0, [], 0),
  (4, .aload_n 2, 0, 0, 0, [], 0),
  (5, .arraylength, 0, 0, 0, [], 0),
  (6, .istore_n 3, 0, 0, 0, [], 0),
  (7, .iconst 0, 0, 0, nI 0, [], 0),
  (8, .istore 4, 0, 0, 0, [], 0),
  (10, .iload 4, 0, 0, 0, [], 0),
  (12, .iload_n 3, 0, 0, 0, [], 0),
  (13, .if_icmp .ge 20, 22, 0, 0, [], 0),
  (16, .aload_n 2, 0, 0, 0, [], 0),
  (17, .iload 4, 0, 0, 0, [], 0),
  (19, .iaload, 0, 0, 0, [], 0),
  (20, .istore 5, 0, 0, 0, [], 0),
  (22, .iload_n 1, 0, 0, 0, [], 0),
  (23, .iload 5, 0, 0, 0, [], 0),
  (25, .iadd, 0, 0, 0, [], 0),
  (26, .istore_n 1, 0, 0, 0, [], 0),
  (27, .iinc 4 1, 0, 0, nI 1, [], 0),
  (30, .goto (-20), 9, 0, 0, [], 0),
  (33, .iload_n 1, 0, 0, 0, [], 0),
  (34, .ireturn, 0, 0, 0, [], 0)]
/-- BikeTown$Hands.add(IIII)V -/
def cd11 : List Ent := [(0, .aload_n 0, 0, 0, 0, [], 0),
  (1, .getfield 9, 3, 1, 0, [], 240),
  (4, .aload_n 0, 0, 0, 0, [], 0),
  (5, .getfield 24, 3, 0, 0, [], 237),
  (8, .iload_n 1, 0, 0, 0, [], 0),
  (9, .iastore, 0, 0, 0, [], 0),
  (10, .aload_n 0, 0, 0, 0, [], 0),
  (11, .getfield 15, 3, 2, 0, [], 242),
  (14, .aload_n 0, 0, 0, 0, [], 0),
  (15, .getfield 24, 3, 0, 0, [], 237),
  (18, .iload_n 2, 0, 0, 0, [], 0),
  (19, .iastore, 0, 0, 0, [], 0),
  (20, .aload_n 0, 0, 0, 0, [], 0),
  (21, .getfield 18, 3, 3, 0, [], 244),
  (24, .aload_n 0, 0, 0, 0, [], 0),
  (25, .getfield 24, 3, 0, 0, [], 237),
  (28, .iload_n 3, 0, 0, 0, [], 0),
  (29, .iastore, 0, 0, 0, [], 0),
  (30, .aload_n 0, 0, 0, 0, [], 0),
  (31, .getfield 21, 3, 4, 0, [], 246),
  (34, .aload_n 0, 0, 0, 0, [], 0),
  (35, .getfield 24, 3, 0, 0, [], 237),
  (38, .iload 4, 0, 0, 0, [], 0),
  (40, .iastore, 0, 0, 0, [], 0),
  (41, .aload_n 0, 0, 0, 0, [], 0),
  (42, .dup, 0, 0, 0, [], 0),
  (43, .getfield 24, 3, 0, 0, [], 237),
  (46, .iconst 1, 0, 0, nI 1, [], 0),
  (47, .iadd, 0, 0, 0, [], 0),
  (48, .putfield 24, 3, 0, 0, [], 237),
  (51, .return_, 0, 0, 0, [], 0)]
/-- BikeTown$Houses.isLevel(I)Z -/
def cd12 : List Ent := [(0, .iload_n 0, 0, 0, 0, [], 0),
  (1, .ifCond .lt 12, 7, 0, 0, [], 0),
  (4, .iload_n 0, 0, 0, 0, [], 0),
  (5, .iconst 5, 0, 0, nI 5, [], 0),
  (6, .if_icmp .ge 7, 7, 0, 0, [], 0),
  (9, .iconst 1, 0, 0, nI 1, [], 0),
  (10, .goto 4, 8, 0, 0, [], 0),
  (13, .iconst 0, 0, 0, nI 0, [], 0),
  (14, .ireturn, 0, 0, 0, [], 0)]
/-- BikeTown$Houses.pairOf(II)I -/
def cd13 : List Ent := [(0, .iconst 5, 0, 0, nI 5, [], 0),
  (1, .iload_n 0, 0, 0, 0, [], 0),
  (2, .imul, 0, 0, 0, [], 0),
  (3, .iload_n 1, 0, 0, 0, [], 0),
  (4, .iadd, 0, 0, 0, [], 0),
  (5, .ireturn, 0, 0, 0, [], 0)]
/-- BikeTown$Round.spot(II)I -/
def cd14 : List Ent := [(0, .iload_n 0, 0, 0, 0, [], 0),
  (1, .bipush 8, 0, 0, nI 8, [], 0),
  (3, .imul, 0, 0, 0, [], 0),
  (4, .iload_n 1, 0, 0, 0, [], 0),
  (5, .iadd, 0, 0, 0, [], 0),
  (6, .ireturn, 0, 0, 0, [], 0)]
/-- BikeTown$Round.countWanting()I -/
def cd15 : List Ent := [(0, .iconst 0, 0, 0, nI 0, [], 0),
  (1, .istore_n 1, 0, 0, 0, [], 0),
  (2, .aload_n 0, 0, 0, 0, [], 0),
  (3, .getfield 11, 5, 0, 0, [], 435),
  (6, .astore_n 2, 0, 0, 0, [], 0),
  (7, .aload_n 2, 0, 0, 0, [], 0),
  (8, .arraylength, 0, 0, 0, [], 0),
  (9, .istore_n 3, 0, 0, 0, [], 0),
  (10, .iconst 0, 0, 0, nI 0, [], 0),
  (11, .istore 4, 0, 0, 0, [], 0),
  (13, .iload 4, 0, 0, 0, [], 0),
  (15, .iload_n 3, 0, 0, 0, [], 0),
  (16, .if_icmp .ge 23, 22, 0, 0, [], 0),
  (19, .aload_n 2, 0, 0, 0, [], 0),
  (20, .iload 4, 0, 0, 0, [], 0),
  (22, .iaload, 0, 0, 0, [], 0),
  (23, .istore 5, 0, 0, 0, [], 0),
  (25, .iload 5, 0, 0, 0, [], 0),
  (27, .ifCond .eq 6, 20, 0, 0, [], 0),
  (30, .iinc 1 1, 0, 0, nI 1, [], 0),
  (33, .iinc 4 1, 0, 0, nI 1, [], 0),
  (36, .goto (-23), 10, 0, 0, [], 0),
  (39, .iload_n 1, 0, 0, 0, [], 0),
  (40, .ireturn, 0, 0, 0, [], 0)]
/-- BikeTown$Round.gather()V -/
def cd16 : List Ent := [(0, .aload_n 0, 0, 0, 0, [], 0),
  (1, .iconst 0, 0, 0, nI 0, [], 0),
  (2, .putfield 27, 5, 2, 0, [], 438),
  (5, .iconst 0, 0, 0, nI 0, [], 0),
  (6, .istore_n 1, 0, 0, 0, [], 0),
  (7, .iload_n 1, 0, 0, 0, [], 0),
  (8, .bipush 12, 0, 0, nI 12, [], 0),
  (10, .if_icmp .ge 50, 32, 0, 0, [], 0),
  (13, .aload_n 0, 0, 0, 0, [], 0),
  (14, .getfield 27, 5, 2, 0, [], 438),
  (17, .bipush 8, 0, 0, nI 8, [], 0),
  (19, .if_icmp .ge 41, 32, 0, 0, [], 0),
  (22, .aload_n 0, 0, 0, 0, [], 0),
  (23, .getfield 11, 5, 0, 0, [], 435),
  (26, .iload_n 1, 0, 0, 0, [], 0),
  (27, .iaload, 0, 0, 0, [], 0),
  (28, .ifCond .ne 6, 18, 0, 0, [], 0),
  (31, .goto 23, 30, 0, 0, [], 0),
  (34, .aload_n 0, 0, 0, 0, [], 0),
  (35, .getfield 15, 5, 1, 0, [], 437),
  (38, .aload_n 0, 0, 0, 0, [], 0),
  (39, .getfield 27, 5, 2, 0, [], 438),
  (42, .iload_n 1, 0, 0, 0, [], 0),
  (43, .iastore, 0, 0, 0, [], 0),
  (44, .aload_n 0, 0, 0, 0, [], 0),
  (45, .dup, 0, 0, 0, [], 0),
  (46, .getfield 27, 5, 2, 0, [], 438),
  (49, .iconst 1, 0, 0, nI 1, [], 0),
  (50, .iadd, 0, 0, 0, [], 0),
  (51, .putfield 27, 5, 2, 0, [], 438),
  (54, .iinc 1 1, 0, 0, nI 1, [], 0),
  (57, .goto (-50), 5, 0, 0, [], 0),
  (60, .return_, 0, 0, 0, [], 0)]
/-- BikeTown$Round.sumOfWants(I)I -/
def cd17 : List Ent := [(0, .iconst 0, 0, 0, nI 0, [], 0),
  (1, .istore_n 2, 0, 0, 0, [], 0),
  (2, .iconst 0, 0, 0, nI 0, [], 0),
  (3, .istore_n 3, 0, 0, 0, [], 0),
  (4, .iload_n 3, 0, 0, 0, [], 0),
  (5, .aload_n 0, 0, 0, 0, [], 0),
  (6, .getfield 27, 5, 2, 0, [], 438),
  (9, .if_icmp .ge 31, 26, 0, 0, [], 0),
  (12, .iload_n 1, 0, 0, 0, [], 0),
  (13, .iload_n 3, 0, 0, 0, [], 0),
  (14, .ishr, 0, 0, 0, [], 0),
  (15, .iconst 1, 0, 0, nI 1, [], 0),
  (16, .iand, 0, 0, 0, [], 0),
  (17, .ifCond .eq 17, 24, 0, 0, [], 0),
  (20, .iload_n 2, 0, 0, 0, [], 0),
  (21, .aload_n 0, 0, 0, 0, [], 0),
  (22, .getfield 11, 5, 0, 0, [], 435),
  (25, .aload_n 0, 0, 0, 0, [], 0),
  (26, .getfield 15, 5, 1, 0, [], 437),
  (29, .iload_n 3, 0, 0, 0, [], 0),
  (30, .iaload, 0, 0, 0, [], 0),
  (31, .iaload, 0, 0, 0, [], 0),
  (32, .iadd, 0, 0, 0, [], 0),
  (33, .istore_n 2, 0, 0, 0, [], 0),
  (34, .iinc 3 1, 0, 0, nI 1, [], 0),
  (37, .goto (-33), 4, 0, 0, [], 0),
  (40, .iload_n 2, 0, 0, 0, [], 0),
  (41, .ireturn, 0, 0, 0, [], 0)]
/-- BikeTown$Rules.stateBehindTerm(I)I -/
def cd18 : List Ent := [(0, .iload_n 0, 0, 0, 0, [], 0),
  (1, .bipush 17, 0, 0, nI 17, [], 0),
  (3, .if_icmp .eq 9, 6, 0, 0, [], 0),
  (6, .iload_n 0, 0, 0, 0, [], 0),
  (7, .bipush 18, 0, 0, nI 18, [], 0),
  (9, .if_icmp .ne 5, 8, 0, 0, [], 0),
  (12, .iconst 0, 0, 0, nI 0, [], 0),
  (13, .ireturn, 0, 0, 0, [], 0),
  (14, .iload_n 0, 0, 0, 0, [], 0),
  (15, .bipush 16, 0, 0, nI 16, [], 0),
  (17, .if_icmp .ne 5, 13, 0, 0, [], 0),
  (20, .iconst 5, 0, 0, nI 5, [], 0),
  (21, .ireturn, 0, 0, 0, [], 0),
  (22, .iload_n 0, 0, 0, 0, [], 0),
  (23, .bipush 20, 0, 0, nI 20, [], 0),
  (25, .if_icmp .ne 8, 18, 0, 0, [], 0),
  (28, .bipush 6, 0, 0, nI 6, [], 0),
  (30, .goto 4, 19, 0, 0, [], 0),
  (33, .iconst (-1), 0, 0, (-1), [], 0),
  (34, .ireturn, 0, 0, 0, [], 0)]
/-- BikeTown$Rules.addText()I -/
def cd19 : List Ent := [(0, .iconst 0, 0, 0, nI 0, [], 0),
  (1, .istore_n 1, 0, 0, 0, [], 0),
  (2, .iload_n 1, 0, 0, 0, [], 0),
  (3, .aload_n 0, 0, 0, 0, [], 0),
  (4, .getfield 39, 6, 1, 0, [], 192),
  (7, .if_icmp .ge 47, 31, 0, 0, [], 0),
  (10, .aload_n 0, 0, 0, 0, [], 0),
  (11, .getfield 17, 6, 3, 0, [], 197),
  (14, .aload_n 0, 0, 0, 0, [], 0),
  (15, .getfield 51, 6, 2, 0, [], 194),
  (18, .aaload, 0, 0, 0, [], 0),
  (19, .iload_n 1, 0, 0, 0, [], 0),
  (20, .aload_n 0, 0, 0, 0, [], 0),
  (21, .getfield 11, 6, 0, 0, [], 190),
  (24, .iload_n 1, 0, 0, 0, [], 0),
  (25, .iaload, 0, 0, 0, [], 0),
  (26, .iastore, 0, 0, 0, [], 0),
  (27, .aload_n 0, 0, 0, 0, [], 0),
  (28, .getfield 11, 6, 0, 0, [], 190),
  (31, .iload_n 1, 0, 0, 0, [], 0),
  (32, .iaload, 0, 0, 0, [], 0),
  (33, .bipush 20, 0, 0, nI 20, [], 0),
  (35, .if_icmp .ne 13, 29, 0, 0, [], 0),
  (38, .aload_n 0, 0, 0, 0, [], 0),
  (39, .getfield 23, 6, 5, 0, [], 199),
  (42, .aload_n 0, 0, 0, 0, [], 0),
  (43, .getfield 51, 6, 2, 0, [], 194),
  (46, .iload_n 1, 0, 0, 0, [], 0),
  (47, .iastore, 0, 0, 0, [], 0),
  (48, .iinc 1 1, 0, 0, nI 1, [], 0),
  (51, .goto (-49), 2, 0, 0, [], 0),
  (54, .aload_n 0, 0, 0, 0, [], 0),
  (55, .getfield 20, 6, 4, 0, [], 198),
  (58, .aload_n 0, 0, 0, 0, [], 0),
  (59, .getfield 51, 6, 2, 0, [], 194),
  (62, .aload_n 0, 0, 0, 0, [], 0),
  (63, .getfield 39, 6, 1, 0, [], 192),
  (66, .iastore, 0, 0, 0, [], 0),
  (67, .aload_n 0, 0, 0, 0, [], 0),
  (68, .getfield 26, 6, 6, 0, [], 200),
  (71, .aload_n 0, 0, 0, 0, [], 0),
  (72, .getfield 51, 6, 2, 0, [], 194),
  (75, .iconst 0, 0, 0, nI 0, [], 0),
  (76, .bastore, 0, 0, 0, [], 0),
  (77, .aload_n 0, 0, 0, 0, [], 0),
  (78, .dup, 0, 0, 0, [], 0),
  (79, .getfield 51, 6, 2, 0, [], 194),
  (82, .iconst 1, 0, 0, nI 1, [], 0),
  (83, .iadd, 0, 0, 0, [], 0),
  (84, .putfield 51, 6, 2, 0, [], 194),
  (87, .aload_n 0, 0, 0, 0, [], 0),
  (88, .getfield 51, 6, 2, 0, [], 194),
  (91, .iconst 1, 0, 0, nI 1, [], 0),
  (92, .isub, 0, 0, 0, [], 0),
  (93, .ireturn, 0, 0, 0, [], 0)]
/-- BikeTown$Rules.begin(IZ)V -/
def cd20 : List Ent := [(0, .aload_n 0, 0, 0, 0, [], 0),
  (1, .getfield 30, 6, 8, 0, [], 204),
  (4, .iload_n 1, 0, 0, 0, [], 0),
  (5, .iconst 0, 0, 0, nI 0, [], 0),
  (6, .bastore, 0, 0, 0, [], 0),
  (7, .aload_n 0, 0, 0, 0, [], 0),
  (8, .getfield 33, 6, 9, 0, [], 205),
  (11, .iload_n 1, 0, 0, 0, [], 0),
  (12, .iconst 1, 0, 0, nI 1, [], 0),
  (13, .bastore, 0, 0, 0, [], 0),
  (14, .aload_n 0, 0, 0, 0, [], 0),
  (15, .getfield 36, 6, 10, 0, [], 206),
  (18, .iload_n 1, 0, 0, 0, [], 0),
  (19, .iload_n 2, 0, 0, 0, [], 0),
  (20, .bastore, 0, 0, 0, [], 0),
  (21, .return_, 0, 0, 0, [], 0)]
/-- BikeTown$Rules.readSum([II[I)I -/
def cd21 : List Ent := [(0, .iconst 0, 0, 0, nI 0, [], 0),
  (1, .istore 4, 0, 0, 0, [], 0),
  (3, .iconst 0, 0, 0, nI 0, [], 0),
  (4, .istore 5, 0, 0, 0, [], 0),
  (6, .iconst 1, 0, 0, nI 1, [], 0),
  (7, .istore 6, 0, 0, 0, [], 0),
  (9, .aload_n 0, 0, 0, 0, [], 0),
  (10, .getfield 54, 6, 7, 0, [], 203),
  (13, .iload_n 2, 0, 0, 0, [], 0),
  (14, .if_icmp .ge 111, 66, 0, 0, [], 0),
  (17, .aload_n 1, 0, 0, 0, [], 0),
  (18, .aload_n 0, 0, 0, 0, [], 0),
  (19, .getfield 54, 6, 7, 0, [], 203),
  (22, .iaload, 0, 0, 0, [], 0),
  (23, .istore 7, 0, 0, 0, [], 0),
  (25, .iload 7, 0, 0, 0, [], 0),
  (27, .bipush 9, 0, 0, nI 9, [], 0),
  (29, .if_icmp .gt 16, 25, 0, 0, [], 0),
  (32, .iload 5, 0, 0, 0, [], 0),
  (34, .bipush 10, 0, 0, nI 10, [], 0),
  (36, .imul, 0, 0, 0, [], 0),
  (37, .iload 7, 0, 0, 0, [], 0),
  (39, .iadd, 0, 0, 0, [], 0),
  (40, .istore 5, 0, 0, 0, [], 0),
  (42, .goto 70, 59, 0, 0, [], 0),
  (45, .iload 7, 0, 0, 0, [], 0),
  (47, .bipush 21, 0, 0, nI 21, [], 0),
  (49, .if_icmp .lt 22, 38, 0, 0, [], 0),
  (52, .iload 7, 0, 0, 0, [], 0),
  (54, .bipush 27, 0, 0, nI 27, [], 0),
  (56, .if_icmp .gt 15, 38, 0, 0, [], 0),
  (59, .aload_n 3, 0, 0, 0, [], 0),
  (60, .iload 7, 0, 0, 0, [], 0),
  (62, .bipush 21, 0, 0, nI 21, [], 0),
  (64, .isub, 0, 0, 0, [], 0),
  (65, .iaload, 0, 0, 0, [], 0),
  (66, .istore 5, 0, 0, 0, [], 0),
  (68, .goto 44, 59, 0, 0, [], 0),
  (71, .iload 7, 0, 0, 0, [], 0),
  (73, .bipush 10, 0, 0, nI 10, [], 0),
  (75, .if_icmp .eq 10, 44, 0, 0, [], 0),
  (78, .iload 7, 0, 0, 0, [], 0),
  (80, .bipush 11, 0, 0, nI 11, [], 0),
  (82, .if_icmp .ne 43, 66, 0, 0, [], 0),
  (85, .iload 4, 0, 0, 0, [], 0),
  (87, .iload 6, 0, 0, 0, [], 0),
  (89, .iload 5, 0, 0, 0, [], 0),
  (91, .imul, 0, 0, 0, [], 0),
  (92, .iadd, 0, 0, 0, [], 0),
  (93, .istore 4, 0, 0, 0, [], 0),
  (95, .iconst 0, 0, 0, nI 0, [], 0),
  (96, .istore 5, 0, 0, 0, [], 0),
  (98, .iload 7, 0, 0, 0, [], 0),
  (100, .bipush 10, 0, 0, nI 10, [], 0),
  (102, .if_icmp .ne 7, 57, 0, 0, [], 0),
  (105, .iconst 1, 0, 0, nI 1, [], 0),
  (106, .goto 4, 58, 0, 0, [], 0),
  (109, .iconst (-1), 0, 0, (-1), [], 0),
  (110, .istore 6, 0, 0, 0, [], 0),
  (112, .aload_n 0, 0, 0, 0, [], 0),
  (113, .dup, 0, 0, 0, [], 0),
  (114, .getfield 54, 6, 7, 0, [], 203),
  (117, .iconst 1, 0, 0, nI 1, [], 0),
  (118, .iadd, 0, 0, 0, [], 0),
  (119, .putfield 54, 6, 7, 0, [], 203),
  (122, .goto (-113), 6, 0, 0, [], 0),
  (125, .iload 4, 0, 0, 0, [], 0),
  (127, .iload 6, 0, 0, 0, [], 0),
  (129, .iload 5, 0, 0, 0, [], 0),
  (131, .imul, 0, 0, 0, [], 0),
  (132, .iadd, 0, 0, 0, [], 0),
  (133, .ireturn, 0, 0, 0, [], 0)]
/-- BikeTown$Rules.act(I)I -/
def cd22 : List Ent := [(0, .aload_n 0, 0, 0, 0, [], 0),
  (1, .getfield 23, 6, 5, 0, [], 199),
  (4, .iload_n 1, 0, 0, 0, [], 0),
  (5, .iaload, 0, 0, 0, [], 0),
  (6, .iconst 1, 0, 0, nI 1, [], 0),
  (7, .iadd, 0, 0, 0, [], 0),
  (8, .istore_n 2, 0, 0, 0, [], 0),
  (9, .iload_n 2, 0, 0, 0, [], 0),
  (10, .bipush 40, 0, 0, nI 40, [], 0),
  (12, .if_icmp .ge 14, 17, 0, 0, [], 0),
  (15, .aload_n 0, 0, 0, 0, [], 0),
  (16, .getfield 17, 6, 3, 0, [], 197),
  (19, .iload_n 1, 0, 0, 0, [], 0),
  (20, .aaload, 0, 0, 0, [], 0),
  (21, .iload_n 2, 0, 0, 0, [], 0),
  (22, .iaload, 0, 0, 0, [], 0),
  (23, .goto 4, 18, 0, 0, [], 0),
  (26, .iconst (-1), 0, 0, (-1), [], 0),
  (27, .ireturn, 0, 0, 0, [], 0)]
/-- BikeTown$Sites.addSite(II)I -/
def cd23 : List Ent := [(0, .aload_n 0, 0, 0, 0, [], 0),
  (1, .getfield 9, 7, 2, 0, [], 477),
  (4, .aload_n 0, 0, 0, 0, [], 0),
  (5, .getfield 28, 7, 0, 0, [], 473),
  (8, .iload_n 1, 0, 0, 0, [], 0),
  (9, .iastore, 0, 0, 0, [], 0),
  (10, .aload_n 0, 0, 0, 0, [], 0),
  (11, .getfield 13, 7, 3, 0, [], 478),
  (14, .aload_n 0, 0, 0, 0, [], 0),
  (15, .getfield 28, 7, 0, 0, [], 473),
  (18, .iload_n 2, 0, 0, 0, [], 0),
  (19, .iastore, 0, 0, 0, [], 0),
  (20, .aload_n 0, 0, 0, 0, [], 0),
  (21, .dup, 0, 0, 0, [], 0),
  (22, .getfield 28, 7, 0, 0, [], 473),
  (25, .iconst 1, 0, 0, nI 1, [], 0),
  (26, .iadd, 0, 0, 0, [], 0),
  (27, .putfield 28, 7, 0, 0, [], 473),
  (30, .aload_n 0, 0, 0, 0, [], 0),
  (31, .getfield 28, 7, 0, 0, [], 473),
  (34, .iconst 1, 0, 0, nI 1, [], 0),
  (35, .isub, 0, 0, 0, [], 0),
  (36, .ireturn, 0, 0, 0, [], 0)]
/-- BikeTown$Sites.addWish(III)I -/
def cd24 : List Ent := [(0, .aload_n 0, 0, 0, 0, [], 0),
  (1, .getfield 16, 7, 4, 0, [], 479),
  (4, .aload_n 0, 0, 0, 0, [], 0),
  (5, .getfield 32, 7, 1, 0, [], 475),
  (8, .iload_n 1, 0, 0, 0, [], 0),
  (9, .iastore, 0, 0, 0, [], 0),
  (10, .aload_n 0, 0, 0, 0, [], 0),
  (11, .getfield 19, 7, 5, 0, [], 480),
  (14, .aload_n 0, 0, 0, 0, [], 0),
  (15, .getfield 32, 7, 1, 0, [], 475),
  (18, .iload_n 2, 0, 0, 0, [], 0),
  (19, .iastore, 0, 0, 0, [], 0),
  (20, .aload_n 0, 0, 0, 0, [], 0),
  (21, .getfield 22, 7, 6, 0, [], 481),
  (24, .aload_n 0, 0, 0, 0, [], 0),
  (25, .getfield 32, 7, 1, 0, [], 475),
  (28, .iload_n 3, 0, 0, 0, [], 0),
  (29, .iastore, 0, 0, 0, [], 0),
  (30, .aload_n 0, 0, 0, 0, [], 0),
  (31, .dup, 0, 0, 0, [], 0),
  (32, .getfield 32, 7, 1, 0, [], 475),
  (35, .iconst 1, 0, 0, nI 1, [], 0),
  (36, .iadd, 0, 0, 0, [], 0),
  (37, .putfield 32, 7, 1, 0, [], 475),
  (40, .aload_n 0, 0, 0, 0, [], 0),
  (41, .getfield 32, 7, 1, 0, [], 475),
  (44, .iconst 1, 0, 0, nI 1, [], 0),
  (45, .isub, 0, 0, 0, [], 0),
  (46, .ireturn, 0, 0, 0, [], 0)]
/-- BikeTown$Told.isPost(I)Z -/
def cd25 : List Ent := [(0, .iload_n 1, 0, 0, 0, [], 0),
  (1, .ifCond .lt 15, 8, 0, 0, [], 0),
  (4, .iload_n 1, 0, 0, 0, [], 0),
  (5, .aload_n 0, 0, 0, 0, [], 0),
  (6, .getfield 55, 8, 0, 0, [], 112),
  (9, .if_icmp .ge 7, 8, 0, 0, [], 0),
  (12, .iconst 1, 0, 0, nI 1, [], 0),
  (13, .goto 4, 9, 0, 0, [], 0),
  (16, .iconst 0, 0, 0, nI 0, [], 0),
  (17, .ireturn, 0, 0, 0, [], 0)]
/-- BikeTown$Told.isBike(I)Z -/
def cd26 : List Ent := [(0, .iload_n 1, 0, 0, 0, [], 0),
  (1, .ifCond .lt 15, 8, 0, 0, [], 0),
  (4, .iload_n 1, 0, 0, 0, [], 0),
  (5, .aload_n 0, 0, 0, 0, [], 0),
  (6, .getfield 58, 8, 1, 0, [], 117),
  (9, .if_icmp .ge 7, 8, 0, 0, [], 0),
  (12, .iconst 1, 0, 0, nI 1, [], 0),
  (13, .goto 4, 9, 0, 0, [], 0),
  (16, .iconst 0, 0, 0, nI 0, [], 0),
  (17, .ireturn, 0, 0, 0, [], 0)]
/-- BikeTown$Told.addPost(III)I -/
def cd27 : List Ent := [(0, .aload_n 0, 0, 0, 0, [], 0),
  (1, .getfield 18, 8, 5, 0, [], 128),
  (4, .aload_n 0, 0, 0, 0, [], 0),
  (5, .getfield 55, 8, 0, 0, [], 112),
  (8, .iload_n 1, 0, 0, 0, [], 0),
  (9, .iastore, 0, 0, 0, [], 0),
  (10, .aload_n 0, 0, 0, 0, [], 0),
  (11, .getfield 22, 8, 6, 0, [], 130),
  (14, .aload_n 0, 0, 0, 0, [], 0),
  (15, .getfield 55, 8, 0, 0, [], 112),
  (18, .iload_n 2, 0, 0, 0, [], 0),
  (19, .iastore, 0, 0, 0, [], 0),
  (20, .aload_n 0, 0, 0, 0, [], 0),
  (21, .getfield 25, 8, 7, 0, [], 132),
  (24, .aload_n 0, 0, 0, 0, [], 0),
  (25, .getfield 55, 8, 0, 0, [], 112),
  (28, .iload_n 3, 0, 0, 0, [], 0),
  (29, .iastore, 0, 0, 0, [], 0),
  (30, .aload_n 0, 0, 0, 0, [], 0),
  (31, .dup, 0, 0, 0, [], 0),
  (32, .getfield 55, 8, 0, 0, [], 112),
  (35, .iconst 1, 0, 0, nI 1, [], 0),
  (36, .iadd, 0, 0, 0, [], 0),
  (37, .putfield 55, 8, 0, 0, [], 112),
  (40, .aload_n 0, 0, 0, 0, [], 0),
  (41, .getfield 55, 8, 0, 0, [], 112),
  (44, .iconst 1, 0, 0, nI 1, [], 0),
  (45, .isub, 0, 0, 0, [], 0),
  (46, .ireturn, 0, 0, 0, [], 0)]
/-- BikeTown$Told.addBike(I)I -/
def cd28 : List Ent := [(0, .aload_n 0, 0, 0, 0, [], 0),
  (1, .getfield 28, 8, 8, 0, [], 134),
  (4, .aload_n 0, 0, 0, 0, [], 0),
  (5, .getfield 58, 8, 1, 0, [], 117),
  (8, .iload_n 1, 0, 0, 0, [], 0),
  (9, .iastore, 0, 0, 0, [], 0),
  (10, .aload_n 0, 0, 0, 0, [], 0),
  (11, .dup, 0, 0, 0, [], 0),
  (12, .getfield 58, 8, 1, 0, [], 117),
  (15, .iconst 1, 0, 0, nI 1, [], 0),
  (16, .iadd, 0, 0, 0, [], 0),
  (17, .putfield 58, 8, 1, 0, [], 117),
  (20, .aload_n 0, 0, 0, 0, [], 0),
  (21, .getfield 58, 8, 1, 0, [], 117),
  (24, .iconst 1, 0, 0, nI 1, [], 0),
  (25, .isub, 0, 0, 0, [], 0),
  (26, .ireturn, 0, 0, 0, [], 0)]
/-- BikeTown$Told.addRider(IIII)I -/
def cd29 : List Ent := [(0, .aload_n 0, 0, 0, 0, [], 0),
  (1, .getfield 31, 8, 9, 0, [], 136),
  (4, .aload_n 0, 0, 0, 0, [], 0),
  (5, .getfield 61, 8, 2, 0, [], 121),
  (8, .iload_n 1, 0, 0, 0, [], 0),
  (9, .iastore, 0, 0, 0, [], 0),
  (10, .aload_n 0, 0, 0, 0, [], 0),
  (11, .getfield 34, 8, 10, 0, [], 138),
  (14, .aload_n 0, 0, 0, 0, [], 0),
  (15, .getfield 61, 8, 2, 0, [], 121),
  (18, .iload_n 2, 0, 0, 0, [], 0),
  (19, .iastore, 0, 0, 0, [], 0),
  (20, .aload_n 0, 0, 0, 0, [], 0),
  (21, .getfield 37, 8, 11, 0, [], 140),
  (24, .aload_n 0, 0, 0, 0, [], 0),
  (25, .getfield 61, 8, 2, 0, [], 121),
  (28, .iload_n 3, 0, 0, 0, [], 0),
  (29, .iastore, 0, 0, 0, [], 0),
  (30, .aload_n 0, 0, 0, 0, [], 0),
  (31, .getfield 40, 8, 12, 0, [], 142),
  (34, .aload_n 0, 0, 0, 0, [], 0),
  (35, .getfield 61, 8, 2, 0, [], 121),
  (38, .iload 4, 0, 0, 0, [], 0),
  (40, .iastore, 0, 0, 0, [], 0),
  (41, .aload_n 0, 0, 0, 0, [], 0),
  (42, .dup, 0, 0, 0, [], 0),
  (43, .getfield 61, 8, 2, 0, [], 121),
  (46, .iconst 1, 0, 0, nI 1, [], 0),
  (47, .iadd, 0, 0, 0, [], 0),
  (48, .putfield 61, 8, 2, 0, [], 121),
  (51, .aload_n 0, 0, 0, 0, [], 0),
  (52, .getfield 61, 8, 2, 0, [], 121),
  (55, .iconst 1, 0, 0, nI 1, [], 0),
  (56, .isub, 0, 0, 0, [], 0),
  (57, .ireturn, 0, 0, 0, [], 0)]
/-- BikeTown$Told.bikesAhead(I)I -/
def cd30 : List Ent := [(0, .iconst 0, 0, 0, nI 0, [], 0),
  (1, .istore_n 2, 0, 0, 0, [], 0),
  (2, .iconst 0, 0, 0, nI 0, [], 0),
  (3, .istore_n 3, 0, 0, 0, [], 0),
  (4, .iload_n 3, 0, 0, 0, [], 0),
  (5, .aload_n 0, 0, 0, 0, [], 0),
  (6, .getfield 58, 8, 1, 0, [], 117),
  (9, .if_icmp .ge 22, 17, 0, 0, [], 0),
  (12, .aload_n 0, 0, 0, 0, [], 0),
  (13, .getfield 28, 8, 8, 0, [], 134),
  (16, .iload_n 3, 0, 0, 0, [], 0),
  (17, .iaload, 0, 0, 0, [], 0),
  (18, .iload_n 1, 0, 0, 0, [], 0),
  (19, .if_icmp .ne 6, 15, 0, 0, [], 0),
  (22, .iinc 2 1, 0, 0, nI 1, [], 0),
  (25, .iinc 3 1, 0, 0, nI 1, [], 0),
  (28, .goto (-24), 4, 0, 0, [], 0),
  (31, .iload_n 2, 0, 0, 0, [], 0),
  (32, .ireturn, 0, 0, 0, [], 0)]
/-- BikeTown$Trials.add(IZ)I -/
def cd31 : List Ent := [(0, .aload_n 0, 0, 0, 0, [], 0),
  (1, .getfield 9, 9, 1, 0, [], 508),
  (4, .aload_n 0, 0, 0, 0, [], 0),
  (5, .getfield 17, 9, 0, 0, [], 506),
  (8, .iload_n 1, 0, 0, 0, [], 0),
  (9, .iastore, 0, 0, 0, [], 0),
  (10, .aload_n 0, 0, 0, 0, [], 0),
  (11, .getfield 13, 9, 2, 0, [], 509),
  (14, .aload_n 0, 0, 0, 0, [], 0),
  (15, .getfield 17, 9, 0, 0, [], 506),
  (18, .iload_n 2, 0, 0, 0, [], 0),
  (19, .bastore, 0, 0, 0, [], 0),
  (20, .aload_n 0, 0, 0, 0, [], 0),
  (21, .dup, 0, 0, 0, [], 0),
  (22, .getfield 17, 9, 0, 0, [], 506),
  (25, .iconst 1, 0, 0, nI 1, [], 0),
  (26, .iadd, 0, 0, 0, [], 0),
  (27, .putfield 17, 9, 0, 0, [], 506),
  (30, .aload_n 0, 0, 0, 0, [], 0),
  (31, .getfield 17, 9, 0, 0, [], 506),
  (34, .ireturn, 0, 0, 0, [], 0)]
/-- BikeTown$Trials.countFrom(IZ)I -/
def cd32 : List Ent := [(0, .iconst 0, 0, 0, nI 0, [], 0),
  (1, .istore_n 3, 0, 0, 0, [], 0),
  (2, .iconst 0, 0, 0, nI 0, [], 0),
  (3, .istore 4, 0, 0, 0, [], 0),
  (5, .iload 4, 0, 0, 0, [], 0),
  (7, .aload_n 0, 0, 0, 0, [], 0),
  (8, .getfield 17, 9, 0, 0, [], 506),
  (11, .if_icmp .ge 34, 23, 0, 0, [], 0),
  (14, .aload_n 0, 0, 0, 0, [], 0),
  (15, .getfield 9, 9, 1, 0, [], 508),
  (18, .iload 4, 0, 0, 0, [], 0),
  (20, .iaload, 0, 0, 0, [], 0),
  (21, .iload_n 1, 0, 0, 0, [], 0),
  (22, .if_icmp .lt 17, 21, 0, 0, [], 0),
  (25, .aload_n 0, 0, 0, 0, [], 0),
  (26, .getfield 13, 9, 2, 0, [], 509),
  (29, .iload 4, 0, 0, 0, [], 0),
  (31, .baload, 0, 0, 0, [], 0),
  (32, .iload_n 2, 0, 0, 0, [], 0),
  (33, .if_icmp .ne 6, 21, 0, 0, [], 0),
  (36, .iinc 3 1, 0, 0, nI 1, [], 0),
  (39, .iinc 4 1, 0, 0, nI 1, [], 0),
  (42, .goto (-37), 4, 0, 0, [], 0),
  (45, .iload_n 3, 0, 0, 0, [], 0),
  (46, .ireturn, 0, 0, 0, [], 0)]
/-- BikeTown$Van.begin()V -/
def cd33 : List Ent := [(0, .aload_n 0, 0, 0, 0, [], 0),
  (1, .iconst 0, 0, 0, nI 0, [], 0),
  (2, .putfield 25, 10, 0, 0, [], 271),
  (5, .aload_n 0, 0, 0, 0, [], 0),
  (6, .iconst 0, 0, 0, nI 0, [], 0),
  (7, .putfield 28, 10, 1, 0, [], 275),
  (10, .aload_n 0, 0, 0, 0, [], 0),
  (11, .iconst 0, 0, 0, nI 0, [], 0),
  (12, .putfield 31, 10, 2, 0, [], 279),
  (15, .aload_n 0, 0, 0, 0, [], 0),
  (16, .iconst (-1), 0, 0, (-1), [], 0),
  (17, .putfield 9, 10, 3, 0, [], 282),
  (20, .return_, 0, 0, 0, [], 0)]
/-- BikeTown$Van.addStop(II)V -/
def cd34 : List Ent := [(0, .aload_n 0, 0, 0, 0, [], 0),
  (1, .getfield 31, 10, 2, 0, [], 279),
  (4, .bipush 20, 0, 0, nI 20, [], 0),
  (6, .if_icmp .lt 4, 5, 0, 0, [], 0),
  (9, .return_, 0, 0, 0, [], 0),
  (10, .aload_n 0, 0, 0, 0, [], 0),
  (11, .getfield 19, 10, 5, 0, [], 286),
  (14, .aload_n 0, 0, 0, 0, [], 0),
  (15, .getfield 31, 10, 2, 0, [], 279),
  (18, .iload_n 1, 0, 0, 0, [], 0),
  (19, .iastore, 0, 0, 0, [], 0),
  (20, .aload_n 0, 0, 0, 0, [], 0),
  (21, .getfield 22, 10, 6, 0, [], 288),
  (24, .aload_n 0, 0, 0, 0, [], 0),
  (25, .getfield 31, 10, 2, 0, [], 279),
  (28, .iload_n 2, 0, 0, 0, [], 0),
  (29, .iastore, 0, 0, 0, [], 0),
  (30, .aload_n 0, 0, 0, 0, [], 0),
  (31, .dup, 0, 0, 0, [], 0),
  (32, .getfield 31, 10, 2, 0, [], 279),
  (35, .iconst 1, 0, 0, nI 1, [], 0),
  (36, .iadd, 0, 0, 0, [], 0),
  (37, .putfield 31, 10, 2, 0, [], 279),
  (40, .return_, 0, 0, 0, [], 0)]
/-- BikeTown$Van.dropFirstStop()V -/
def cd35 : List Ent := [(0, .iconst 1, 0, 0, nI 1, [], 0),
  (1, .istore_n 1, 0, 0, 0, [], 0),
  (2, .iload_n 1, 0, 0, 0, [], 0),
  (3, .aload_n 0, 0, 0, 0, [], 0),
  (4, .getfield 31, 10, 2, 0, [], 279),
  (7, .if_icmp .ge 37, 28, 0, 0, [], 0),
  (10, .aload_n 0, 0, 0, 0, [], 0),
  (11, .getfield 19, 10, 5, 0, [], 286),
  (14, .iload_n 1, 0, 0, 0, [], 0),
  (15, .iconst 1, 0, 0, nI 1, [], 0),
  (16, .isub, 0, 0, 0, [], 0),
  (17, .aload_n 0, 0, 0, 0, [], 0),
  (18, .getfield 19, 10, 5, 0, [], 286),
  (21, .iload_n 1, 0, 0, 0, [], 0),
  (22, .iaload, 0, 0, 0, [], 0),
  (23, .iastore, 0, 0, 0, [], 0),
  (24, .aload_n 0, 0, 0, 0, [], 0),
  (25, .getfield 22, 10, 6, 0, [], 288),
  (28, .iload_n 1, 0, 0, 0, [], 0),
  (29, .iconst 1, 0, 0, nI 1, [], 0),
  (30, .isub, 0, 0, 0, [], 0),
  (31, .aload_n 0, 0, 0, 0, [], 0),
  (32, .getfield 22, 10, 6, 0, [], 288),
  (35, .iload_n 1, 0, 0, 0, [], 0),
  (36, .iaload, 0, 0, 0, [], 0),
  (37, .iastore, 0, 0, 0, [], 0),
  (38, .iinc 1 1, 0, 0, nI 1, [], 0),
  (41, .goto (-39), 2, 0, 0, [], 0),
  (44, .aload_n 0, 0, 0, 0, [], 0),
  (45, .getfield 31, 10, 2, 0, [], 279),
  (48, .ifCond .le 13, 37, 0, 0, [], 0),
  (51, .aload_n 0, 0, 0, 0, [], 0),
  (52, .dup, 0, 0, 0, [], 0),
  (53, .getfield 31, 10, 2, 0, [], 279),
  (56, .iconst 1, 0, 0, nI 1, [], 0),
  (57, .isub, 0, 0, 0, [], 0),
  (58, .putfield 31, 10, 2, 0, [], 279),
  (61, .return_, 0, 0, 0, [], 0)]
/-- BikeTown$Van.put(I)V -/
def cd36 : List Ent := [(0, .aload_n 0, 0, 0, 0, [], 0),
  (1, .getfield 28, 10, 1, 0, [], 275),
  (4, .bipush 12, 0, 0, nI 12, [], 0),
  (6, .if_icmp .lt 4, 5, 0, 0, [], 0),
  (9, .return_, 0, 0, 0, [], 0),
  (10, .aload_n 0, 0, 0, 0, [], 0),
  (11, .getfield 15, 10, 4, 0, [], 285),
  (14, .aload_n 0, 0, 0, 0, [], 0),
  (15, .getfield 28, 10, 1, 0, [], 275),
  (18, .iload_n 1, 0, 0, 0, [], 0),
  (19, .iastore, 0, 0, 0, [], 0),
  (20, .aload_n 0, 0, 0, 0, [], 0),
  (21, .dup, 0, 0, 0, [], 0),
  (22, .getfield 28, 10, 1, 0, [], 275),
  (25, .iconst 1, 0, 0, nI 1, [], 0),
  (26, .iadd, 0, 0, 0, [], 0),
  (27, .putfield 28, 10, 1, 0, [], 275),
  (30, .return_, 0, 0, 0, [], 0)]
/-- BikeTown$Van.takeFirst()I -/
def cd37 : List Ent := [(0, .aload_n 0, 0, 0, 0, [], 0),
  (1, .getfield 28, 10, 1, 0, [], 275),
  (4, .ifCond .gt 5, 5, 0, 0, [], 0),
  (7, .iconst (-1), 0, 0, (-1), [], 0),
  (8, .ireturn, 0, 0, 0, [], 0),
  (9, .aload_n 0, 0, 0, 0, [], 0),
  (10, .getfield 15, 10, 4, 0, [], 285),
  (13, .iconst 0, 0, 0, nI 0, [], 0),
  (14, .iaload, 0, 0, 0, [], 0),
  (15, .istore_n 1, 0, 0, 0, [], 0),
  (16, .iconst 1, 0, 0, nI 1, [], 0),
  (17, .istore_n 2, 0, 0, 0, [], 0),
  (18, .iload_n 2, 0, 0, 0, [], 0),
  (19, .aload_n 0, 0, 0, 0, [], 0),
  (20, .getfield 28, 10, 1, 0, [], 275),
  (23, .if_icmp .ge 23, 28, 0, 0, [], 0),
  (26, .aload_n 0, 0, 0, 0, [], 0),
  (27, .getfield 15, 10, 4, 0, [], 285),
  (30, .iload_n 2, 0, 0, 0, [], 0),
  (31, .iconst 1, 0, 0, nI 1, [], 0),
  (32, .isub, 0, 0, 0, [], 0),
  (33, .aload_n 0, 0, 0, 0, [], 0),
  (34, .getfield 15, 10, 4, 0, [], 285),
  (37, .iload_n 2, 0, 0, 0, [], 0),
  (38, .iaload, 0, 0, 0, [], 0),
  (39, .iastore, 0, 0, 0, [], 0),
  (40, .iinc 2 1, 0, 0, nI 1, [], 0),
  (43, .goto (-25), 12, 0, 0, [], 0),
  (46, .aload_n 0, 0, 0, 0, [], 0),
  (47, .dup, 0, 0, 0, [], 0),
  (48, .getfield 28, 10, 1, 0, [], 275),
  (51, .iconst 1, 0, 0, nI 1, [], 0),
  (52, .isub, 0, 0, 0, [], 0),
  (53, .putfield 28, 10, 1, 0, [], 275),
  (56, .iload_n 1, 0, 0, 0, [], 0),
  (57, .ireturn, 0, 0, 0, [], 0)]
/-- BikeTown.hasBegun()Z -/
def cd38 : List Ent := [(0, .aload_n 0, 0, 0, 0, [], 0),
  (1, .getfield 35, 11, 3, 0, [], 520),
  (4, .getfield 121, 0, 4, 0, [], 362),
  (7, .ifCond .gt 13, 8, 0, 0, [], 0),
  (10, .aload_n 0, 0, 0, 0, [], 0),
  (11, .getfield 26, 11, 2, 0, [], 519),
  (14, .getfield 140, 3, 0, 0, [], 239),
  (17, .ifCond .le 7, 10, 0, 0, [], 0),
  (20, .iconst 1, 0, 0, nI 1, [], 0),
  (21, .goto 4, 11, 0, 0, [], 0),
  (24, .iconst 0, 0, 0, nI 0, [], 0),
  (25, .ireturn, 0, 0, 0, [], 0)]
/-- BikeTown.isIn(III)Z -/
def cd39 : List Ent := [(0, .iload_n 0, 0, 0, 0, [], 0),
  (1, .iload_n 1, 0, 0, 0, [], 0),
  (2, .if_icmp .lt 12, 8, 0, 0, [], 0),
  (5, .iload_n 0, 0, 0, 0, [], 0),
  (6, .iload_n 2, 0, 0, 0, [], 0),
  (7, .if_icmp .gt 7, 8, 0, 0, [], 0),
  (10, .iconst 1, 0, 0, nI 1, [], 0),
  (11, .goto 4, 9, 0, 0, [], 0),
  (14, .iconst 0, 0, 0, nI 0, [], 0),
  (15, .ireturn, 0, 0, 0, [], 0)]
/-- BikeTown.bit(Z)I -/
def cd40 : List Ent := [(0, .iload_n 0, 0, 0, 0, [], 0),
  (1, .ifCond .eq 7, 4, 0, 0, [], 0),
  (4, .iconst 1, 0, 0, nI 1, [], 0),
  (5, .goto 4, 5, 0, 0, [], 0),
  (8, .iconst 0, 0, 0, nI 0, [], 0),
  (9, .ireturn, 0, 0, 0, [], 0)]
/-- BikeTown.hush()I -/
def cd41 : List Ent := [(0, .aload_n 0, 0, 0, 0, [], 0),
  (1, .getfield 19, 11, 1, 0, [], 518),
  (4, .getfield 176, 6, 1, 0, [], 193),
  (7, .istore_n 1, 0, 0, 0, [], 0),
  (8, .aload_n 0, 0, 0, 0, [], 0),
  (9, .getfield 19, 11, 1, 0, [], 518),
  (12, .iconst 0, 0, 0, nI 0, [], 0),
  (13, .putfield 176, 6, 1, 0, [], 193),
  (16, .iload_n 1, 0, 0, 0, [], 0),
  (17, .ireturn, 0, 0, 0, [], 0)]
/-- BikeTown.van(I)I -/
def cd42 : List Ent := [(0, .iload_n 1, 0, 0, 0, [], 0),
  (1, .tableswitch 75 0 3 #[31, 42, 53, 64], 22, 0, 0, [(nI 0, 2), (nI 1, 7), (nI 2, 12), (nI 3, 17)], 0),
  (32, .aload_n 0, 0, 0, 0, [], 0),
  (33, .getfield 35, 11, 3, 0, [], 520),
  (36, .getfield 156, 0, 3, 0, [], 360),
  (39, .getfield 225, 10, 0, 0, [], 273),
  (42, .ireturn, 0, 0, 0, [], 0),
  (43, .aload_n 0, 0, 0, 0, [], 0),
  (44, .getfield 35, 11, 3, 0, [], 520),
  (47, .getfield 156, 0, 3, 0, [], 360),
  (50, .getfield 228, 10, 1, 0, [], 277),
  (53, .ireturn, 0, 0, 0, [], 0),
  (54, .aload_n 0, 0, 0, 0, [], 0),
  (55, .getfield 35, 11, 3, 0, [], 520),
  (58, .getfield 156, 0, 3, 0, [], 360),
  (61, .getfield 231, 10, 3, 0, [], 283),
  (64, .ireturn, 0, 0, 0, [], 0),
  (65, .aload_n 0, 0, 0, 0, [], 0),
  (66, .getfield 35, 11, 3, 0, [], 520),
  (69, .getfield 156, 0, 3, 0, [], 360),
  (72, .getfield 160, 10, 2, 0, [], 280),
  (75, .ireturn, 0, 0, 0, [], 0),
  (76, .bipush (-2), 0, 0, (-2), [], 0),
  (78, .ireturn, 0, 0, 0, [], 0)]
/-- BikeTown.count(I)I -/
def cd43 : List Ent := [(0, .iload_n 1, 0, 0, 0, [], 0),
  (1, .tableswitch 141 0 9 #[55, 63, 71, 79, 87, 95, 106, 114, 125, 133], 44, 0, 0, [(nI 0, 2), (nI 1, 6), (nI 2, 10), (nI 3, 14), (nI 4, 18), (nI 5, 22), (nI 6, 27), (nI 7, 31), (nI 8, 36), (nI 9, 40)], 0),
  (56, .aload_n 0, 0, 0, 0, [], 0),
  (57, .getfield 13, 11, 0, 0, [], 517),
  (60, .getfield 85, 8, 0, 0, [], 114),
  (63, .ireturn, 0, 0, 0, [], 0),
  (64, .aload_n 0, 0, 0, 0, [], 0),
  (65, .getfield 13, 11, 0, 0, [], 517),
  (68, .getfield 105, 8, 1, 0, [], 118),
  (71, .ireturn, 0, 0, 0, [], 0),
  (72, .aload_n 0, 0, 0, 0, [], 0),
  (73, .getfield 13, 11, 0, 0, [], 517),
  (76, .getfield 124, 8, 2, 0, [], 120),
  (79, .ireturn, 0, 0, 0, [], 0),
  (80, .aload_n 0, 0, 0, 0, [], 0),
  (81, .getfield 19, 11, 1, 0, [], 518),
  (84, .getfield 186, 6, 2, 0, [], 195),
  (87, .ireturn, 0, 0, 0, [], 0),
  (88, .aload_n 0, 0, 0, 0, [], 0),
  (89, .getfield 35, 11, 3, 0, [], 520),
  (92, .getfield 121, 0, 4, 0, [], 362),
  (95, .ireturn, 0, 0, 0, [], 0),
  (96, .aload_n 0, 0, 0, 0, [], 0),
  (97, .getfield 35, 11, 3, 0, [], 520),
  (100, .getfield 204, 0, 2, 0, [], 358),
  (103, .getfield 237, 2, 1, 0, [], 318),
  (106, .ireturn, 0, 0, 0, [], 0),
  (107, .aload_n 0, 0, 0, 0, [], 0),
  (108, .getfield 45, 11, 5, 0, [], 522),
  (111, .getfield 203, 1, 0, 0, [], 419),
  (114, .ireturn, 0, 0, 0, [], 0),
  (115, .aload_n 0, 0, 0, 0, [], 0),
  (116, .getfield 35, 11, 3, 0, [], 520),
  (119, .getfield 204, 0, 2, 0, [], 358),
  (122, .getfield 280, 2, 2, 0, [], 320),
  (125, .ireturn, 0, 0, 0, [], 0),
  (126, .aload_n 0, 0, 0, 0, [], 0),
  (127, .getfield 26, 11, 2, 0, [], 519),
  (130, .getfield 140, 3, 0, 0, [], 239),
  (133, .ireturn, 0, 0, 0, [], 0),
  (134, .aload_n 0, 0, 0, 0, [], 0),
  (135, .getfield 19, 11, 1, 0, [], 518),
  (138, .getfield 176, 6, 1, 0, [], 193),
  (141, .ireturn, 0, 0, 0, [], 0),
  (142, .bipush (-2), 0, 0, (-2), [], 0),
  (144, .ireturn, 0, 0, 0, [], 0)]
/-- BikeTown.digestAt(J[[II)J -/
def cd44 : List Ent := [(0, .lload_n 0, 0, 0, 0, [], 0),
  (1, .lstore 4, 0, 0, 0, [], 0),
  (3, .iconst 0, 0, 0, nI 0, [], 0),
  (4, .istore 6, 0, 0, 0, [], 0),
  (6, .iload 6, 0, 0, 0, [], 0),
  (8, .aload_n 2, 0, 0, 0, [], 0),
  (9, .arraylength, 0, 0, 0, [], 0),
  (10, .if_icmp .ge 25, 21, 0, 0, [], 0),
  (13, .ldc2_w 355, 0, 0, nI 31, [], 1160),
  (16, .lload 4, 0, 0, 0, [], 0),
  (18, .lmul, 0, 0, 0, [], 0),
  (19, .aload_n 2, 0, 0, 0, [], 0),
  (20, .iload 6, 0, 0, 0, [], 0),
  (22, .aaload, 0, 0, 0, [], 0),
  (23, .iload_n 3, 0, 0, 0, [], 0),
  (24, .iaload, 0, 0, 0, [], 0),
  (25, .i2l, 0, 0, 0, [], 0),
  (26, .ladd, 0, 0, 0, [], 0),
  (27, .lstore 4, 0, 0, 0, [], 0),
  (29, .iinc 6 1, 0, 0, nI 1, [], 0),
  (32, .goto (-26), 4, 0, 0, [], 0),
  (35, .lload 4, 0, 0, 0, [], 0),
  (37, .lreturn, 0, 0, 0, [], 0)]
/-- BikeTownModel.in(III)Z -/
def cd45 : List Ent := [(0, .iload_n 0, 0, 0, 0, [], 0),
  (1, .iload_n 1, 0, 0, 0, [], 0),
  (2, .if_icmp .lt 12, 8, 0, 0, [], 0),
  (5, .iload_n 0, 0, 0, 0, [], 0),
  (6, .iload_n 2, 0, 0, 0, [], 0),
  (7, .if_icmp .gt 7, 8, 0, 0, [], 0),
  (10, .iconst 1, 0, 0, nI 1, [], 0),
  (11, .goto 4, 9, 0, 0, [], 0),
  (14, .iconst 0, 0, 0, nI 0, [], 0),
  (15, .ireturn, 0, 0, 0, [], 0)]
/-- BikeTownModel.tells(I)V -/
def cd46 : List Ent := [(0, .aload_n 0, 0, 0, 0, [], 0),
  (1, .getfield 7, 12, 1, 0, [], 1181),
  (4, .sipush 1532, 0, 0, nI 1532, [], 0),
  (7, .iload_n 1, 0, 0, 0, [], 0),
  (8, .iadd, 0, 0, 0, [], 0),
  (9, .iconst 0, 0, 0, nI 0, [], 0),
  (10, .iastore, 0, 0, 0, [], 0),
  (11, .aload_n 0, 0, 0, 0, [], 0),
  (12, .getfield 7, 12, 1, 0, [], 1181),
  (15, .sipush 1732, 0, 0, nI 1732, [], 0),
  (18, .iload_n 1, 0, 0, 0, [], 0),
  (19, .iadd, 0, 0, 0, [], 0),
  (20, .iconst (-1), 0, 0, (-1), [], 0),
  (21, .iastore, 0, 0, 0, [], 0),
  (22, .aload_n 0, 0, 0, 0, [], 0),
  (23, .getfield 7, 12, 1, 0, [], 1181),
  (26, .sipush 1932, 0, 0, nI 1932, [], 0),
  (29, .iload_n 1, 0, 0, 0, [], 0),
  (30, .iadd, 0, 0, 0, [], 0),
  (31, .iconst (-1), 0, 0, (-1), [], 0),
  (32, .iastore, 0, 0, 0, [], 0),
  (33, .aload_n 0, 0, 0, 0, [], 0),
  (34, .getfield 7, 12, 1, 0, [], 1181),
  (37, .sipush 2132, 0, 0, nI 2132, [], 0),
  (40, .iload_n 1, 0, 0, 0, [], 0),
  (41, .iadd, 0, 0, 0, [], 0),
  (42, .iconst (-1), 0, 0, (-1), [], 0),
  (43, .iastore, 0, 0, 0, [], 0),
  (44, .aload_n 0, 0, 0, 0, [], 0),
  (45, .getfield 7, 12, 1, 0, [], 1181),
  (48, .sipush 2332, 0, 0, nI 2332, [], 0),
  (51, .iload_n 1, 0, 0, 0, [], 0),
  (52, .iadd, 0, 0, 0, [], 0),
  (53, .iconst (-1), 0, 0, (-1), [], 0),
  (54, .iastore, 0, 0, 0, [], 0),
  (55, .aload_n 0, 0, 0, 0, [], 0),
  (56, .getfield 7, 12, 1, 0, [], 1181),
  (59, .sipush 2532, 0, 0, nI 2532, [], 0),
  (62, .iload_n 1, 0, 0, 0, [], 0),
  (63, .iadd, 0, 0, 0, [], 0),
  (64, .iconst 0, 0, 0, nI 0, [], 0),
  (65, .iastore, 0, 0, 0, [], 0),
  (66, .return_, 0, 0, 0, [], 0)]
/-- BikeTownModel.logs(IIII)V -/
def cd47 : List Ent := [(0, .aload_n 0, 0, 0, 0, [], 0),
  (1, .getfield 7, 12, 1, 0, [], 1181),
  (4, .bipush 7, 0, 0, nI 7, [], 0),
  (6, .iaload, 0, 0, 0, [], 0),
  (7, .sipush 4000, 0, 0, nI 4000, [], 0),
  (10, .if_icmp .ge 83, 59, 0, 0, [], 0),
  (13, .sipush 3184, 0, 0, nI 3184, [], 0),
  (16, .iconst 5, 0, 0, nI 5, [], 0),
  (17, .aload_n 0, 0, 0, 0, [], 0),
  (18, .getfield 7, 12, 1, 0, [], 1181),
  (21, .bipush 7, 0, 0, nI 7, [], 0),
  (23, .iaload, 0, 0, 0, [], 0),
  (24, .imul, 0, 0, 0, [], 0),
  (25, .iadd, 0, 0, 0, [], 0),
  (26, .istore 5, 0, 0, 0, [], 0),
  (28, .aload_n 0, 0, 0, 0, [], 0),
  (29, .getfield 7, 12, 1, 0, [], 1181),
  (32, .iload 5, 0, 0, 0, [], 0),
  (34, .iload_n 1, 0, 0, 0, [], 0),
  (35, .iastore, 0, 0, 0, [], 0),
  (36, .aload_n 0, 0, 0, 0, [], 0),
  (37, .getfield 7, 12, 1, 0, [], 1181),
  (40, .iload 5, 0, 0, 0, [], 0),
  (42, .iconst 1, 0, 0, nI 1, [], 0),
  (43, .iadd, 0, 0, 0, [], 0),
  (44, .aload_n 0, 0, 0, 0, [], 0),
  (45, .getfield 7, 12, 1, 0, [], 1181),
  (48, .iconst 0, 0, 0, nI 0, [], 0),
  (49, .iaload, 0, 0, 0, [], 0),
  (50, .iastore, 0, 0, 0, [], 0),
  (51, .aload_n 0, 0, 0, 0, [], 0),
  (52, .getfield 7, 12, 1, 0, [], 1181),
  (55, .iload 5, 0, 0, 0, [], 0),
  (57, .iconst 2, 0, 0, nI 2, [], 0),
  (58, .iadd, 0, 0, 0, [], 0),
  (59, .iload_n 2, 0, 0, 0, [], 0),
  (60, .iastore, 0, 0, 0, [], 0),
  (61, .aload_n 0, 0, 0, 0, [], 0),
  (62, .getfield 7, 12, 1, 0, [], 1181),
  (65, .iload 5, 0, 0, 0, [], 0),
  (67, .iconst 3, 0, 0, nI 3, [], 0),
  (68, .iadd, 0, 0, 0, [], 0),
  (69, .iload_n 3, 0, 0, 0, [], 0),
  (70, .iastore, 0, 0, 0, [], 0),
  (71, .aload_n 0, 0, 0, 0, [], 0),
  (72, .getfield 7, 12, 1, 0, [], 1181),
  (75, .iload 5, 0, 0, 0, [], 0),
  (77, .iconst 4, 0, 0, nI 4, [], 0),
  (78, .iadd, 0, 0, 0, [], 0),
  (79, .iload 4, 0, 0, 0, [], 0),
  (81, .iastore, 0, 0, 0, [], 0),
  (82, .aload_n 0, 0, 0, 0, [], 0),
  (83, .getfield 7, 12, 1, 0, [], 1181),
  (86, .bipush 7, 0, 0, nI 7, [], 0),
  (88, .dup2, 0, 0, 0, [], 0),
  (89, .iaload, 0, 0, 0, [], 0),
  (90, .iconst 1, 0, 0, nI 1, [], 0),
  (91, .iadd, 0, 0, 0, [], 0),
  (92, .iastore, 0, 0, 0, [], 0),
  (93, .return_, 0, 0, 0, [], 0)]
/-- BikeTownModel.isBegun()Z -/
def cd48 : List Ent := [(0, .aload_n 0, 0, 0, 0, [], 0),
  (1, .getfield 7, 12, 1, 0, [], 1181),
  (4, .iconst 0, 0, 0, nI 0, [], 0),
  (5, .iaload, 0, 0, 0, [], 0),
  (6, .ifCond .gt 10, 8, 0, 0, [], 0),
  (9, .aload_n 0, 0, 0, 0, [], 0),
  (10, .getfield 146, 12, 18, 0, [], 1198),
  (13, .ifCond .le 7, 10, 0, 0, [], 0),
  (16, .iconst 1, 0, 0, nI 1, [], 0),
  (17, .goto 4, 11, 0, 0, [], 0),
  (20, .iconst 0, 0, 0, nI 0, [], 0),
  (21, .ireturn, 0, 0, 0, [], 0)]
/-- BikeTownModel.there(I)I -/
def cd49 : List Ent := [(0, .iconst 0, 0, 0, nI 0, [], 0),
  (1, .istore_n 2, 0, 0, 0, [], 0),
  (2, .iconst 0, 0, 0, nI 0, [], 0),
  (3, .istore_n 3, 0, 0, 0, [], 0),
  (4, .iload_n 3, 0, 0, 0, [], 0),
  (5, .aload_n 0, 0, 0, 0, [], 0),
  (6, .getfield 129, 12, 7, 0, [], 1187),
  (9, .if_icmp .ge 44, 31, 0, 0, [], 0),
  (12, .iload_n 2, 0, 0, 0, [], 0),
  (13, .aload_n 0, 0, 0, 0, [], 0),
  (14, .getfield 7, 12, 1, 0, [], 1181),
  (17, .sipush 1232, 0, 0, nI 1232, [], 0),
  (20, .iload_n 3, 0, 0, 0, [], 0),
  (21, .iadd, 0, 0, 0, [], 0),
  (22, .iaload, 0, 0, 0, [], 0),
  (23, .ifCond .ne 21, 26, 0, 0, [], 0),
  (26, .aload_n 0, 0, 0, 0, [], 0),
  (27, .getfield 7, 12, 1, 0, [], 1181),
  (30, .sipush 1292, 0, 0, nI 1292, [], 0),
  (33, .iload_n 3, 0, 0, 0, [], 0),
  (34, .iadd, 0, 0, 0, [], 0),
  (35, .iaload, 0, 0, 0, [], 0),
  (36, .iload_n 1, 0, 0, 0, [], 0),
  (37, .if_icmp .ne 7, 26, 0, 0, [], 0),
  (40, .iconst 1, 0, 0, nI 1, [], 0),
  (41, .goto 4, 27, 0, 0, [], 0),
  (44, .iconst 0, 0, 0, nI 0, [], 0),
  (45, .iadd, 0, 0, 0, [], 0),
  (46, .istore_n 2, 0, 0, 0, [], 0),
  (47, .iinc 3 1, 0, 0, nI 1, [], 0),
  (50, .goto (-46), 4, 0, 0, [], 0),
  (53, .iload_n 2, 0, 0, 0, [], 0),
  (54, .ireturn, 0, 0, 0, [], 0)]
/-- BikeTownModel.good(I)I -/
def cd50 : List Ent := [(0, .iconst 0, 0, 0, nI 0, [], 0),
  (1, .istore_n 2, 0, 0, 0, [], 0),
  (2, .iconst 0, 0, 0, nI 0, [], 0),
  (3, .istore_n 3, 0, 0, 0, [], 0),
  (4, .iload_n 3, 0, 0, 0, [], 0),
  (5, .aload_n 0, 0, 0, 0, [], 0),
  (6, .getfield 129, 12, 7, 0, [], 1187),
  (9, .if_icmp .ge 57, 38, 0, 0, [], 0),
  (12, .iload_n 2, 0, 0, 0, [], 0),
  (13, .aload_n 0, 0, 0, 0, [], 0),
  (14, .getfield 7, 12, 1, 0, [], 1181),
  (17, .sipush 1232, 0, 0, nI 1232, [], 0),
  (20, .iload_n 3, 0, 0, 0, [], 0),
  (21, .iadd, 0, 0, 0, [], 0),
  (22, .iaload, 0, 0, 0, [], 0),
  (23, .ifCond .ne 34, 33, 0, 0, [], 0),
  (26, .aload_n 0, 0, 0, 0, [], 0),
  (27, .getfield 7, 12, 1, 0, [], 1181),
  (30, .sipush 1292, 0, 0, nI 1292, [], 0),
  (33, .iload_n 3, 0, 0, 0, [], 0),
  (34, .iadd, 0, 0, 0, [], 0),
  (35, .iaload, 0, 0, 0, [], 0),
  (36, .iload_n 1, 0, 0, 0, [], 0),
  (37, .if_icmp .ne 20, 33, 0, 0, [], 0),
  (40, .aload_n 0, 0, 0, 0, [], 0),
  (41, .getfield 7, 12, 1, 0, [], 1181),
  (44, .sipush 1412, 0, 0, nI 1412, [], 0),
  (47, .iload_n 3, 0, 0, 0, [], 0),
  (48, .iadd, 0, 0, 0, [], 0),
  (49, .iaload, 0, 0, 0, [], 0),
  (50, .ifCond .ne 7, 33, 0, 0, [], 0),
  (53, .iconst 1, 0, 0, nI 1, [], 0),
  (54, .goto 4, 34, 0, 0, [], 0),
  (57, .iconst 0, 0, 0, nI 0, [], 0),
  (58, .iadd, 0, 0, 0, [], 0),
  (59, .istore_n 2, 0, 0, 0, [], 0),
  (60, .iinc 3 1, 0, 0, nI 1, [], 0),
  (63, .goto (-59), 4, 0, 0, [], 0),
  (66, .iload_n 2, 0, 0, 0, [], 0),
  (67, .ireturn, 0, 0, 0, [], 0)]
/-- BikeTownModel.hush()I -/
def cd51 : List Ent := [(0, .aload_n 0, 0, 0, 0, [], 0),
  (1, .iconst 0, 0, 0, nI 0, [], 0),
  (2, .putfield 126, 12, 0, 0, [], 1180),
  (5, .aload_n 0, 0, 0, 0, [], 0),
  (6, .getfield 185, 12, 20, 0, [], 1200),
  (9, .istore_n 1, 0, 0, 0, [], 0),
  (10, .aload_n 0, 0, 0, 0, [], 0),
  (11, .iconst 0, 0, 0, nI 0, [], 0),
  (12, .putfield 185, 12, 20, 0, [], 1200),
  (15, .iload_n 1, 0, 0, 0, [], 0),
  (16, .ireturn, 0, 0, 0, [], 0)]
/-- BikeTownModel.behind(II)I -/
def cd52 : List Ent := [(0, .iload_n 0, 0, 0, 0, [], 0),
  (1, .bipush 17, 0, 0, nI 17, [], 0),
  (3, .if_icmp .eq 9, 6, 0, 0, [], 0),
  (6, .iload_n 0, 0, 0, 0, [], 0),
  (7, .bipush 18, 0, 0, nI 18, [], 0),
  (9, .if_icmp .ne 7, 8, 0, 0, [], 0),
  (12, .iconst 0, 0, 0, nI 0, [], 0),
  (13, .goto 34, 23, 0, 0, [], 0),
  (16, .iload_n 0, 0, 0, 0, [], 0),
  (17, .bipush 16, 0, 0, nI 16, [], 0),
  (19, .if_icmp .ne 12, 15, 0, 0, [], 0),
  (22, .iload_n 1, 0, 0, 0, [], 0),
  (23, .ifCond .le 8, 15, 0, 0, [], 0),
  (26, .bipush 7, 0, 0, nI 7, [], 0),
  (28, .goto 19, 23, 0, 0, [], 0),
  (31, .iload_n 0, 0, 0, 0, [], 0),
  (32, .bipush 20, 0, 0, nI 20, [], 0),
  (34, .if_icmp .ne 12, 22, 0, 0, [], 0),
  (37, .iload_n 1, 0, 0, 0, [], 0),
  (38, .ifCond .ne 8, 22, 0, 0, [], 0),
  (41, .bipush 8, 0, 0, nI 8, [], 0),
  (43, .goto 4, 23, 0, 0, [], 0),
  (46, .iconst (-1), 0, 0, (-1), [], 0),
  (47, .ireturn, 0, 0, 0, [], 0)]
/-- BikeTownModel.symbol(I)I -/
def cd53 : List Ent := [(0, .aload_n 0, 0, 0, 0, [], 0),
  (1, .getfield 199, 12, 41, 0, [], 1221),
  (4, .aload_n 0, 0, 0, 0, [], 0),
  (5, .getfield 59, 12, 23, 0, [], 1203),
  (8, .iload_n 1, 0, 0, 0, [], 0),
  (9, .iaload, 0, 0, 0, [], 0),
  (10, .if_icmp .ge 20, 17, 0, 0, [], 0),
  (13, .aload_n 0, 0, 0, 0, [], 0),
  (14, .getfield 62, 12, 24, 0, [], 1204),
  (17, .bipush 40, 0, 0, nI 40, [], 0),
  (19, .iload_n 1, 0, 0, 0, [], 0),
  (20, .imul, 0, 0, 0, [], 0),
  (21, .aload_n 0, 0, 0, 0, [], 0),
  (22, .getfield 199, 12, 41, 0, [], 1221),
  (25, .iadd, 0, 0, 0, [], 0),
  (26, .iaload, 0, 0, 0, [], 0),
  (27, .goto 5, 18, 0, 0, [], 0),
  (30, .bipush 99, 0, 0, nI 99, [], 0),
  (32, .ireturn, 0, 0, 0, [], 0)]
/-- BikeTownModel.joins(III)I -/
def cd54 : List Ent := [(0, .iload_n 0, 0, 0, 0, [], 0),
  (1, .bipush 17, 0, 0, nI 17, [], 0),
  (3, .if_icmp .ne 9, 7, 0, 0, [], 0),
  (6, .iload_n 1, 0, 0, 0, [], 0),
  (7, .iload_n 2, 0, 0, 0, [], 0),
  (8, .iand, 0, 0, 0, [], 0),
  (9, .goto 6, 10, 0, 0, [], 0),
  (12, .iload_n 1, 0, 0, 0, [], 0),
  (13, .iload_n 2, 0, 0, 0, [], 0),
  (14, .ior, 0, 0, 0, [], 0),
  (15, .ireturn, 0, 0, 0, [], 0)]
/-- BikeTownModel.turned(II)I -/
def cd55 : List Ent := [(0, .iload_n 2, 0, 0, 0, [], 0),
  (1, .istore_n 3, 0, 0, 0, [], 0),
  (2, .iload_n 3, 0, 0, 0, [], 0),
  (3, .ifCond .le 40, 28, 0, 0, [], 0),
  (6, .aload_n 0, 0, 0, 0, [], 0),
  (7, .getfield 105, 12, 43, 0, [], 1223),
  (10, .iload_n 3, 0, 0, 0, [], 0),
  (11, .iconst 1, 0, 0, nI 1, [], 0),
  (12, .isub, 0, 0, 0, [], 0),
  (13, .iaload, 0, 0, 0, [], 0),
  (14, .bipush 19, 0, 0, nI 19, [], 0),
  (16, .if_icmp .ne 27, 28, 0, 0, [], 0),
  (19, .aload_n 0, 0, 0, 0, [], 0),
  (20, .getfield 102, 12, 42, 0, [], 1222),
  (23, .iload_n 1, 0, 0, 0, [], 0),
  (24, .iconst 1, 0, 0, nI 1, [], 0),
  (25, .isub, 0, 0, 0, [], 0),
  (26, .iconst 1, 0, 0, nI 1, [], 0),
  (27, .aload_n 0, 0, 0, 0, [], 0),
  (28, .getfield 102, 12, 42, 0, [], 1222),
  (31, .iload_n 1, 0, 0, 0, [], 0),
  (32, .iconst 1, 0, 0, nI 1, [], 0),
  (33, .isub, 0, 0, 0, [], 0),
  (34, .iaload, 0, 0, 0, [], 0),
  (35, .isub, 0, 0, 0, [], 0),
  (36, .iastore, 0, 0, 0, [], 0),
  (37, .iinc 3 (-1), 0, 0, (-1), [], 0),
  (40, .goto (-38), 2, 0, 0, [], 0),
  (43, .iload_n 3, 0, 0, 0, [], 0),
  (44, .ireturn, 0, 0, 0, [], 0)]
/-- BikeTownModel.size(I)I -/
def cd56 : List Ent := [(0, .iload_n 0, 0, 0, 0, [], 0),
  (1, .ifCond .ge 8, 5, 0, 0, [], 0),
  (4, .iload_n 0, 0, 0, 0, [], 0),
  (5, .ineg, 0, 0, 0, [], 0),
  (6, .goto 4, 6, 0, 0, [], 0),
  (9, .iload_n 0, 0, 0, 0, [], 0),
  (10, .ireturn, 0, 0, 0, [], 0)]
/-- BikeTownModel.pick(I)I -/
def cd57 : List Ent := [(0, .iconst (-1), 0, 0, (-1), [], 0),
  (1, .istore_n 2, 0, 0, 0, [], 0),
  (2, .iconst 0, 0, 0, nI 0, [], 0),
  (3, .istore_n 3, 0, 0, 0, [], 0),
  (4, .iload_n 3, 0, 0, 0, [], 0),
  (5, .aload_n 0, 0, 0, 0, [], 0),
  (6, .getfield 129, 12, 7, 0, [], 1187),
  (9, .if_icmp .ge 95, 58, 0, 0, [], 0),
  (12, .aload_n 0, 0, 0, 0, [], 0),
  (13, .getfield 7, 12, 1, 0, [], 1181),
  (16, .sipush 1232, 0, 0, nI 1232, [], 0),
  (19, .iload_n 3, 0, 0, 0, [], 0),
  (20, .iadd, 0, 0, 0, [], 0),
  (21, .iaload, 0, 0, 0, [], 0),
  (22, .ifCond .ne 34, 32, 0, 0, [], 0),
  (25, .aload_n 0, 0, 0, 0, [], 0),
  (26, .getfield 7, 12, 1, 0, [], 1181),
  (29, .sipush 1292, 0, 0, nI 1292, [], 0),
  (32, .iload_n 3, 0, 0, 0, [], 0),
  (33, .iadd, 0, 0, 0, [], 0),
  (34, .iaload, 0, 0, 0, [], 0),
  (35, .iload_n 1, 0, 0, 0, [], 0),
  (36, .if_icmp .ne 20, 32, 0, 0, [], 0),
  (39, .aload_n 0, 0, 0, 0, [], 0),
  (40, .getfield 7, 12, 1, 0, [], 1181),
  (43, .sipush 1412, 0, 0, nI 1412, [], 0),
  (46, .iload_n 3, 0, 0, 0, [], 0),
  (47, .iadd, 0, 0, 0, [], 0),
  (48, .iaload, 0, 0, 0, [], 0),
  (49, .ifCond .ne 7, 32, 0, 0, [], 0),
  (52, .iconst 1, 0, 0, nI 1, [], 0),
  (53, .goto 4, 33, 0, 0, [], 0),
  (56, .iconst 0, 0, 0, nI 0, [], 0),
  (57, .istore 4, 0, 0, 0, [], 0),
  (59, .iload 4, 0, 0, 0, [], 0),
  (61, .ifCond .eq 35, 54, 0, 0, [], 0),
  (64, .iload_n 2, 0, 0, 0, [], 0),
  (65, .iconst (-1), 0, 0, (-1), [], 0),
  (66, .if_icmp .eq 26, 52, 0, 0, [], 0),
  (69, .aload_n 0, 0, 0, 0, [], 0),
  (70, .getfield 7, 12, 1, 0, [], 1181),
  (73, .sipush 1352, 0, 0, nI 1352, [], 0),
  (76, .iload_n 3, 0, 0, 0, [], 0),
  (77, .iadd, 0, 0, 0, [], 0),
  (78, .iaload, 0, 0, 0, [], 0),
  (79, .aload_n 0, 0, 0, 0, [], 0),
  (80, .getfield 7, 12, 1, 0, [], 1181),
  (83, .sipush 1352, 0, 0, nI 1352, [], 0),
  (86, .iload_n 2, 0, 0, 0, [], 0),
  (87, .iadd, 0, 0, 0, [], 0),
  (88, .iaload, 0, 0, 0, [], 0),
  (89, .if_icmp .ge 7, 54, 0, 0, [], 0),
  (92, .iload_n 3, 0, 0, 0, [], 0),
  (93, .goto 4, 55, 0, 0, [], 0),
  (96, .iload_n 2, 0, 0, 0, [], 0),
  (97, .istore_n 2, 0, 0, 0, [], 0),
  (98, .iinc 3 1, 0, 0, nI 1, [], 0),
  (101, .goto (-97), 4, 0, 0, [], 0),
  (104, .iload_n 2, 0, 0, 0, [], 0),
  (105, .ireturn, 0, 0, 0, [], 0)]
/-- BikeTownModel.van(I)I -/
def cd58 : List Ent := [(0, .aload_n 0, 0, 0, 0, [], 0),
  (1, .iconst 0, 0, 0, nI 0, [], 0),
  (2, .putfield 126, 12, 0, 0, [], 1180),
  (5, .iload_n 1, 0, 0, 0, [], 0),
  (6, .tableswitch 59 0 3 #[30, 37, 44, 51], 25, 0, 0, [(nI 0, 5), (nI 1, 10), (nI 2, 15), (nI 3, 20)], 0),
  (36, .aload_n 0, 0, 0, 0, [], 0),
  (37, .getfield 7, 12, 1, 0, [], 1181),
  (40, .iconst 2, 0, 0, nI 2, [], 0),
  (41, .iaload, 0, 0, 0, [], 0),
  (42, .ireturn, 0, 0, 0, [], 0),
  (43, .aload_n 0, 0, 0, 0, [], 0),
  (44, .getfield 7, 12, 1, 0, [], 1181),
  (47, .iconst 3, 0, 0, nI 3, [], 0),
  (48, .iaload, 0, 0, 0, [], 0),
  (49, .ireturn, 0, 0, 0, [], 0),
  (50, .aload_n 0, 0, 0, 0, [], 0),
  (51, .getfield 7, 12, 1, 0, [], 1181),
  (54, .iconst 5, 0, 0, nI 5, [], 0),
  (55, .iaload, 0, 0, 0, [], 0),
  (56, .ireturn, 0, 0, 0, [], 0),
  (57, .aload_n 0, 0, 0, 0, [], 0),
  (58, .getfield 7, 12, 1, 0, [], 1181),
  (61, .bipush 6, 0, 0, nI 6, [], 0),
  (63, .iaload, 0, 0, 0, [], 0),
  (64, .ireturn, 0, 0, 0, [], 0),
  (65, .bipush (-2), 0, 0, (-2), [], 0),
  (67, .ireturn, 0, 0, 0, [], 0)]
/-- BikeTownModel.answer(III)I -/
def cd59 : List Ent := [(0, .iload_n 1, 0, 0, 0, [], 0),
  (1, .ifCond .ne 7, 4, 0, 0, [], 0),
  (4, .iload_n 2, 0, 0, 0, [], 0),
  (5, .goto 4, 5, 0, 0, [], 0),
  (8, .iload_n 3, 0, 0, 0, [], 0),
  (9, .istore 4, 0, 0, 0, [], 0),
  (11, .iload 4, 0, 0, 0, [], 0),
  (13, .istore 5, 0, 0, 0, [], 0),
  (15, .aload_n 0, 0, 0, 0, [], 0),
  (16, .getfield 78, 12, 30, 0, [], 1210),
  (19, .bipush 25, 0, 0, nI 25, [], 0),
  (21, .iload_n 1, 0, 0, 0, [], 0),
  (22, .imul, 0, 0, 0, [], 0),
  (23, .iconst 5, 0, 0, nI 5, [], 0),
  (24, .iload_n 2, 0, 0, 0, [], 0),
  (25, .imul, 0, 0, 0, [], 0),
  (26, .iadd, 0, 0, 0, [], 0),
  (27, .iload_n 3, 0, 0, 0, [], 0),
  (28, .iadd, 0, 0, 0, [], 0),
  (29, .iaload, 0, 0, 0, [], 0),
  (30, .istore 6, 0, 0, 0, [], 0),
  (32, .iconst 0, 0, 0, nI 0, [], 0),
  (33, .istore 7, 0, 0, 0, [], 0),
  (35, .iload 7, 0, 0, 0, [], 0),
  (37, .iconst 5, 0, 0, nI 5, [], 0),
  (38, .if_icmp .ge 58, 57, 0, 0, [], 0),
  (41, .iload_n 1, 0, 0, 0, [], 0),
  (42, .ifCond .ne 17, 37, 0, 0, [], 0),
  (45, .aload_n 0, 0, 0, 0, [], 0),
  (46, .getfield 78, 12, 30, 0, [], 1210),
  (49, .iconst 5, 0, 0, nI 5, [], 0),
  (50, .iload 7, 0, 0, 0, [], 0),
  (52, .imul, 0, 0, 0, [], 0),
  (53, .iload_n 3, 0, 0, 0, [], 0),
  (54, .iadd, 0, 0, 0, [], 0),
  (55, .iaload, 0, 0, 0, [], 0),
  (56, .goto 17, 47, 0, 0, [], 0),
  (59, .aload_n 0, 0, 0, 0, [], 0),
  (60, .getfield 78, 12, 30, 0, [], 1210),
  (63, .bipush 25, 0, 0, nI 25, [], 0),
  (65, .iconst 5, 0, 0, nI 5, [], 0),
  (66, .iload_n 2, 0, 0, 0, [], 0),
  (67, .imul, 0, 0, 0, [], 0),
  (68, .iadd, 0, 0, 0, [], 0),
  (69, .iload 7, 0, 0, 0, [], 0),
  (71, .iadd, 0, 0, 0, [], 0),
  (72, .iaload, 0, 0, 0, [], 0),
  (73, .istore 8, 0, 0, 0, [], 0),
  (75, .iload 8, 0, 0, 0, [], 0),
  (77, .iload 6, 0, 0, 0, [], 0),
  (79, .if_icmp .le 11, 55, 0, 0, [], 0),
  (82, .iload 8, 0, 0, 0, [], 0),
  (84, .istore 6, 0, 0, 0, [], 0),
  (86, .iload 7, 0, 0, 0, [], 0),
  (88, .istore 5, 0, 0, 0, [], 0),
  (90, .iinc 7 1, 0, 0, nI 1, [], 0),
  (93, .goto (-58), 23, 0, 0, [], 0),
  (96, .iload 5, 0, 0, 0, [], 0),
  (98, .ireturn, 0, 0, 0, [], 0)]
/-- BikeTownModel.rows(IZ)I -/
def cd60 : List Ent := [(0, .iconst 0, 0, 0, nI 0, [], 0),
  (1, .istore_n 3, 0, 0, 0, [], 0),
  (2, .iconst 0, 0, 0, nI 0, [], 0),
  (3, .istore 4, 0, 0, 0, [], 0),
  (5, .iload 4, 0, 0, 0, [], 0),
  (7, .aload_n 0, 0, 0, 0, [], 0),
  (8, .getfield 284, 12, 38, 0, [], 1218),
  (11, .if_icmp .ge 39, 28, 0, 0, [], 0),
  (14, .iload_n 3, 0, 0, 0, [], 0),
  (15, .aload_n 0, 0, 0, 0, [], 0),
  (16, .getfield 96, 12, 39, 0, [], 1219),
  (19, .iload 4, 0, 0, 0, [], 0),
  (21, .iaload, 0, 0, 0, [], 0),
  (22, .iload_n 1, 0, 0, 0, [], 0),
  (23, .if_icmp .lt 18, 23, 0, 0, [], 0),
  (26, .aload_n 0, 0, 0, 0, [], 0),
  (27, .getfield 99, 12, 40, 0, [], 1220),
  (30, .iload 4, 0, 0, 0, [], 0),
  (32, .baload, 0, 0, 0, [], 0),
  (33, .iload_n 2, 0, 0, 0, [], 0),
  (34, .if_icmp .ne 7, 23, 0, 0, [], 0),
  (37, .iconst 1, 0, 0, nI 1, [], 0),
  (38, .goto 4, 24, 0, 0, [], 0),
  (41, .iconst 0, 0, 0, nI 0, [], 0),
  (42, .iadd, 0, 0, 0, [], 0),
  (43, .istore_n 3, 0, 0, 0, [], 0),
  (44, .iinc 4 1, 0, 0, nI 1, [], 0),
  (47, .goto (-42), 4, 0, 0, [], 0),
  (50, .iload_n 3, 0, 0, 0, [], 0),
  (51, .ireturn, 0, 0, 0, [], 0)]
/-- BikeTownModel.count(I)I -/
def cd61 : List Ent := [(0, .aload_n 0, 0, 0, 0, [], 0),
  (1, .iconst 0, 0, 0, nI 0, [], 0),
  (2, .putfield 126, 12, 0, 0, [], 1180),
  (5, .iload_n 1, 0, 0, 0, [], 0),
  (6, .tableswitch 111 0 9 #[54, 59, 64, 69, 74, 81, 89, 94, 101, 106], 41, 0, 0, [(nI 0, 5), (nI 1, 8), (nI 2, 11), (nI 3, 14), (nI 4, 17), (nI 5, 22), (nI 6, 27), (nI 7, 30), (nI 8, 35), (nI 9, 38)], 0),
  (60, .aload_n 0, 0, 0, 0, [], 0),
  (61, .getfield 139, 12, 3, 0, [], 1183),
  (64, .ireturn, 0, 0, 0, [], 0),
  (65, .aload_n 0, 0, 0, 0, [], 0),
  (66, .getfield 129, 12, 7, 0, [], 1187),
  (69, .ireturn, 0, 0, 0, [], 0),
  (70, .aload_n 0, 0, 0, 0, [], 0),
  (71, .getfield 132, 12, 9, 0, [], 1189),
  (74, .ireturn, 0, 0, 0, [], 0),
  (75, .aload_n 0, 0, 0, 0, [], 0),
  (76, .getfield 196, 12, 22, 0, [], 1202),
  (79, .ireturn, 0, 0, 0, [], 0),
  (80, .aload_n 0, 0, 0, 0, [], 0),
  (81, .getfield 7, 12, 1, 0, [], 1181),
  (84, .iconst 0, 0, 0, nI 0, [], 0),
  (85, .iaload, 0, 0, 0, [], 0),
  (86, .ireturn, 0, 0, 0, [], 0),
  (87, .aload_n 0, 0, 0, 0, [], 0),
  (88, .getfield 7, 12, 1, 0, [], 1181),
  (91, .bipush 7, 0, 0, nI 7, [], 0),
  (93, .iaload, 0, 0, 0, [], 0),
  (94, .ireturn, 0, 0, 0, [], 0),
  (95, .aload_n 0, 0, 0, 0, [], 0),
  (96, .getfield 252, 12, 26, 0, [], 1206),
  (99, .ireturn, 0, 0, 0, [], 0),
  (100, .aload_n 0, 0, 0, 0, [], 0),
  (101, .getfield 7, 12, 1, 0, [], 1181),
  (104, .iconst 1, 0, 0, nI 1, [], 0),
  (105, .iaload, 0, 0, 0, [], 0),
  (106, .ireturn, 0, 0, 0, [], 0),
  (107, .aload_n 0, 0, 0, 0, [], 0),
  (108, .getfield 146, 12, 18, 0, [], 1198),
  (111, .ireturn, 0, 0, 0, [], 0),
  (112, .aload_n 0, 0, 0, 0, [], 0),
  (113, .getfield 185, 12, 20, 0, [], 1200),
  (116, .ireturn, 0, 0, 0, [], 0),
  (117, .bipush (-2), 0, 0, (-2), [], 0),
  (119, .ireturn, 0, 0, 0, [], 0)]
/-- java/lang/Integer.bitCount(I)I -/
def cd62 : List Ent := [(0, .iload_n 0, 0, 0, 0, [], 0),
  (1, .iload_n 0, 0, 0, 0, [], 0),
  (2, .iconst 1, 0, 0, nI 1, [], 0),
  (3, .iushr, 0, 0, 0, [], 0),
  (4, .ldc_w 265, 0, 0, nI 1431655765, [], 1122),
  (7, .iand, 0, 0, 0, [], 0),
  (8, .isub, 0, 0, 0, [], 0),
  (9, .istore_n 0, 0, 0, 0, [], 0),
  (10, .iload_n 0, 0, 0, 0, [], 0),
  (11, .ldc_w 266, 0, 0, nI 858993459, [], 1123),
  (14, .iand, 0, 0, 0, [], 0),
  (15, .iload_n 0, 0, 0, 0, [], 0),
  (16, .iconst 2, 0, 0, nI 2, [], 0),
  (17, .iushr, 0, 0, 0, [], 0),
  (18, .ldc_w 266, 0, 0, nI 858993459, [], 1123),
  (21, .iand, 0, 0, 0, [], 0),
  (22, .iadd, 0, 0, 0, [], 0),
  (23, .istore_n 0, 0, 0, 0, [], 0),
  (24, .iload_n 0, 0, 0, 0, [], 0),
  (25, .iload_n 0, 0, 0, 0, [], 0),
  (26, .iconst 4, 0, 0, nI 4, [], 0),
  (27, .iushr, 0, 0, 0, [], 0),
  (28, .iadd, 0, 0, 0, [], 0),
  (29, .ldc_w 267, 0, 0, nI 252645135, [], 1124),
  (32, .iand, 0, 0, 0, [], 0),
  (33, .istore_n 0, 0, 0, 0, [], 0),
  (34, .iload_n 0, 0, 0, 0, [], 0),
  (35, .iload_n 0, 0, 0, 0, [], 0),
  (36, .bipush 8, 0, 0, nI 8, [], 0),
  (38, .iushr, 0, 0, 0, [], 0),
  (39, .iadd, 0, 0, 0, [], 0),
  (40, .istore_n 0, 0, 0, 0, [], 0),
  (41, .iload_n 0, 0, 0, 0, [], 0),
  (42, .iload_n 0, 0, 0, 0, [], 0),
  (43, .bipush 16, 0, 0, nI 16, [], 0),
  (45, .iushr, 0, 0, 0, [], 0),
  (46, .iadd, 0, 0, 0, [], 0),
  (47, .istore_n 0, 0, 0, 0, [], 0),
  (48, .iload_n 0, 0, 0, 0, [], 0),
  (49, .bipush 63, 0, 0, nI 63, [], 0),
  (51, .iand, 0, 0, 0, [], 0),
  (52, .ireturn, 0, 0, 0, [], 0)]
/-- java/util/Arrays.fill([II)V -/
def cd63 : List Ent := [(0, .iconst 0, 0, 0, nI 0, [], 0),
  (1, .istore_n 2, 0, 0, 0, [], 0),
  (2, .aload_n 0, 0, 0, 0, [], 0),
  (3, .arraylength, 0, 0, 0, [], 0),
  (4, .istore_n 3, 0, 0, 0, [], 0),
  (5, .iload_n 2, 0, 0, 0, [], 0),
  (6, .iload_n 3, 0, 0, 0, [], 0),
  (7, .if_icmp .ge 13, 14, 0, 0, [], 0),
  (10, .aload_n 0, 0, 0, 0, [], 0),
  (11, .iload_n 2, 0, 0, 0, [], 0),
  (12, .iload_n 1, 0, 0, 0, [], 0),
  (13, .iastore, 0, 0, 0, [], 0),
  (14, .iinc 2 1, 0, 0, nI 1, [], 0),
  (17, .goto (-12), 5, 0, 0, [], 0),
  (20, .return_, 0, 0, 0, [], 0)]
/-- BikeTown$Day.startBike(I)V -/
def cd64 : List Ent := [(0, .aload_n 0, 0, 0, 0, [], 0),
  (1, .getfield 41, 0, 11, 0, [], 371),
  (4, .iconst 2, 0, 0, nI 2, [], 0),
  (5, .aaload, 0, 0, 0, [], 0),
  (6, .iload_n 1, 0, 0, 0, [], 0),
  (7, .iconst 0, 0, 0, nI 0, [], 0),
  (8, .iastore, 0, 0, 0, [], 0),
  (9, .aload_n 0, 0, 0, 0, [], 0),
  (10, .getfield 41, 0, 11, 0, [], 371),
  (13, .iconst 3, 0, 0, nI 3, [], 0),
  (14, .aaload, 0, 0, 0, [], 0),
  (15, .iload_n 1, 0, 0, 0, [], 0),
  (16, .iconst 0, 0, 0, nI 0, [], 0),
  (17, .iastore, 0, 0, 0, [], 0),
  (18, .aload_n 0, 0, 0, 0, [], 0),
  (19, .iload_n 1, 0, 0, 0, [], 0),
  (20, .aload_n 0, 0, 0, 0, [], 0),
  (21, .getfield 58, 0, 0, 0, [], 355),
  (24, .getfield 104, 8, 8, 0, [], 135),
  (27, .iload_n 1, 0, 0, 0, [], 0),
  (28, .iaload, 0, 0, 0, [], 0),
  (29, .invokevirtual 107, 3, 0, 0, [], 587),
  (32, .return_, 0, 0, 0, [], 0)]
/-- BikeTown$Day.takesBikes(I)Z -/
def cd65 : List Ent := [(0, .aload_n 0, 0, 0, 0, [], 0),
  (1, .getfield 26, 0, 7, 0, [], 366),
  (4, .iload_n 1, 0, 0, 0, [], 0),
  (5, .baload, 0, 0, 0, [], 0),
  (6, .ifCond .eq 15, 11, 0, 0, [], 0),
  (9, .aload_n 0, 0, 0, 0, [], 0),
  (10, .iload_n 1, 0, 0, 0, [], 0),
  (11, .invokevirtual 138, 2, 0, 0, [], 623),
  (14, .ifCond .le 7, 11, 0, 0, [], 0),
  (17, .iconst 1, 0, 0, nI 1, [], 0),
  (18, .goto 4, 12, 0, 0, [], 0),
  (21, .iconst 0, 0, 0, nI 0, [], 0),
  (22, .ireturn, 0, 0, 0, [], 0)]
/-- BikeTown$Day.lift(II)V -/
def cd66 : List Ent := [(0, .aload_n 0, 0, 0, 0, [], 0),
  (1, .getfield 41, 0, 11, 0, [], 371),
  (4, .iconst 1, 0, 0, nI 1, [], 0),
  (5, .aaload, 0, 0, 0, [], 0),
  (6, .iload_n 1, 0, 0, 0, [], 0),
  (7, .iaload, 0, 0, 0, [], 0),
  (8, .istore_n 3, 0, 0, 0, [], 0),
  (9, .aload_n 0, 0, 0, 0, [], 0),
  (10, .getfield 41, 0, 11, 0, [], 371),
  (13, .iconst 0, 0, 0, nI 0, [], 0),
  (14, .aaload, 0, 0, 0, [], 0),
  (15, .iload_n 1, 0, 0, 0, [], 0),
  (16, .iaload, 0, 0, 0, [], 0),
  (17, .ifCond .ne 14, 19, 0, 0, [], 0),
  (20, .aload_n 0, 0, 0, 0, [], 0),
  (21, .getfield 58, 0, 0, 0, [], 355),
  (24, .iload_n 3, 0, 0, 0, [], 0),
  (25, .invokevirtual 142, 25, 0, 0, [], 644),
  (28, .ifCond .ne 4, 20, 0, 0, [], 0),
  (31, .return_, 0, 0, 0, [], 0),
  (32, .aload_n 0, 0, 0, 0, [], 0),
  (33, .getfield 41, 0, 11, 0, [], 371),
  (36, .iconst 0, 0, 0, nI 0, [], 0),
  (37, .aaload, 0, 0, 0, [], 0),
  (38, .iload_n 1, 0, 0, 0, [], 0),
  (39, .iload_n 2, 0, 0, 0, [], 0),
  (40, .iastore, 0, 0, 0, [], 0),
  (41, .aload_n 0, 0, 0, 0, [], 0),
  (42, .getfield 30, 0, 8, 0, [], 368),
  (45, .iload_n 3, 0, 0, 0, [], 0),
  (46, .dup2, 0, 0, 0, [], 0),
  (47, .iaload, 0, 0, 0, [], 0),
  (48, .iconst 1, 0, 0, nI 1, [], 0),
  (49, .isub, 0, 0, 0, [], 0),
  (50, .iastore, 0, 0, 0, [], 0),
  (51, .aload_n 0, 0, 0, 0, [], 0),
  (52, .getfield 41, 0, 11, 0, [], 371),
  (55, .iconst 3, 0, 0, nI 3, [], 0),
  (56, .aaload, 0, 0, 0, [], 0),
  (57, .iload_n 1, 0, 0, 0, [], 0),
  (58, .iaload, 0, 0, 0, [], 0),
  (59, .ifCond .ne 13, 50, 0, 0, [], 0),
  (62, .aload_n 0, 0, 0, 0, [], 0),
  (63, .getfield 33, 0, 9, 0, [], 369),
  (66, .iload_n 3, 0, 0, 0, [], 0),
  (67, .dup2, 0, 0, 0, [], 0),
  (68, .iaload, 0, 0, 0, [], 0),
  (69, .iconst 1, 0, 0, nI 1, [], 0),
  (70, .isub, 0, 0, 0, [], 0),
  (71, .iastore, 0, 0, 0, [], 0),
  (72, .return_, 0, 0, 0, [], 0)]
/-- BikeTown$Day.bestBike(I)I -/
def cd67 : List Ent := [(0, .iconst (-1), 0, 0, (-1), [], 0),
  (1, .istore_n 2, 0, 0, 0, [], 0),
  (2, .aload_n 0, 0, 0, 0, [], 0),
  (3, .getfield 33, 0, 9, 0, [], 369),
  (6, .iload_n 1, 0, 0, 0, [], 0),
  (7, .iaload, 0, 0, 0, [], 0),
  (8, .ifCond .gt 5, 9, 0, 0, [], 0),
  (11, .iconst (-1), 0, 0, (-1), [], 0),
  (12, .ireturn, 0, 0, 0, [], 0),
  (13, .iconst 0, 0, 0, nI 0, [], 0),
  (14, .istore_n 3, 0, 0, 0, [], 0),
  (15, .iload_n 3, 0, 0, 0, [], 0),
  (16, .aload_n 0, 0, 0, 0, [], 0),
  (17, .getfield 58, 0, 0, 0, [], 355),
  (20, .getfield 86, 8, 1, 0, [], 116),
  (23, .if_icmp .ge 58, 49, 0, 0, [], 0),
  (26, .aload_n 0, 0, 0, 0, [], 0),
  (27, .iload_n 3, 0, 0, 0, [], 0),
  (28, .iload_n 1, 0, 0, 0, [], 0),
  (29, .invokevirtual 146, 4, 0, 0, [], 645),
  (32, .ifCond .eq 43, 47, 0, 0, [], 0),
  (35, .aload_n 0, 0, 0, 0, [], 0),
  (36, .getfield 41, 0, 11, 0, [], 371),
  (39, .iconst 3, 0, 0, nI 3, [], 0),
  (40, .aaload, 0, 0, 0, [], 0),
  (41, .iload_n 3, 0, 0, 0, [], 0),
  (42, .iaload, 0, 0, 0, [], 0),
  (43, .ifCond .eq 6, 29, 0, 0, [], 0),
  (46, .goto 29, 47, 0, 0, [], 0),
  (49, .iload_n 2, 0, 0, 0, [], 0),
  (50, .iconst (-1), 0, 0, (-1), [], 0),
  (51, .if_icmp .eq 22, 45, 0, 0, [], 0),
  (54, .aload_n 0, 0, 0, 0, [], 0),
  (55, .getfield 41, 0, 11, 0, [], 371),
  (58, .iconst 2, 0, 0, nI 2, [], 0),
  (59, .aaload, 0, 0, 0, [], 0),
  (60, .iload_n 3, 0, 0, 0, [], 0),
  (61, .iaload, 0, 0, 0, [], 0),
  (62, .aload_n 0, 0, 0, 0, [], 0),
  (63, .getfield 41, 0, 11, 0, [], 371),
  (66, .iconst 2, 0, 0, nI 2, [], 0),
  (67, .aaload, 0, 0, 0, [], 0),
  (68, .iload_n 2, 0, 0, 0, [], 0),
  (69, .iaload, 0, 0, 0, [], 0),
  (70, .if_icmp .ge 5, 47, 0, 0, [], 0),
  (73, .iload_n 3, 0, 0, 0, [], 0),
  (74, .istore_n 2, 0, 0, 0, [], 0),
  (75, .iinc 3 1, 0, 0, nI 1, [], 0),
  (78, .goto (-63), 11, 0, 0, [], 0),
  (81, .iload_n 2, 0, 0, 0, [], 0),
  (82, .ireturn, 0, 0, 0, [], 0)]
/-- BikeTown$Day.tellFaulty(I)V -/
def cd68 : List Ent := [(0, .aload_n 0, 0, 0, 0, [], 0),
  (1, .getfield 41, 0, 11, 0, [], 371),
  (4, .iconst 1, 0, 0, nI 1, [], 0),
  (5, .aaload, 0, 0, 0, [], 0),
  (6, .iload_n 1, 0, 0, 0, [], 0),
  (7, .iaload, 0, 0, 0, [], 0),
  (8, .istore_n 2, 0, 0, 0, [], 0),
  (9, .aload_n 0, 0, 0, 0, [], 0),
  (10, .getfield 58, 0, 0, 0, [], 355),
  (13, .iload_n 2, 0, 0, 0, [], 0),
  (14, .invokevirtual 142, 25, 0, 0, [], 644),
  (17, .ifCond .eq 23, 24, 0, 0, [], 0),
  (20, .aload_n 0, 0, 0, 0, [], 0),
  (21, .iload_n 1, 0, 0, 0, [], 0),
  (22, .iload_n 2, 0, 0, 0, [], 0),
  (23, .invokevirtual 146, 4, 0, 0, [], 645),
  (26, .ifCond .eq 14, 24, 0, 0, [], 0),
  (29, .aload_n 0, 0, 0, 0, [], 0),
  (30, .getfield 41, 0, 11, 0, [], 371),
  (33, .iconst 3, 0, 0, nI 3, [], 0),
  (34, .aaload, 0, 0, 0, [], 0),
  (35, .iload_n 1, 0, 0, 0, [], 0),
  (36, .iaload, 0, 0, 0, [], 0),
  (37, .ifCond .eq 4, 25, 0, 0, [], 0),
  (40, .return_, 0, 0, 0, [], 0),
  (41, .aload_n 0, 0, 0, 0, [], 0),
  (42, .getfield 41, 0, 11, 0, [], 371),
  (45, .iconst 3, 0, 0, nI 3, [], 0),
  (46, .aaload, 0, 0, 0, [], 0),
  (47, .iload_n 1, 0, 0, 0, [], 0),
  (48, .iconst 1, 0, 0, nI 1, [], 0),
  (49, .iastore, 0, 0, 0, [], 0),
  (50, .aload_n 0, 0, 0, 0, [], 0),
  (51, .getfield 33, 0, 9, 0, [], 369),
  (54, .iload_n 2, 0, 0, 0, [], 0),
  (55, .dup2, 0, 0, 0, [], 0),
  (56, .iaload, 0, 0, 0, [], 0),
  (57, .iconst 1, 0, 0, nI 1, [], 0),
  (58, .isub, 0, 0, 0, [], 0),
  (59, .iastore, 0, 0, 0, [], 0),
  (60, .return_, 0, 0, 0, [], 0)]
/-- BikeTown$Day.firstFaulty(I)I -/
def cd69 : List Ent := [(0, .iconst 0, 0, 0, nI 0, [], 0),
  (1, .istore_n 2, 0, 0, 0, [], 0),
  (2, .iload_n 2, 0, 0, 0, [], 0),
  (3, .aload_n 0, 0, 0, 0, [], 0),
  (4, .getfield 58, 0, 0, 0, [], 355),
  (7, .getfield 86, 8, 1, 0, [], 116),
  (10, .if_icmp .ge 31, 23, 0, 0, [], 0),
  (13, .aload_n 0, 0, 0, 0, [], 0),
  (14, .iload_n 2, 0, 0, 0, [], 0),
  (15, .iload_n 1, 0, 0, 0, [], 0),
  (16, .invokevirtual 146, 4, 0, 0, [], 645),
  (19, .ifCond .eq 16, 21, 0, 0, [], 0),
  (22, .aload_n 0, 0, 0, 0, [], 0),
  (23, .getfield 41, 0, 11, 0, [], 371),
  (26, .iconst 3, 0, 0, nI 3, [], 0),
  (27, .aaload, 0, 0, 0, [], 0),
  (28, .iload_n 2, 0, 0, 0, [], 0),
  (29, .iaload, 0, 0, 0, [], 0),
  (30, .ifCond .eq 5, 21, 0, 0, [], 0),
  (33, .iload_n 2, 0, 0, 0, [], 0),
  (34, .ireturn, 0, 0, 0, [], 0),
  (35, .iinc 2 1, 0, 0, nI 1, [], 0),
  (38, .goto (-36), 2, 0, 0, [], 0),
  (41, .iconst (-1), 0, 0, (-1), [], 0),
  (42, .ireturn, 0, 0, 0, [], 0)]
/-- BikeTown$Day.setOpen(IZ)V -/
def cd70 : List Ent := [(0, .aload_n 0, 0, 0, 0, [], 0),
  (1, .getfield 26, 0, 7, 0, [], 366),
  (4, .iload_n 1, 0, 0, 0, [], 0),
  (5, .baload, 0, 0, 0, [], 0),
  (6, .iload_n 2, 0, 0, 0, [], 0),
  (7, .if_icmp .ne 4, 7, 0, 0, [], 0),
  (10, .return_, 0, 0, 0, [], 0),
  (11, .aload_n 0, 0, 0, 0, [], 0),
  (12, .getfield 26, 0, 7, 0, [], 366),
  (15, .iload_n 1, 0, 0, 0, [], 0),
  (16, .iload_n 2, 0, 0, 0, [], 0),
  (17, .bastore, 0, 0, 0, [], 0),
  (18, .aload_n 0, 0, 0, 0, [], 0),
  (19, .getfield 71, 0, 2, 0, [], 357),
  (22, .iload_n 2, 0, 0, 0, [], 0),
  (23, .ifCond .eq 8, 18, 0, 0, [], 0),
  (26, .bipush 12, 0, 0, nI 12, [], 0),
  (28, .goto 5, 19, 0, 0, [], 0),
  (31, .bipush 11, 0, 0, nI 11, [], 0),
  (33, .aload_n 0, 0, 0, 0, [], 0),
  (34, .getfield 75, 0, 4, 0, [], 361),
  (37, .iload_n 1, 0, 0, 0, [], 0),
  (38, .iconst (-1), 0, 0, (-1), [], 0),
  (39, .iconst (-1), 0, 0, (-1), [], 0),
  (40, .invokevirtual 150, 8, 0, 0, [], 636),
  (43, .return_, 0, 0, 0, [], 0)]
/-- BikeTown$Day.tellPost(II)I -/
def cd71 : List Ent := [(0, .iload_n 2, 0, 0, 0, [], 0),
  (1, .tableswitch 122 0 7 #[47, 54, 61, 67, 74, 89, 96, 109], 49, 0, 0, [(nI 0, 2), (nI 1, 7), (nI 2, 12), (nI 3, 16), (nI 4, 21), (nI 5, 30), (nI 6, 35), (nI 7, 42)], 0),
  (48, .aload_n 0, 0, 0, 0, [], 0),
  (49, .getfield 30, 0, 8, 0, [], 368),
  (52, .iload_n 1, 0, 0, 0, [], 0),
  (53, .iaload, 0, 0, 0, [], 0),
  (54, .ireturn, 0, 0, 0, [], 0),
  (55, .aload_n 0, 0, 0, 0, [], 0),
  (56, .getfield 33, 0, 9, 0, [], 369),
  (59, .iload_n 1, 0, 0, 0, [], 0),
  (60, .iaload, 0, 0, 0, [], 0),
  (61, .ireturn, 0, 0, 0, [], 0),
  (62, .aload_n 0, 0, 0, 0, [], 0),
  (63, .iload_n 1, 0, 0, 0, [], 0),
  (64, .invokevirtual 138, 2, 0, 0, [], 623),
  (67, .ireturn, 0, 0, 0, [], 0),
  (68, .aload_n 0, 0, 0, 0, [], 0),
  (69, .getfield 22, 0, 6, 0, [], 364),
  (72, .iload_n 1, 0, 0, 0, [], 0),
  (73, .iaload, 0, 0, 0, [], 0),
  (74, .ireturn, 0, 0, 0, [], 0),
  (75, .aload_n 0, 0, 0, 0, [], 0),
  (76, .getfield 26, 0, 7, 0, [], 366),
  (79, .iload_n 1, 0, 0, 0, [], 0),
  (80, .baload, 0, 0, 0, [], 0),
  (81, .ifCond .eq 7, 28, 0, 0, [], 0),
  (84, .iconst 1, 0, 0, nI 1, [], 0),
  (85, .goto 4, 29, 0, 0, [], 0),
  (88, .iconst 0, 0, 0, nI 0, [], 0),
  (89, .ireturn, 0, 0, 0, [], 0),
  (90, .aload_n 0, 0, 0, 0, [], 0),
  (91, .getfield 36, 0, 10, 0, [], 370),
  (94, .iload_n 1, 0, 0, 0, [], 0),
  (95, .iaload, 0, 0, 0, [], 0),
  (96, .ireturn, 0, 0, 0, [], 0),
  (97, .aload_n 0, 0, 0, 0, [], 0),
  (98, .getfield 71, 0, 2, 0, [], 357),
  (101, .getfield 154, 2, 4, 0, [], 325),
  (104, .iload_n 1, 0, 0, 0, [], 0),
  (105, .aaload, 0, 0, 0, [], 0),
  (106, .invokestatic 157, 10, 0, 0, [], 908),
  (109, .ireturn, 0, 0, 0, [], 0),
  (110, .aload_n 0, 0, 0, 0, [], 0),
  (111, .getfield 71, 0, 2, 0, [], 357),
  (114, .getfield 161, 2, 5, 0, [], 328),
  (117, .iload_n 1, 0, 0, 0, [], 0),
  (118, .aaload, 0, 0, 0, [], 0),
  (119, .invokestatic 157, 10, 0, 0, [], 908),
  (122, .ireturn, 0, 0, 0, [], 0),
  (123, .aload_n 0, 0, 0, 0, [], 0),
  (124, .getfield 71, 0, 2, 0, [], 357),
  (127, .getfield 164, 2, 6, 0, [], 331),
  (130, .iload_n 1, 0, 0, 0, [], 0),
  (131, .aaload, 0, 0, 0, [], 0),
  (132, .invokestatic 157, 10, 0, 0, [], 908),
  (135, .ireturn, 0, 0, 0, [], 0)]
/-- BikeTown$Day.canBeDone(III)Z -/
def cd72 : List Ent := [(0, .iload_n 1, 0, 0, 0, [], 0),
  (1, .tableswitch 148 1 5 #[35, 59, 87, 104, 130], 70, 0, 0, [(nI 1, 2), (nI 2, 16), (nI 3, 34), (nI 4, 45), (nI 5, 61)], 0),
  (36, .aload_n 0, 0, 0, 0, [], 0),
  (37, .getfield 26, 0, 7, 0, [], 366),
  (40, .iload_n 2, 0, 0, 0, [], 0),
  (41, .baload, 0, 0, 0, [], 0),
  (42, .iload_n 3, 0, 0, 0, [], 0),
  (43, .ifCond .eq 7, 10, 0, 0, [], 0),
  (46, .iconst 1, 0, 0, nI 1, [], 0),
  (47, .goto 4, 11, 0, 0, [], 0),
  (50, .iconst 0, 0, 0, nI 0, [], 0),
  (51, .if_icmp .eq 7, 14, 0, 0, [], 0),
  (54, .iconst 1, 0, 0, nI 1, [], 0),
  (55, .goto 4, 15, 0, 0, [], 0),
  (58, .iconst 0, 0, 0, nI 0, [], 0),
  (59, .ireturn, 0, 0, 0, [], 0),
  (60, .aload_n 0, 0, 0, 0, [], 0),
  (61, .getfield 41, 0, 11, 0, [], 371),
  (64, .iconst 0, 0, 0, nI 0, [], 0),
  (65, .aaload, 0, 0, 0, [], 0),
  (66, .iload_n 2, 0, 0, 0, [], 0),
  (67, .iaload, 0, 0, 0, [], 0),
  (68, .ifCond .ne 18, 32, 0, 0, [], 0),
  (71, .aload_n 0, 0, 0, 0, [], 0),
  (72, .getfield 41, 0, 11, 0, [], 371),
  (75, .iconst 3, 0, 0, nI 3, [], 0),
  (76, .aaload, 0, 0, 0, [], 0),
  (77, .iload_n 2, 0, 0, 0, [], 0),
  (78, .iaload, 0, 0, 0, [], 0),
  (79, .ifCond .ne 7, 32, 0, 0, [], 0),
  (82, .iconst 1, 0, 0, nI 1, [], 0),
  (83, .goto 4, 33, 0, 0, [], 0),
  (86, .iconst 0, 0, 0, nI 0, [], 0),
  (87, .ireturn, 0, 0, 0, [], 0),
  (88, .aload_n 0, 0, 0, 0, [], 0),
  (89, .getfield 41, 0, 11, 0, [], 371),
  (92, .iconst 0, 0, 0, nI 0, [], 0),
  (93, .aaload, 0, 0, 0, [], 0),
  (94, .iload_n 2, 0, 0, 0, [], 0),
  (95, .iaload, 0, 0, 0, [], 0),
  (96, .ifCond .ne 7, 43, 0, 0, [], 0),
  (99, .iconst 1, 0, 0, nI 1, [], 0),
  (100, .goto 4, 44, 0, 0, [], 0),
  (103, .iconst 0, 0, 0, nI 0, [], 0),
  (104, .ireturn, 0, 0, 0, [], 0),
  (105, .aload_n 0, 0, 0, 0, [], 0),
  (106, .getfield 41, 0, 11, 0, [], 371),
  (109, .iconst 0, 0, 0, nI 0, [], 0),
  (110, .aaload, 0, 0, 0, [], 0),
  (111, .iload_n 2, 0, 0, 0, [], 0),
  (112, .iaload, 0, 0, 0, [], 0),
  (113, .iconst 4, 0, 0, nI 4, [], 0),
  (114, .if_icmp .ne 15, 59, 0, 0, [], 0),
  (117, .aload_n 0, 0, 0, 0, [], 0),
  (118, .iload_n 3, 0, 0, 0, [], 0),
  (119, .invokevirtual 138, 2, 0, 0, [], 623),
  (122, .ifCond .le 7, 59, 0, 0, [], 0),
  (125, .iconst 1, 0, 0, nI 1, [], 0),
  (126, .goto 4, 60, 0, 0, [], 0),
  (129, .iconst 0, 0, 0, nI 0, [], 0),
  (130, .ireturn, 0, 0, 0, [], 0),
  (131, .aload_n 0, 0, 0, 0, [], 0),
  (132, .getfield 12, 0, 3, 0, [], 359),
  (135, .getfield 167, 10, 2, 0, [], 281),
  (138, .bipush 20, 0, 0, nI 20, [], 0),
  (140, .if_icmp .ge 7, 68, 0, 0, [], 0),
  (143, .iconst 1, 0, 0, nI 1, [], 0),
  (144, .goto 4, 69, 0, 0, [], 0),
  (147, .iconst 0, 0, 0, nI 0, [], 0),
  (148, .ireturn, 0, 0, 0, [], 0),
  (149, .iconst 1, 0, 0, nI 1, [], 0),
  (150, .ireturn, 0, 0, 0, [], 0)]
/-- BikeTown$Day.leaveBike(III)V -/
def cd73 : List Ent := [(0, .aload_n 0, 0, 0, 0, [], 0),
  (1, .getfield 41, 0, 11, 0, [], 371),
  (4, .iconst 2, 0, 0, nI 2, [], 0),
  (5, .aaload, 0, 0, 0, [], 0),
  (6, .iload_n 2, 0, 0, 0, [], 0),
  (7, .dup2, 0, 0, 0, [], 0),
  (8, .iaload, 0, 0, 0, [], 0),
  (9, .aload_n 0, 0, 0, 0, [], 0),
  (10, .getfield 75, 0, 4, 0, [], 361),
  (13, .aload_n 0, 0, 0, 0, [], 0),
  (14, .getfield 47, 0, 13, 0, [], 374),
  (17, .iconst 2, 0, 0, nI 2, [], 0),
  (18, .aaload, 0, 0, 0, [], 0),
  (19, .iload_n 1, 0, 0, 0, [], 0),
  (20, .iaload, 0, 0, 0, [], 0),
  (21, .isub, 0, 0, 0, [], 0),
  (22, .iadd, 0, 0, 0, [], 0),
  (23, .iastore, 0, 0, 0, [], 0),
  (24, .aload_n 0, 0, 0, 0, [], 0),
  (25, .getfield 41, 0, 11, 0, [], 371),
  (28, .iconst 2, 0, 0, nI 2, [], 0),
  (29, .aaload, 0, 0, 0, [], 0),
  (30, .iload_n 2, 0, 0, 0, [], 0),
  (31, .iaload, 0, 0, 0, [], 0),
  (32, .aload_n 0, 0, 0, 0, [], 0),
  (33, .getfield 58, 0, 0, 0, [], 355),
  (36, .getfield 223, 8, 4, 0, [], 127),
  (39, .if_icmp .lt 12, 35, 0, 0, [], 0),
  (42, .aload_n 0, 0, 0, 0, [], 0),
  (43, .getfield 41, 0, 11, 0, [], 371),
  (46, .iconst 3, 0, 0, nI 3, [], 0),
  (47, .aaload, 0, 0, 0, [], 0),
  (48, .iload_n 2, 0, 0, 0, [], 0),
  (49, .iconst 1, 0, 0, nI 1, [], 0),
  (50, .iastore, 0, 0, 0, [], 0),
  (51, .aload_n 0, 0, 0, 0, [], 0),
  (52, .iload_n 2, 0, 0, 0, [], 0),
  (53, .iload_n 3, 0, 0, 0, [], 0),
  (54, .invokevirtual 107, 3, 0, 0, [], 587),
  (57, .aload_n 0, 0, 0, 0, [], 0),
  (58, .getfield 47, 0, 13, 0, [], 374),
  (61, .iconst 0, 0, 0, nI 0, [], 0),
  (62, .aaload, 0, 0, 0, [], 0),
  (63, .iload_n 1, 0, 0, 0, [], 0),
  (64, .iconst 3, 0, 0, nI 3, [], 0),
  (65, .iastore, 0, 0, 0, [], 0),
  (66, .aload_n 0, 0, 0, 0, [], 0),
  (67, .getfield 47, 0, 13, 0, [], 374),
  (70, .iconst 3, 0, 0, nI 3, [], 0),
  (71, .aaload, 0, 0, 0, [], 0),
  (72, .iload_n 1, 0, 0, 0, [], 0),
  (73, .aload_n 0, 0, 0, 0, [], 0),
  (74, .getfield 75, 0, 4, 0, [], 361),
  (77, .iastore, 0, 0, 0, [], 0),
  (78, .aload_n 0, 0, 0, 0, [], 0),
  (79, .getfield 47, 0, 13, 0, [], 374),
  (82, .iconst 4, 0, 0, nI 4, [], 0),
  (83, .aaload, 0, 0, 0, [], 0),
  (84, .iload_n 1, 0, 0, 0, [], 0),
  (85, .iload_n 3, 0, 0, 0, [], 0),
  (86, .iastore, 0, 0, 0, [], 0),
  (87, .aload_n 0, 0, 0, 0, [], 0),
  (88, .getfield 71, 0, 2, 0, [], 357),
  (91, .iconst 2, 0, 0, nI 2, [], 0),
  (92, .aload_n 0, 0, 0, 0, [], 0),
  (93, .getfield 75, 0, 4, 0, [], 361),
  (96, .iload_n 3, 0, 0, 0, [], 0),
  (97, .iload_n 1, 0, 0, 0, [], 0),
  (98, .iload_n 2, 0, 0, 0, [], 0),
  (99, .invokevirtual 150, 8, 0, 0, [], 636),
  (102, .return_, 0, 0, 0, [], 0)]
/-- BikeTown$Day.mendBikes()V -/
def cd74 : List Ent := [(0, .iconst 0, 0, 0, nI 0, [], 0),
  (1, .istore_n 1, 0, 0, 0, [], 0),
  (2, .iload_n 1, 0, 0, 0, [], 0),
  (3, .aload_n 0, 0, 0, 0, [], 0),
  (4, .getfield 58, 0, 0, 0, [], 355),
  (7, .getfield 86, 8, 1, 0, [], 116),
  (10, .if_icmp .ge 108, 69, 0, 0, [], 0),
  (13, .aload_n 0, 0, 0, 0, [], 0),
  (14, .getfield 41, 0, 11, 0, [], 371),
  (17, .iconst 0, 0, 0, nI 0, [], 0),
  (18, .aaload, 0, 0, 0, [], 0),
  (19, .iload_n 1, 0, 0, 0, [], 0),
  (20, .iaload, 0, 0, 0, [], 0),
  (21, .iconst 3, 0, 0, nI 3, [], 0),
  (22, .if_icmp .ne 90, 67, 0, 0, [], 0),
  (25, .aload_n 0, 0, 0, 0, [], 0),
  (26, .getfield 44, 0, 12, 0, [], 373),
  (29, .iload_n 1, 0, 0, 0, [], 0),
  (30, .iaload, 0, 0, 0, [], 0),
  (31, .aload_n 0, 0, 0, 0, [], 0),
  (32, .getfield 75, 0, 4, 0, [], 361),
  (35, .if_icmp .le 6, 23, 0, 0, [], 0),
  (38, .goto 74, 67, 0, 0, [], 0),
  (41, .aload_n 0, 0, 0, 0, [], 0),
  (42, .getfield 41, 0, 11, 0, [], 371),
  (45, .iconst 1, 0, 0, nI 1, [], 0),
  (46, .aaload, 0, 0, 0, [], 0),
  (47, .iload_n 1, 0, 0, 0, [], 0),
  (48, .iaload, 0, 0, 0, [], 0),
  (49, .istore_n 2, 0, 0, 0, [], 0),
  (50, .aload_n 0, 0, 0, 0, [], 0),
  (51, .getfield 58, 0, 0, 0, [], 355),
  (54, .iload_n 2, 0, 0, 0, [], 0),
  (55, .invokevirtual 142, 25, 0, 0, [], 644),
  (58, .ifCond .eq 54, 67, 0, 0, [], 0),
  (61, .aload_n 0, 0, 0, 0, [], 0),
  (62, .iload_n 2, 0, 0, 0, [], 0),
  (63, .invokevirtual 138, 2, 0, 0, [], 623),
  (66, .ifCond .gt 6, 40, 0, 0, [], 0),
  (69, .goto 43, 67, 0, 0, [], 0),
  (72, .aload_n 0, 0, 0, 0, [], 0),
  (73, .getfield 41, 0, 11, 0, [], 371),
  (76, .iconst 2, 0, 0, nI 2, [], 0),
  (77, .aaload, 0, 0, 0, [], 0),
  (78, .iload_n 1, 0, 0, 0, [], 0),
  (79, .iconst 0, 0, 0, nI 0, [], 0),
  (80, .iastore, 0, 0, 0, [], 0),
  (81, .aload_n 0, 0, 0, 0, [], 0),
  (82, .getfield 41, 0, 11, 0, [], 371),
  (85, .iconst 3, 0, 0, nI 3, [], 0),
  (86, .aaload, 0, 0, 0, [], 0),
  (87, .iload_n 1, 0, 0, 0, [], 0),
  (88, .iconst 0, 0, 0, nI 0, [], 0),
  (89, .iastore, 0, 0, 0, [], 0),
  (90, .aload_n 0, 0, 0, 0, [], 0),
  (91, .iload_n 1, 0, 0, 0, [], 0),
  (92, .iload_n 2, 0, 0, 0, [], 0),
  (93, .invokevirtual 107, 3, 0, 0, [], 587),
  (96, .aload_n 0, 0, 0, 0, [], 0),
  (97, .getfield 71, 0, 2, 0, [], 357),
  (100, .bipush 8, 0, 0, nI 8, [], 0),
  (102, .aload_n 0, 0, 0, 0, [], 0),
  (103, .getfield 75, 0, 4, 0, [], 361),
  (106, .iload_n 2, 0, 0, 0, [], 0),
  (107, .iconst (-1), 0, 0, (-1), [], 0),
  (108, .iload_n 1, 0, 0, 0, [], 0),
  (109, .invokevirtual 150, 8, 0, 0, [], 636),
  (112, .iinc 1 1, 0, 0, nI 1, [], 0),
  (115, .goto (-113), 2, 0, 0, [], 0),
  (118, .return_, 0, 0, 0, [], 0)]
/-- BikeTown$Day.nameAll(I)V -/
def cd75 : List Ent := [(0, .aload_n 0, 0, 0, 0, [], 0),
  (1, .getfield 55, 0, 15, 0, [], 377),
  (4, .iconst 0, 0, 0, nI 0, [], 0),
  (5, .aload_n 0, 0, 0, 0, [], 0),
  (6, .getfield 33, 0, 9, 0, [], 369),
  (9, .iload_n 1, 0, 0, 0, [], 0),
  (10, .iaload, 0, 0, 0, [], 0),
  (11, .iastore, 0, 0, 0, [], 0),
  (12, .aload_n 0, 0, 0, 0, [], 0),
  (13, .getfield 55, 0, 15, 0, [], 377),
  (16, .iconst 1, 0, 0, nI 1, [], 0),
  (17, .aload_n 0, 0, 0, 0, [], 0),
  (18, .iload_n 1, 0, 0, 0, [], 0),
  (19, .invokevirtual 138, 2, 0, 0, [], 623),
  (22, .iastore, 0, 0, 0, [], 0),
  (23, .aload_n 0, 0, 0, 0, [], 0),
  (24, .getfield 55, 0, 15, 0, [], 377),
  (27, .iconst 2, 0, 0, nI 2, [], 0),
  (28, .aload_n 0, 0, 0, 0, [], 0),
  (29, .getfield 22, 0, 6, 0, [], 364),
  (32, .iload_n 1, 0, 0, 0, [], 0),
  (33, .iaload, 0, 0, 0, [], 0),
  (34, .iastore, 0, 0, 0, [], 0),
  (35, .aload_n 0, 0, 0, 0, [], 0),
  (36, .getfield 55, 0, 15, 0, [], 377),
  (39, .iconst 3, 0, 0, nI 3, [], 0),
  (40, .aload_n 0, 0, 0, 0, [], 0),
  (41, .getfield 75, 0, 4, 0, [], 361),
  (44, .iastore, 0, 0, 0, [], 0),
  (45, .aload_n 0, 0, 0, 0, [], 0),
  (46, .getfield 55, 0, 15, 0, [], 377),
  (49, .iconst 4, 0, 0, nI 4, [], 0),
  (50, .aload_n 0, 0, 0, 0, [], 0),
  (51, .invokevirtual 253, 5, 0, 0, [], 778),
  (54, .iastore, 0, 0, 0, [], 0),
  (55, .aload_n 0, 0, 0, 0, [], 0),
  (56, .getfield 55, 0, 15, 0, [], 377),
  (59, .iconst 5, 0, 0, nI 5, [], 0),
  (60, .iload_n 1, 0, 0, 0, [], 0),
  (61, .iastore, 0, 0, 0, [], 0),
  (62, .aload_n 0, 0, 0, 0, [], 0),
  (63, .getfield 55, 0, 15, 0, [], 377),
  (66, .bipush 6, 0, 0, nI 6, [], 0),
  (68, .aload_n 0, 0, 0, 0, [], 0),
  (69, .getfield 36, 0, 10, 0, [], 370),
  (72, .iload_n 1, 0, 0, 0, [], 0),
  (73, .iaload, 0, 0, 0, [], 0),
  (74, .iastore, 0, 0, 0, [], 0),
  (75, .return_, 0, 0, 0, [], 0)]
/-- BikeTown$Day.vanLeaves(I)V -/
def cd76 : List Ent := [(0, .aload_n 0, 0, 0, 0, [], 0),
  (1, .iload_n 1, 0, 0, 0, [], 0),
  (2, .invokevirtual 138, 2, 0, 0, [], 623),
  (5, .ifCond .le 13, 8, 0, 0, [], 0),
  (8, .aload_n 0, 0, 0, 0, [], 0),
  (9, .getfield 12, 0, 3, 0, [], 359),
  (12, .invokevirtual 293, 37, 0, 0, [], 840),
  (15, .goto 4, 9, 0, 0, [], 0),
  (18, .iconst (-1), 0, 0, (-1), [], 0),
  (19, .istore_n 2, 0, 0, 0, [], 0),
  (20, .iload_n 2, 0, 0, 0, [], 0),
  (21, .iconst (-1), 0, 0, (-1), [], 0),
  (22, .if_icmp .ne 4, 14, 0, 0, [], 0),
  (25, .return_, 0, 0, 0, [], 0),
  (26, .aload_n 0, 0, 0, 0, [], 0),
  (27, .iload_n 2, 0, 0, 0, [], 0),
  (28, .iload_n 1, 0, 0, 0, [], 0),
  (29, .invokevirtual 107, 3, 0, 0, [], 587),
  (32, .aload_n 0, 0, 0, 0, [], 0),
  (33, .getfield 71, 0, 2, 0, [], 357),
  (36, .bipush 6, 0, 0, nI 6, [], 0),
  (38, .aload_n 0, 0, 0, 0, [], 0),
  (39, .getfield 75, 0, 4, 0, [], 361),
  (42, .iload_n 1, 0, 0, 0, [], 0),
  (43, .iconst (-1), 0, 0, (-1), [], 0),
  (44, .iload_n 2, 0, 0, 0, [], 0),
  (45, .invokevirtual 150, 8, 0, 0, [], 636),
  (48, .return_, 0, 0, 0, [], 0)]
/-- BikeTown$Day.lose(III)V -/
def cd77 : List Ent := [(0, .aload_n 0, 0, 0, 0, [], 0),
  (1, .getfield 47, 0, 13, 0, [], 374),
  (4, .iconst 0, 0, 0, nI 0, [], 0),
  (5, .aaload, 0, 0, 0, [], 0),
  (6, .iload_n 1, 0, 0, 0, [], 0),
  (7, .iload_n 3, 0, 0, 0, [], 0),
  (8, .iastore, 0, 0, 0, [], 0),
  (9, .aload_n 0, 0, 0, 0, [], 0),
  (10, .getfield 71, 0, 2, 0, [], 357),
  (13, .getfield 161, 2, 5, 0, [], 328),
  (16, .iload_n 2, 0, 0, 0, [], 0),
  (17, .aaload, 0, 0, 0, [], 0),
  (18, .aload_n 0, 0, 0, 0, [], 0),
  (19, .invokevirtual 253, 5, 0, 0, [], 778),
  (22, .dup2, 0, 0, 0, [], 0),
  (23, .iaload, 0, 0, 0, [], 0),
  (24, .iconst 1, 0, 0, nI 1, [], 0),
  (25, .iadd, 0, 0, 0, [], 0),
  (26, .iastore, 0, 0, 0, [], 0),
  (27, .aload_n 0, 0, 0, 0, [], 0),
  (28, .getfield 71, 0, 2, 0, [], 357),
  (31, .iload_n 3, 0, 0, 0, [], 0),
  (32, .iconst 4, 0, 0, nI 4, [], 0),
  (33, .if_icmp .ne 7, 26, 0, 0, [], 0),
  (36, .iconst 3, 0, 0, nI 3, [], 0),
  (37, .goto 4, 27, 0, 0, [], 0),
  (40, .iconst 4, 0, 0, nI 4, [], 0),
  (41, .aload_n 0, 0, 0, 0, [], 0),
  (42, .getfield 75, 0, 4, 0, [], 361),
  (45, .iload_n 2, 0, 0, 0, [], 0),
  (46, .iload_n 1, 0, 0, 0, [], 0),
  (47, .iconst (-1), 0, 0, (-1), [], 0),
  (48, .invokevirtual 150, 8, 0, 0, [], 636),
  (51, .return_, 0, 0, 0, [], 0)]
/-- BikeTown$Day.countEmpty()V -/
def cd78 : List Ent := [(0, .iconst 0, 0, 0, nI 0, [], 0),
  (1, .istore_n 1, 0, 0, 0, [], 0),
  (2, .iload_n 1, 0, 0, 0, [], 0),
  (3, .aload_n 0, 0, 0, 0, [], 0),
  (4, .getfield 58, 0, 0, 0, [], 355),
  (7, .getfield 78, 8, 0, 0, [], 113),
  (10, .if_icmp .ge 36, 26, 0, 0, [], 0),
  (13, .aload_n 0, 0, 0, 0, [], 0),
  (14, .getfield 33, 0, 9, 0, [], 369),
  (17, .iload_n 1, 0, 0, 0, [], 0),
  (18, .iaload, 0, 0, 0, [], 0),
  (19, .ifCond .ne 21, 24, 0, 0, [], 0),
  (22, .aload_n 0, 0, 0, 0, [], 0),
  (23, .getfield 71, 0, 2, 0, [], 357),
  (26, .getfield 164, 2, 6, 0, [], 331),
  (29, .iload_n 1, 0, 0, 0, [], 0),
  (30, .aaload, 0, 0, 0, [], 0),
  (31, .aload_n 0, 0, 0, 0, [], 0),
  (32, .invokevirtual 253, 5, 0, 0, [], 778),
  (35, .dup2, 0, 0, 0, [], 0),
  (36, .iaload, 0, 0, 0, [], 0),
  (37, .iconst 1, 0, 0, nI 1, [], 0),
  (38, .iadd, 0, 0, 0, [], 0),
  (39, .iastore, 0, 0, 0, [], 0),
  (40, .iinc 1 1, 0, 0, nI 1, [], 0),
  (43, .goto (-41), 2, 0, 0, [], 0),
  (46, .return_, 0, 0, 0, [], 0)]
/-- BikeTown$Days.countLike(I)I -/
def cd79 : List Ent := [(0, .aload_n 0, 0, 0, 0, [], 0),
  (1, .iload_n 1, 0, 0, 0, [], 0),
  (2, .invokevirtual 27, 7, 0, 0, [], 956),
  (5, .istore_n 2, 0, 0, 0, [], 0),
  (6, .iload_n 2, 0, 0, 0, [], 0),
  (7, .iconst 2, 0, 0, nI 2, [], 0),
  (8, .if_icmp .ge 10, 10, 0, 0, [], 0),
  (11, .aload_n 0, 0, 0, 0, [], 0),
  (12, .getfield 20, 1, 0, 0, [], 418),
  (15, .goto 4, 11, 0, 0, [], 0),
  (18, .iload_n 2, 0, 0, 0, [], 0),
  (19, .ireturn, 0, 0, 0, [], 0)]
/-- BikeTown$Days.sumOfLike(III)I -/
def cd80 : List Ent := [(0, .aload_n 0, 0, 0, 0, [], 0),
  (1, .iload_n 1, 0, 0, 0, [], 0),
  (2, .invokevirtual 27, 7, 0, 0, [], 956),
  (5, .iconst 2, 0, 0, nI 2, [], 0),
  (6, .if_icmp .ge 7, 7, 0, 0, [], 0),
  (9, .iconst 1, 0, 0, nI 1, [], 0),
  (10, .goto 4, 8, 0, 0, [], 0),
  (13, .iconst 0, 0, 0, nI 0, [], 0),
  (14, .istore 4, 0, 0, 0, [], 0),
  (16, .iconst 0, 0, 0, nI 0, [], 0),
  (17, .istore 5, 0, 0, 0, [], 0),
  (19, .iconst 0, 0, 0, nI 0, [], 0),
  (20, .istore 6, 0, 0, 0, [], 0),
  (22, .iload 6, 0, 0, 0, [], 0),
  (24, .aload_n 0, 0, 0, 0, [], 0),
  (25, .getfield 20, 1, 0, 0, [], 418),
  (28, .if_icmp .ge 44, 40, 0, 0, [], 0),
  (31, .iload 4, 0, 0, 0, [], 0),
  (33, .ifCond .ne 14, 25, 0, 0, [], 0),
  (36, .aload_n 0, 0, 0, 0, [], 0),
  (37, .getfield 9, 1, 1, 0, [], 420),
  (40, .iload 6, 0, 0, 0, [], 0),
  (42, .iaload, 0, 0, 0, [], 0),
  (43, .iload_n 1, 0, 0, 0, [], 0),
  (44, .if_icmp .ne 22, 38, 0, 0, [], 0),
  (47, .iload 5, 0, 0, 0, [], 0),
  (49, .aload_n 0, 0, 0, 0, [], 0),
  (50, .getfield 17, 1, 2, 0, [], 421),
  (53, .iload 6, 0, 0, 0, [], 0),
  (55, .aaload, 0, 0, 0, [], 0),
  (56, .iload_n 2, 0, 0, 0, [], 0),
  (57, .bipush 24, 0, 0, nI 24, [], 0),
  (59, .imul, 0, 0, 0, [], 0),
  (60, .iload_n 3, 0, 0, 0, [], 0),
  (61, .iadd, 0, 0, 0, [], 0),
  (62, .iaload, 0, 0, 0, [], 0),
  (63, .iadd, 0, 0, 0, [], 0),
  (64, .istore 5, 0, 0, 0, [], 0),
  (66, .iinc 6 1, 0, 0, nI 1, [], 0),
  (69, .goto (-47), 13, 0, 0, [], 0),
  (72, .iload 5, 0, 0, 0, [], 0),
  (74, .ireturn, 0, 0, 0, [], 0)]
/-- BikeTown$Diary.beginMinute()V -/
def cd81 : List Ent := [(0, .aload_n 0, 0, 0, 0, [], 0),
  (1, .getfield 25, 2, 8, 0, [], 335),
  (4, .iconst 0, 0, 0, nI 0, [], 0),
  (5, .invokestatic 48, 63, 0, 0, [], 733),
  (8, .return_, 0, 0, 0, [], 0)]
/-- BikeTown$Diary.countTaken(III)V -/
def cd82 : List Ent := [(0, .aload_n 0, 0, 0, 0, [], 0),
  (1, .getfield 11, 2, 4, 0, [], 323),
  (4, .iload_n 1, 0, 0, 0, [], 0),
  (5, .aaload, 0, 0, 0, [], 0),
  (6, .iload_n 2, 0, 0, 0, [], 0),
  (7, .dup2, 0, 0, 0, [], 0),
  (8, .iaload, 0, 0, 0, [], 0),
  (9, .iconst 1, 0, 0, nI 1, [], 0),
  (10, .iadd, 0, 0, 0, [], 0),
  (11, .iastore, 0, 0, 0, [], 0),
  (12, .aload_n 0, 0, 0, 0, [], 0),
  (13, .getfield 25, 2, 8, 0, [], 335),
  (16, .iload_n 1, 0, 0, 0, [], 0),
  (17, .dup2, 0, 0, 0, [], 0),
  (18, .iaload, 0, 0, 0, [], 0),
  (19, .iconst 1, 0, 0, nI 1, [], 0),
  (20, .iadd, 0, 0, 0, [], 0),
  (21, .iastore, 0, 0, 0, [], 0),
  (22, .aload_n 0, 0, 0, 0, [], 0),
  (23, .getfield 22, 2, 7, 0, [], 333),
  (26, .iload_n 1, 0, 0, 0, [], 0),
  (27, .aaload, 0, 0, 0, [], 0),
  (28, .iload_n 2, 0, 0, 0, [], 0),
  (29, .aload_n 0, 0, 0, 0, [], 0),
  (30, .getfield 22, 2, 7, 0, [], 333),
  (33, .iload_n 1, 0, 0, 0, [], 0),
  (34, .aaload, 0, 0, 0, [], 0),
  (35, .iload_n 2, 0, 0, 0, [], 0),
  (36, .iaload, 0, 0, 0, [], 0),
  (37, .aload_n 0, 0, 0, 0, [], 0),
  (38, .getfield 25, 2, 8, 0, [], 335),
  (41, .iload_n 1, 0, 0, 0, [], 0),
  (42, .iaload, 0, 0, 0, [], 0),
  (43, .invokestatic 29, 0, 2, 0, [], 313),
  (46, .iastore, 0, 0, 0, [], 0),
  (47, .aload_n 0, 0, 0, 0, [], 0),
  (48, .dup, 0, 0, 0, [], 0),
  (49, .getfield 45, 2, 2, 0, [], 319),
  (52, .iload_n 3, 0, 0, 0, [], 0),
  (53, .iadd, 0, 0, 0, [], 0),
  (54, .putfield 45, 2, 2, 0, [], 319),
  (57, .return_, 0, 0, 0, [], 0)]
/-- BikeTown$Diary.changeTill(II)I -/
def cd83 : List Ent := [(0, .iconst 0, 0, 0, nI 0, [], 0),
  (1, .istore_n 3, 0, 0, 0, [], 0),
  (2, .iconst 0, 0, 0, nI 0, [], 0),
  (3, .istore 4, 0, 0, 0, [], 0),
  (5, .iload 4, 0, 0, 0, [], 0),
  (7, .aload_n 0, 0, 0, 0, [], 0),
  (8, .getfield 42, 2, 1, 0, [], 317),
  (11, .if_icmp .ge 50, 36, 0, 0, [], 0),
  (14, .aload_n 0, 0, 0, 0, [], 0),
  (15, .getfield 39, 2, 3, 0, [], 321),
  (18, .iconst 1, 0, 0, nI 1, [], 0),
  (19, .aaload, 0, 0, 0, [], 0),
  (20, .iload 4, 0, 0, 0, [], 0),
  (22, .iaload, 0, 0, 0, [], 0),
  (23, .iload_n 2, 0, 0, 0, [], 0),
  (24, .if_icmp .ge 31, 34, 0, 0, [], 0),
  (27, .aload_n 0, 0, 0, 0, [], 0),
  (28, .getfield 39, 2, 3, 0, [], 321),
  (31, .iconst 2, 0, 0, nI 2, [], 0),
  (32, .aaload, 0, 0, 0, [], 0),
  (33, .iload 4, 0, 0, 0, [], 0),
  (35, .iaload, 0, 0, 0, [], 0),
  (36, .iload_n 1, 0, 0, 0, [], 0),
  (37, .if_icmp .ne 18, 34, 0, 0, [], 0),
  (40, .iload_n 3, 0, 0, 0, [], 0),
  (41, .aload_n 0, 0, 0, 0, [], 0),
  (42, .getfield 39, 2, 3, 0, [], 321),
  (45, .iconst 0, 0, 0, nI 0, [], 0),
  (46, .aaload, 0, 0, 0, [], 0),
  (47, .iload 4, 0, 0, 0, [], 0),
  (49, .iaload, 0, 0, 0, [], 0),
  (50, .invokestatic 57, 9, 0, 0, [], 940),
  (53, .iadd, 0, 0, 0, [], 0),
  (54, .istore_n 3, 0, 0, 0, [], 0),
  (55, .iinc 4 1, 0, 0, nI 1, [], 0),
  (58, .goto (-53), 4, 0, 0, [], 0),
  (61, .iload_n 3, 0, 0, 0, [], 0),
  (62, .ireturn, 0, 0, 0, [], 0)]
/-- BikeTown$Houses.gainAt(IIII)I -/
def cd84 : List Ent := [(0, .iload_n 1, 0, 0, 0, [], 0),
  (1, .ifCond .ne 19, 11, 0, 0, [], 0),
  (4, .aload_n 0, 0, 0, 0, [], 0),
  (5, .getfield 13, 4, 0, 0, [], 459),
  (8, .iconst 0, 0, 0, nI 0, [], 0),
  (9, .aaload, 0, 0, 0, [], 0),
  (10, .iload 4, 0, 0, 0, [], 0),
  (12, .iload_n 3, 0, 0, 0, [], 0),
  (13, .invokestatic 20, 13, 0, 0, [], 1068),
  (16, .iaload, 0, 0, 0, [], 0),
  (17, .goto 16, 19, 0, 0, [], 0),
  (20, .aload_n 0, 0, 0, 0, [], 0),
  (21, .getfield 13, 4, 0, 0, [], 459),
  (24, .iconst 1, 0, 0, nI 1, [], 0),
  (25, .aaload, 0, 0, 0, [], 0),
  (26, .iload_n 2, 0, 0, 0, [], 0),
  (27, .iload 4, 0, 0, 0, [], 0),
  (29, .invokestatic 20, 13, 0, 0, [], 1068),
  (32, .iaload, 0, 0, 0, [], 0),
  (33, .ireturn, 0, 0, 0, [], 0)]
/-- BikeTown$Rules.stateBehind(II)I -/
def cd85 : List Ent := [(0, .iload_n 1, 0, 0, 0, [], 0),
  (1, .bipush 9, 0, 0, nI 9, [], 0),
  (3, .if_icmp .le 15, 9, 0, 0, [], 0),
  (6, .iload_n 1, 0, 0, 0, [], 0),
  (7, .bipush 21, 0, 0, nI 21, [], 0),
  (9, .if_icmp .lt 13, 11, 0, 0, [], 0),
  (12, .iload_n 1, 0, 0, 0, [], 0),
  (13, .bipush 27, 0, 0, nI 27, [], 0),
  (15, .if_icmp .gt 7, 11, 0, 0, [], 0),
  (18, .iconst 1, 0, 0, nI 1, [], 0),
  (19, .goto 4, 12, 0, 0, [], 0),
  (22, .iconst 0, 0, 0, nI 0, [], 0),
  (23, .istore_n 2, 0, 0, 0, [], 0),
  (24, .iload_n 1, 0, 0, 0, [], 0),
  (25, .bipush 10, 0, 0, nI 10, [], 0),
  (27, .if_icmp .eq 9, 19, 0, 0, [], 0),
  (30, .iload_n 1, 0, 0, 0, [], 0),
  (31, .bipush 11, 0, 0, nI 11, [], 0),
  (33, .if_icmp .ne 7, 21, 0, 0, [], 0),
  (36, .iconst 1, 0, 0, nI 1, [], 0),
  (37, .goto 4, 22, 0, 0, [], 0),
  (40, .iconst 0, 0, 0, nI 0, [], 0),
  (41, .istore_n 3, 0, 0, 0, [], 0),
  (42, .iload_n 0, 0, 0, 0, [], 0),
  (43, .tableswitch 196 0 9 #[53, 77, 87, 111, 121, 134, 139, 161, 174, 185], 106, 0, 0, [(nI 0, 25), (nI 1, 39), (nI 2, 45), (nI 3, 59), (nI 4, 65), (nI 5, 72), (nI 6, 75), (nI 7, 87), (nI 8, 94), (nI 9, 100)], 0),
  (96, .iload_n 1, 0, 0, 0, [], 0),
  (97, .bipush 19, 0, 0, nI 19, [], 0),
  (99, .if_icmp .eq 9, 31, 0, 0, [], 0),
  (102, .iload_n 1, 0, 0, 0, [], 0),
  (103, .bipush 15, 0, 0, nI 15, [], 0),
  (105, .if_icmp .ne 5, 33, 0, 0, [], 0),
  (108, .iconst 0, 0, 0, nI 0, [], 0),
  (109, .ireturn, 0, 0, 0, [], 0),
  (110, .iload_n 2, 0, 0, 0, [], 0),
  (111, .ifCond .eq 7, 37, 0, 0, [], 0),
  (114, .iconst 2, 0, 0, nI 2, [], 0),
  (115, .goto 4, 38, 0, 0, [], 0),
  (118, .iconst (-1), 0, 0, (-1), [], 0),
  (119, .ireturn, 0, 0, 0, [], 0),
  (120, .iload_n 2, 0, 0, 0, [], 0),
  (121, .ifCond .eq 7, 43, 0, 0, [], 0),
  (124, .iconst 2, 0, 0, nI 2, [], 0),
  (125, .goto 4, 44, 0, 0, [], 0),
  (128, .iconst (-1), 0, 0, (-1), [], 0),
  (129, .ireturn, 0, 0, 0, [], 0),
  (130, .iload_n 3, 0, 0, 0, [], 0),
  (131, .ifCond .eq 5, 49, 0, 0, [], 0),
  (134, .iconst 1, 0, 0, nI 1, [], 0),
  (135, .ireturn, 0, 0, 0, [], 0),
  (136, .iload_n 1, 0, 0, 0, [], 0),
  (137, .bipush 12, 0, 0, nI 12, [], 0),
  (139, .if_icmp .lt 13, 57, 0, 0, [], 0),
  (142, .iload_n 1, 0, 0, 0, [], 0),
  (143, .bipush 14, 0, 0, nI 14, [], 0),
  (145, .if_icmp .gt 7, 57, 0, 0, [], 0),
  (148, .iconst 3, 0, 0, nI 3, [], 0),
  (149, .goto 4, 58, 0, 0, [], 0),
  (152, .iconst (-1), 0, 0, (-1), [], 0),
  (153, .ireturn, 0, 0, 0, [], 0),
  (154, .iload_n 2, 0, 0, 0, [], 0),
  (155, .ifCond .eq 7, 63, 0, 0, [], 0),
  (158, .iconst 4, 0, 0, nI 4, [], 0),
  (159, .goto 4, 64, 0, 0, [], 0),
  (162, .iconst (-1), 0, 0, (-1), [], 0),
  (163, .ireturn, 0, 0, 0, [], 0),
  (164, .iload_n 3, 0, 0, 0, [], 0),
  (165, .ifCond .eq 7, 69, 0, 0, [], 0),
  (168, .iconst 3, 0, 0, nI 3, [], 0),
  (169, .goto 7, 71, 0, 0, [], 0),
  (172, .iload_n 1, 0, 0, 0, [], 0),
  (173, .invokestatic 47, 18, 0, 0, [], 703),
  (176, .ireturn, 0, 0, 0, [], 0),
  (177, .iload_n 1, 0, 0, 0, [], 0),
  (178, .invokestatic 47, 18, 0, 0, [], 703),
  (181, .ireturn, 0, 0, 0, [], 0),
  (182, .iload_n 1, 0, 0, 0, [], 0),
  (183, .bipush 23, 0, 0, nI 23, [], 0),
  (185, .if_icmp .ne 6, 80, 0, 0, [], 0),
  (188, .bipush 7, 0, 0, nI 7, [], 0),
  (190, .ireturn, 0, 0, 0, [], 0),
  (191, .iload_n 1, 0, 0, 0, [], 0),
  (192, .bipush 28, 0, 0, nI 28, [], 0),
  (194, .if_icmp .lt 8, 85, 0, 0, [], 0),
  (197, .bipush 10, 0, 0, nI 10, [], 0),
  (199, .goto 4, 86, 0, 0, [], 0),
  (202, .iconst (-1), 0, 0, (-1), [], 0),
  (203, .ireturn, 0, 0, 0, [], 0),
  (204, .iload_n 1, 0, 0, 0, [], 0),
  (205, .bipush 13, 0, 0, nI 13, [], 0),
  (207, .if_icmp .ne 8, 92, 0, 0, [], 0),
  (210, .bipush 8, 0, 0, nI 8, [], 0),
  (212, .goto 4, 93, 0, 0, [], 0),
  (215, .iconst (-1), 0, 0, (-1), [], 0),
  (216, .ireturn, 0, 0, 0, [], 0),
  (217, .iload_n 2, 0, 0, 0, [], 0),
  (218, .ifCond .eq 8, 98, 0, 0, [], 0),
  (221, .bipush 9, 0, 0, nI 9, [], 0),
  (223, .goto 4, 99, 0, 0, [], 0),
  (226, .iconst (-1), 0, 0, (-1), [], 0),
  (227, .ireturn, 0, 0, 0, [], 0),
  (228, .iload_n 3, 0, 0, 0, [], 0),
  (229, .ifCond .eq 8, 104, 0, 0, [], 0),
  (232, .bipush 8, 0, 0, nI 8, [], 0),
  (234, .goto 4, 105, 0, 0, [], 0),
  (237, .iconst (-1), 0, 0, (-1), [], 0),
  (238, .ireturn, 0, 0, 0, [], 0),
  (239, .iconst (-1), 0, 0, (-1), [], 0),
  (240, .ireturn, 0, 0, 0, [], 0)]
/-- BikeTown$Rules.compare([II[I)Z -/
def cd86 : List Ent := [(0, .aload_n 0, 0, 0, 0, [], 0),
  (1, .aload_n 1, 0, 0, 0, [], 0),
  (2, .iload_n 2, 0, 0, 0, [], 0),
  (3, .aload_n 3, 0, 0, 0, [], 0),
  (4, .invokevirtual 65, 21, 0, 0, [], 794),
  (7, .istore 4, 0, 0, 0, [], 0),
  (9, .aload_n 0, 0, 0, 0, [], 0),
  (10, .getfield 54, 6, 7, 0, [], 203),
  (13, .iload_n 2, 0, 0, 0, [], 0),
  (14, .if_icmp .ge 12, 15, 0, 0, [], 0),
  (17, .aload_n 1, 0, 0, 0, [], 0),
  (18, .aload_n 0, 0, 0, 0, [], 0),
  (19, .getfield 54, 6, 7, 0, [], 203),
  (22, .iaload, 0, 0, 0, [], 0),
  (23, .goto 5, 16, 0, 0, [], 0),
  (26, .bipush 13, 0, 0, nI 13, [], 0),
  (28, .istore 5, 0, 0, 0, [], 0),
  (30, .aload_n 0, 0, 0, 0, [], 0),
  (31, .dup, 0, 0, 0, [], 0),
  (32, .getfield 54, 6, 7, 0, [], 203),
  (35, .iconst 1, 0, 0, nI 1, [], 0),
  (36, .iadd, 0, 0, 0, [], 0),
  (37, .putfield 54, 6, 7, 0, [], 203),
  (40, .aload_n 0, 0, 0, 0, [], 0),
  (41, .aload_n 1, 0, 0, 0, [], 0),
  (42, .iload_n 2, 0, 0, 0, [], 0),
  (43, .aload_n 3, 0, 0, 0, [], 0),
  (44, .invokevirtual 65, 21, 0, 0, [], 794),
  (47, .istore 6, 0, 0, 0, [], 0),
  (49, .iload 5, 0, 0, 0, [], 0),
  (51, .bipush 12, 0, 0, nI 12, [], 0),
  (53, .if_icmp .ne 16, 39, 0, 0, [], 0),
  (56, .iload 4, 0, 0, 0, [], 0),
  (58, .iload 6, 0, 0, 0, [], 0),
  (60, .if_icmp .ge 7, 37, 0, 0, [], 0),
  (63, .iconst 1, 0, 0, nI 1, [], 0),
  (64, .goto 4, 38, 0, 0, [], 0),
  (67, .iconst 0, 0, 0, nI 0, [], 0),
  (68, .ireturn, 0, 0, 0, [], 0),
  (69, .iload 5, 0, 0, 0, [], 0),
  (71, .bipush 13, 0, 0, nI 13, [], 0),
  (73, .if_icmp .ne 18, 49, 0, 0, [], 0),
  (76, .iload 4, 0, 0, 0, [], 0),
  (78, .iload 6, 0, 0, 0, [], 0),
  (80, .if_icmp .ne 7, 47, 0, 0, [], 0),
  (83, .iconst 1, 0, 0, nI 1, [], 0),
  (84, .goto 19, 55, 0, 0, [], 0),
  (87, .iconst 0, 0, 0, nI 0, [], 0),
  (88, .goto 15, 55, 0, 0, [], 0),
  (91, .iload 4, 0, 0, 0, [], 0),
  (93, .iload 6, 0, 0, 0, [], 0),
  (95, .if_icmp .le 7, 54, 0, 0, [], 0),
  (98, .iconst 1, 0, 0, nI 1, [], 0),
  (99, .goto 4, 55, 0, 0, [], 0),
  (102, .iconst 0, 0, 0, nI 0, [], 0),
  (103, .ireturn, 0, 0, 0, [], 0)]
/-- BikeTown$Rules.newPrice(I[I)I -/
def cd87 : List Ent := [(0, .aload_n 0, 0, 0, 0, [], 0),
  (1, .aload_n 0, 0, 0, 0, [], 0),
  (2, .getfield 23, 6, 5, 0, [], 199),
  (5, .iload_n 1, 0, 0, 0, [], 0),
  (6, .iaload, 0, 0, 0, [], 0),
  (7, .iconst 3, 0, 0, nI 3, [], 0),
  (8, .iadd, 0, 0, 0, [], 0),
  (9, .putfield 54, 6, 7, 0, [], 203),
  (12, .aload_n 0, 0, 0, 0, [], 0),
  (13, .aload_n 0, 0, 0, 0, [], 0),
  (14, .getfield 17, 6, 3, 0, [], 197),
  (17, .iload_n 1, 0, 0, 0, [], 0),
  (18, .aaload, 0, 0, 0, [], 0),
  (19, .aload_n 0, 0, 0, 0, [], 0),
  (20, .getfield 20, 6, 4, 0, [], 198),
  (23, .iload_n 1, 0, 0, 0, [], 0),
  (24, .iaload, 0, 0, 0, [], 0),
  (25, .aload_n 2, 0, 0, 0, [], 0),
  (26, .invokevirtual 65, 21, 0, 0, [], 794),
  (29, .istore_n 3, 0, 0, 0, [], 0),
  (30, .iconst 0, 0, 0, nI 0, [], 0),
  (31, .bipush 99, 0, 0, nI 99, [], 0),
  (33, .iload_n 3, 0, 0, 0, [], 0),
  (34, .invokestatic 69, 0, 3, 0, [], 806),
  (37, .invokestatic 74, 0, 2, 0, [], 807),
  (40, .ireturn, 0, 0, 0, [], 0)]
/-- BikeTown$Sites.measure(III)I -/
def cd88 : List Ent := [(0, .aload_n 0, 0, 0, 0, [], 0),
  (1, .getfield 16, 7, 4, 0, [], 479),
  (4, .iload_n 1, 0, 0, 0, [], 0),
  (5, .iaload, 0, 0, 0, [], 0),
  (6, .iload_n 2, 0, 0, 0, [], 0),
  (7, .isub, 0, 0, 0, [], 0),
  (8, .invokestatic 56, 0, 1, 0, [], 1113),
  (11, .aload_n 0, 0, 0, 0, [], 0),
  (12, .getfield 19, 7, 5, 0, [], 480),
  (15, .iload_n 1, 0, 0, 0, [], 0),
  (16, .iaload, 0, 0, 0, [], 0),
  (17, .iload_n 3, 0, 0, 0, [], 0),
  (18, .isub, 0, 0, 0, [], 0),
  (19, .invokestatic 56, 0, 1, 0, [], 1113),
  (22, .iadd, 0, 0, 0, [], 0),
  (23, .ireturn, 0, 0, 0, [], 0)]
/-- BikeTown$Told.minutesBetween(II)I -/
def cd89 : List Ent := [(0, .iconst 1, 0, 0, nI 1, [], 0),
  (1, .aload_n 0, 0, 0, 0, [], 0),
  (2, .getfield 18, 8, 5, 0, [], 128),
  (5, .iload_n 1, 0, 0, 0, [], 0),
  (6, .iaload, 0, 0, 0, [], 0),
  (7, .aload_n 0, 0, 0, 0, [], 0),
  (8, .getfield 18, 8, 5, 0, [], 128),
  (11, .iload_n 2, 0, 0, 0, [], 0),
  (12, .iaload, 0, 0, 0, [], 0),
  (13, .isub, 0, 0, 0, [], 0),
  (14, .invokestatic 64, 0, 1, 0, [], 759),
  (17, .aload_n 0, 0, 0, 0, [], 0),
  (18, .getfield 22, 8, 6, 0, [], 130),
  (21, .iload_n 1, 0, 0, 0, [], 0),
  (22, .iaload, 0, 0, 0, [], 0),
  (23, .aload_n 0, 0, 0, 0, [], 0),
  (24, .getfield 22, 8, 6, 0, [], 130),
  (27, .iload_n 2, 0, 0, 0, [], 0),
  (28, .iaload, 0, 0, 0, [], 0),
  (29, .isub, 0, 0, 0, [], 0),
  (30, .invokestatic 64, 0, 1, 0, [], 759),
  (33, .iadd, 0, 0, 0, [], 0),
  (34, .bipush 10, 0, 0, nI 10, [], 0),
  (36, .idiv, 0, 0, 0, [], 0),
  (37, .iadd, 0, 0, 0, [], 0),
  (38, .ireturn, 0, 0, 0, [], 0)]
/-- BikeTown$Trials.leastScore(I)I -/
def cd90 : List Ent := [(0, .aload_n 0, 0, 0, 0, [], 0),
  (1, .iconst 0, 0, 0, nI 0, [], 0),
  (2, .iconst 0, 0, 0, nI 0, [], 0),
  (3, .invokevirtual 21, 32, 0, 0, [], 1146),
  (6, .istore_n 2, 0, 0, 0, [], 0),
  (7, .iconst 0, 0, 0, nI 0, [], 0),
  (8, .istore_n 3, 0, 0, 0, [], 0),
  (9, .iload_n 3, 0, 0, 0, [], 0),
  (10, .bipush 101, 0, 0, nI 101, [], 0),
  (12, .if_icmp .ge 27, 24, 0, 0, [], 0),
  (15, .sipush 1000, 0, 0, nI 1000, [], 0),
  (18, .aload_n 0, 0, 0, 0, [], 0),
  (19, .iload_n 3, 0, 0, 0, [], 0),
  (20, .iconst 0, 0, 0, nI 0, [], 0),
  (21, .invokevirtual 21, 32, 0, 0, [], 1146),
  (24, .imul, 0, 0, 0, [], 0),
  (25, .iload_n 1, 0, 0, 0, [], 0),
  (26, .iload_n 2, 0, 0, 0, [], 0),
  (27, .imul, 0, 0, 0, [], 0),
  (28, .if_icmp .gt 5, 22, 0, 0, [], 0),
  (31, .iload_n 3, 0, 0, 0, [], 0),
  (32, .ireturn, 0, 0, 0, [], 0),
  (33, .iinc 3 1, 0, 0, nI 1, [], 0),
  (36, .goto (-27), 7, 0, 0, [], 0),
  (39, .bipush 101, 0, 0, nI 101, [], 0),
  (41, .ireturn, 0, 0, 0, [], 0)]
/-- BikeTown.post(III)I -/
def cd91 : List Ent := [(0, .iload_n 1, 0, 0, 0, [], 0),
  (1, .iconst 0, 0, 0, nI 0, [], 0),
  (2, .bipush 100, 0, 0, nI 100, [], 0),
  (4, .invokestatic 77, 39, 0, 0, [], 552),
  (7, .ifCond .eq 23, 15, 0, 0, [], 0),
  (10, .iload_n 2, 0, 0, 0, [], 0),
  (11, .iconst 0, 0, 0, nI 0, [], 0),
  (12, .bipush 100, 0, 0, nI 100, [], 0),
  (14, .invokestatic 77, 39, 0, 0, [], 552),
  (17, .ifCond .eq 13, 15, 0, 0, [], 0),
  (20, .iload_n 3, 0, 0, 0, [], 0),
  (21, .iconst 1, 0, 0, nI 1, [], 0),
  (22, .bipush 20, 0, 0, nI 20, [], 0),
  (24, .invokestatic 77, 39, 0, 0, [], 552),
  (27, .ifCond .ne 6, 17, 0, 0, [], 0),
  (30, .bipush (-2), 0, 0, (-2), [], 0),
  (32, .ireturn, 0, 0, 0, [], 0),
  (33, .aload_n 0, 0, 0, 0, [], 0),
  (34, .invokevirtual 81, 38, 0, 0, [], 555),
  (37, .ifCond .eq 6, 22, 0, 0, [], 0),
  (40, .bipush (-3), 0, 0, (-3), [], 0),
  (42, .ireturn, 0, 0, 0, [], 0),
  (43, .aload_n 0, 0, 0, 0, [], 0),
  (44, .getfield 13, 11, 0, 0, [], 517),
  (47, .getfield 85, 8, 0, 0, [], 114),
  (50, .bipush 12, 0, 0, nI 12, [], 0),
  (52, .if_icmp .lt 6, 29, 0, 0, [], 0),
  (55, .bipush (-4), 0, 0, (-4), [], 0),
  (57, .ireturn, 0, 0, 0, [], 0),
  (58, .aload_n 0, 0, 0, 0, [], 0),
  (59, .getfield 13, 11, 0, 0, [], 517),
  (62, .iload_n 1, 0, 0, 0, [], 0),
  (63, .iload_n 2, 0, 0, 0, [], 0),
  (64, .iload_n 3, 0, 0, 0, [], 0),
  (65, .invokevirtual 89, 27, 0, 0, [], 559),
  (68, .istore 4, 0, 0, 0, [], 0),
  (70, .aload_n 0, 0, 0, 0, [], 0),
  (71, .getfield 35, 11, 3, 0, [], 520),
  (74, .iload 4, 0, 0, 0, [], 0),
  (76, .invokevirtual 93, 0, 0, 0, [], 563),
  (79, .iload 4, 0, 0, 0, [], 0),
  (81, .ireturn, 0, 0, 0, [], 0)]
/-- BikeTown.kind(III)I -/
def cd92 : List Ent := [(0, .iload_n 1, 0, 0, 0, [], 0),
  (1, .iconst 0, 0, 0, nI 0, [], 0),
  (2, .iconst 3, 0, 0, nI 3, [], 0),
  (3, .invokestatic 77, 39, 0, 0, [], 552),
  (6, .ifCond .eq 23, 15, 0, 0, [], 0),
  (9, .iload_n 2, 0, 0, 0, [], 0),
  (10, .iconst 0, 0, 0, nI 0, [], 0),
  (11, .bipush 99, 0, 0, nI 99, [], 0),
  (13, .invokestatic 77, 39, 0, 0, [], 552),
  (16, .ifCond .eq 13, 15, 0, 0, [], 0),
  (19, .iload_n 3, 0, 0, 0, [], 0),
  (20, .iconst 0, 0, 0, nI 0, [], 0),
  (21, .bipush 60, 0, 0, nI 60, [], 0),
  (23, .invokestatic 77, 39, 0, 0, [], 552),
  (26, .ifCond .ne 6, 17, 0, 0, [], 0),
  (29, .bipush (-2), 0, 0, (-2), [], 0),
  (31, .ireturn, 0, 0, 0, [], 0),
  (32, .aload_n 0, 0, 0, 0, [], 0),
  (33, .getfield 13, 11, 0, 0, [], 517),
  (36, .getfield 114, 8, 13, 0, [], 145),
  (39, .iload_n 1, 0, 0, 0, [], 0),
  (40, .iload_n 2, 0, 0, 0, [], 0),
  (41, .iastore, 0, 0, 0, [], 0),
  (42, .aload_n 0, 0, 0, 0, [], 0),
  (43, .getfield 13, 11, 0, 0, [], 517),
  (46, .getfield 118, 8, 14, 0, [], 148),
  (49, .iload_n 1, 0, 0, 0, [], 0),
  (50, .iload_n 3, 0, 0, 0, [], 0),
  (51, .iastore, 0, 0, 0, [], 0),
  (52, .iconst 1, 0, 0, nI 1, [], 0),
  (53, .ireturn, 0, 0, 0, [], 0)]
/-- BikeTown.rider(IIII)I -/
def cd93 : List Ent := [(0, .iload_n 1, 0, 0, 0, [], 0),
  (1, .iconst 0, 0, 0, nI 0, [], 0),
  (2, .sipush 1439, 0, 0, nI 1439, [], 0),
  (5, .invokestatic 77, 39, 0, 0, [], 552),
  (8, .ifCond .eq 13, 10, 0, 0, [], 0),
  (11, .iload 4, 0, 0, 0, [], 0),
  (13, .iconst 0, 0, 0, nI 0, [], 0),
  (14, .iconst 3, 0, 0, nI 3, [], 0),
  (15, .invokestatic 77, 39, 0, 0, [], 552),
  (18, .ifCond .ne 6, 12, 0, 0, [], 0),
  (21, .bipush (-2), 0, 0, (-2), [], 0),
  (23, .ireturn, 0, 0, 0, [], 0),
  (24, .aload_n 0, 0, 0, 0, [], 0),
  (25, .getfield 13, 11, 0, 0, [], 517),
  (28, .iload_n 2, 0, 0, 0, [], 0),
  (29, .invokevirtual 97, 25, 0, 0, [], 571),
  (32, .ifCond .eq 19, 25, 0, 0, [], 0),
  (35, .aload_n 0, 0, 0, 0, [], 0),
  (36, .getfield 13, 11, 0, 0, [], 517),
  (39, .iload_n 3, 0, 0, 0, [], 0),
  (40, .invokevirtual 97, 25, 0, 0, [], 571),
  (43, .ifCond .eq 8, 25, 0, 0, [], 0),
  (46, .iload_n 2, 0, 0, 0, [], 0),
  (47, .iload_n 3, 0, 0, 0, [], 0),
  (48, .if_icmp .ne 6, 27, 0, 0, [], 0),
  (51, .bipush (-2), 0, 0, (-2), [], 0),
  (53, .ireturn, 0, 0, 0, [], 0),
  (54, .iload_n 1, 0, 0, 0, [], 0),
  (55, .aload_n 0, 0, 0, 0, [], 0),
  (56, .getfield 35, 11, 3, 0, [], 520),
  (59, .getfield 121, 0, 4, 0, [], 362),
  (62, .if_icmp .ge 6, 34, 0, 0, [], 0),
  (65, .bipush (-3), 0, 0, (-3), [], 0),
  (67, .ireturn, 0, 0, 0, [], 0),
  (68, .aload_n 0, 0, 0, 0, [], 0),
  (69, .getfield 13, 11, 0, 0, [], 517),
  (72, .getfield 124, 8, 2, 0, [], 120),
  (75, .sipush 200, 0, 0, nI 200, [], 0),
  (78, .if_icmp .lt 6, 41, 0, 0, [], 0),
  (81, .bipush (-4), 0, 0, (-4), [], 0),
  (83, .ireturn, 0, 0, 0, [], 0),
  (84, .aload_n 0, 0, 0, 0, [], 0),
  (85, .getfield 13, 11, 0, 0, [], 517),
  (88, .iload_n 1, 0, 0, 0, [], 0),
  (89, .iload_n 2, 0, 0, 0, [], 0),
  (90, .iload_n 3, 0, 0, 0, [], 0),
  (91, .iload 4, 0, 0, 0, [], 0),
  (93, .invokevirtual 127, 29, 0, 0, [], 599),
  (96, .istore 5, 0, 0, 0, [], 0),
  (98, .aload_n 0, 0, 0, 0, [], 0),
  (99, .getfield 35, 11, 3, 0, [], 520),
  (102, .iload 5, 0, 0, 0, [], 0),
  (104, .invokevirtual 131, 1, 0, 0, [], 603),
  (107, .iload 5, 0, 0, 0, [], 0),
  (109, .ireturn, 0, 0, 0, [], 0)]
/-- BikeTown.shop(II)I -/
def cd94 : List Ent := [(0, .iload_n 1, 0, 0, 0, [], 0),
  (1, .iconst 1, 0, 0, nI 1, [], 0),
  (2, .sipush 600, 0, 0, nI 600, [], 0),
  (5, .invokestatic 77, 39, 0, 0, [], 552),
  (8, .ifCond .eq 14, 10, 0, 0, [], 0),
  (11, .iload_n 2, 0, 0, 0, [], 0),
  (12, .iconst 1, 0, 0, nI 1, [], 0),
  (13, .sipush 5000, 0, 0, nI 5000, [], 0),
  (16, .invokestatic 77, 39, 0, 0, [], 552),
  (19, .ifCond .ne 6, 12, 0, 0, [], 0),
  (22, .bipush (-2), 0, 0, (-2), [], 0),
  (24, .ireturn, 0, 0, 0, [], 0),
  (25, .aload_n 0, 0, 0, 0, [], 0),
  (26, .getfield 13, 11, 0, 0, [], 517),
  (29, .iload_n 1, 0, 0, 0, [], 0),
  (30, .putfield 134, 8, 3, 0, [], 123),
  (33, .aload_n 0, 0, 0, 0, [], 0),
  (34, .getfield 13, 11, 0, 0, [], 517),
  (37, .iload_n 2, 0, 0, 0, [], 0),
  (38, .putfield 137, 8, 4, 0, [], 126),
  (41, .iconst 1, 0, 0, nI 1, [], 0),
  (42, .ireturn, 0, 0, 0, [], 0)]
/-- BikeTown.say(I)I -/
def cd95 : List Ent := [(0, .iload_n 1, 0, 0, 0, [], 0),
  (1, .iconst 0, 0, 0, nI 0, [], 0),
  (2, .bipush 30, 0, 0, nI 30, [], 0),
  (4, .invokestatic 77, 39, 0, 0, [], 552),
  (7, .ifCond .ne 6, 7, 0, 0, [], 0),
  (10, .bipush (-2), 0, 0, (-2), [], 0),
  (12, .ireturn, 0, 0, 0, [], 0),
  (13, .aload_n 0, 0, 0, 0, [], 0),
  (14, .getfield 19, 11, 1, 0, [], 518),
  (17, .getfield 176, 6, 1, 0, [], 193),
  (20, .bipush 40, 0, 0, nI 40, [], 0),
  (22, .if_icmp .lt 6, 14, 0, 0, [], 0),
  (25, .bipush (-4), 0, 0, (-4), [], 0),
  (27, .ireturn, 0, 0, 0, [], 0),
  (28, .aload_n 0, 0, 0, 0, [], 0),
  (29, .getfield 19, 11, 1, 0, [], 518),
  (32, .getfield 179, 6, 0, 0, [], 191),
  (35, .aload_n 0, 0, 0, 0, [], 0),
  (36, .getfield 19, 11, 1, 0, [], 518),
  (39, .getfield 176, 6, 1, 0, [], 193),
  (42, .iload_n 1, 0, 0, 0, [], 0),
  (43, .iastore, 0, 0, 0, [], 0),
  (44, .aload_n 0, 0, 0, 0, [], 0),
  (45, .getfield 19, 11, 1, 0, [], 518),
  (48, .dup, 0, 0, 0, [], 0),
  (49, .getfield 176, 6, 1, 0, [], 193),
  (52, .iconst 1, 0, 0, nI 1, [], 0),
  (53, .iadd, 0, 0, 0, [], 0),
  (54, .putfield 176, 6, 1, 0, [], 193),
  (57, .aload_n 0, 0, 0, 0, [], 0),
  (58, .getfield 19, 11, 1, 0, [], 518),
  (61, .getfield 176, 6, 1, 0, [], 193),
  (64, .ireturn, 0, 0, 0, [], 0)]
/-- BikeTown.off(IZ)I -/
def cd96 : List Ent := [(0, .iload_n 1, 0, 0, 0, [], 0),
  (1, .iconst 0, 0, 0, nI 0, [], 0),
  (2, .aload_n 0, 0, 0, 0, [], 0),
  (3, .getfield 19, 11, 1, 0, [], 518),
  (6, .getfield 186, 6, 2, 0, [], 195),
  (9, .iconst 1, 0, 0, nI 1, [], 0),
  (10, .isub, 0, 0, 0, [], 0),
  (11, .invokestatic 77, 39, 0, 0, [], 552),
  (14, .ifCond .ne 6, 11, 0, 0, [], 0),
  (17, .bipush (-2), 0, 0, (-2), [], 0),
  (19, .ireturn, 0, 0, 0, [], 0),
  (20, .aload_n 0, 0, 0, 0, [], 0),
  (21, .getfield 19, 11, 1, 0, [], 518),
  (24, .getfield 190, 6, 6, 0, [], 201),
  (27, .iload_n 1, 0, 0, 0, [], 0),
  (28, .baload, 0, 0, 0, [], 0),
  (29, .iload_n 2, 0, 0, 0, [], 0),
  (30, .if_icmp .ne 6, 20, 0, 0, [], 0),
  (33, .bipush (-3), 0, 0, (-3), [], 0),
  (35, .ireturn, 0, 0, 0, [], 0),
  (36, .aload_n 0, 0, 0, 0, [], 0),
  (37, .getfield 19, 11, 1, 0, [], 518),
  (40, .getfield 190, 6, 6, 0, [], 201),
  (43, .iload_n 1, 0, 0, 0, [], 0),
  (44, .iload_n 2, 0, 0, 0, [], 0),
  (45, .bastore, 0, 0, 0, [], 0),
  (46, .iconst 1, 0, 0, nI 1, [], 0),
  (47, .ireturn, 0, 0, 0, [], 0)]
/-- BikeTown.bikeAt(II)I -/
def cd97 : List Ent := [(0, .aload_n 0, 0, 0, 0, [], 0),
  (1, .getfield 13, 11, 0, 0, [], 517),
  (4, .iload_n 1, 0, 0, 0, [], 0),
  (5, .invokevirtual 153, 26, 0, 0, [], 668),
  (8, .ifCond .eq 12, 10, 0, 0, [], 0),
  (11, .iload_n 2, 0, 0, 0, [], 0),
  (12, .iconst 0, 0, 0, nI 0, [], 0),
  (13, .iconst 3, 0, 0, nI 3, [], 0),
  (14, .invokestatic 77, 39, 0, 0, [], 552),
  (17, .ifCond .ne 6, 12, 0, 0, [], 0),
  (20, .bipush (-2), 0, 0, (-2), [], 0),
  (22, .ireturn, 0, 0, 0, [], 0),
  (23, .aload_n 0, 0, 0, 0, [], 0),
  (24, .getfield 35, 11, 3, 0, [], 520),
  (27, .getfield 215, 0, 11, 0, [], 372),
  (30, .iload_n 2, 0, 0, 0, [], 0),
  (31, .aaload, 0, 0, 0, [], 0),
  (32, .iload_n 1, 0, 0, 0, [], 0),
  (33, .iaload, 0, 0, 0, [], 0),
  (34, .ireturn, 0, 0, 0, [], 0)]
/-- BikeTown.riderAt(II)I -/
def cd98 : List Ent := [(0, .iload_n 1, 0, 0, 0, [], 0),
  (1, .iconst 0, 0, 0, nI 0, [], 0),
  (2, .aload_n 0, 0, 0, 0, [], 0),
  (3, .getfield 13, 11, 0, 0, [], 517),
  (6, .getfield 124, 8, 2, 0, [], 120),
  (9, .iconst 1, 0, 0, nI 1, [], 0),
  (10, .isub, 0, 0, 0, [], 0),
  (11, .invokestatic 77, 39, 0, 0, [], 552),
  (14, .ifCond .eq 12, 14, 0, 0, [], 0),
  (17, .iload_n 2, 0, 0, 0, [], 0),
  (18, .iconst 0, 0, 0, nI 0, [], 0),
  (19, .iconst 5, 0, 0, nI 5, [], 0),
  (20, .invokestatic 77, 39, 0, 0, [], 552),
  (23, .ifCond .ne 6, 16, 0, 0, [], 0),
  (26, .bipush (-2), 0, 0, (-2), [], 0),
  (28, .ireturn, 0, 0, 0, [], 0),
  (29, .aload_n 0, 0, 0, 0, [], 0),
  (30, .getfield 35, 11, 3, 0, [], 520),
  (33, .getfield 222, 0, 13, 0, [], 375),
  (36, .iload_n 2, 0, 0, 0, [], 0),
  (37, .aaload, 0, 0, 0, [], 0),
  (38, .iload_n 1, 0, 0, 0, [], 0),
  (39, .iaload, 0, 0, 0, [], 0),
  (40, .ireturn, 0, 0, 0, [], 0)]
/-- BikeTown.log(II)I -/
def cd99 : List Ent := [(0, .iload_n 1, 0, 0, 0, [], 0),
  (1, .ifCond .lt 12, 7, 0, 0, [], 0),
  (4, .iload_n 2, 0, 0, 0, [], 0),
  (5, .iconst 0, 0, 0, nI 0, [], 0),
  (6, .iconst 4, 0, 0, nI 4, [], 0),
  (7, .invokestatic 77, 39, 0, 0, [], 552),
  (10, .ifCond .ne 6, 9, 0, 0, [], 0),
  (13, .bipush (-2), 0, 0, (-2), [], 0),
  (15, .ireturn, 0, 0, 0, [], 0),
  (16, .iload_n 1, 0, 0, 0, [], 0),
  (17, .aload_n 0, 0, 0, 0, [], 0),
  (18, .getfield 35, 11, 3, 0, [], 520),
  (21, .getfield 204, 0, 2, 0, [], 358),
  (24, .getfield 237, 2, 1, 0, [], 318),
  (27, .if_icmp .ge 20, 24, 0, 0, [], 0),
  (30, .aload_n 0, 0, 0, 0, [], 0),
  (31, .getfield 35, 11, 3, 0, [], 520),
  (34, .getfield 204, 0, 2, 0, [], 358),
  (37, .getfield 242, 2, 3, 0, [], 322),
  (40, .iload_n 2, 0, 0, 0, [], 0),
  (41, .aaload, 0, 0, 0, [], 0),
  (42, .iload_n 1, 0, 0, 0, [], 0),
  (43, .iaload, 0, 0, 0, [], 0),
  (44, .goto 4, 25, 0, 0, [], 0),
  (47, .iconst (-1), 0, 0, (-1), [], 0),
  (48, .ireturn, 0, 0, 0, [], 0)]
/-- BikeTown.ends(III)I -/
def cd100 : List Ent := [(0, .aload_n 0, 0, 0, 0, [], 0),
  (1, .getfield 13, 11, 0, 0, [], 517),
  (4, .iload_n 1, 0, 0, 0, [], 0),
  (5, .invokevirtual 97, 25, 0, 0, [], 571),
  (8, .ifCond .eq 22, 15, 0, 0, [], 0),
  (11, .iload_n 2, 0, 0, 0, [], 0),
  (12, .iconst 0, 0, 0, nI 0, [], 0),
  (13, .bipush 23, 0, 0, nI 23, [], 0),
  (15, .invokestatic 77, 39, 0, 0, [], 552),
  (18, .ifCond .eq 12, 15, 0, 0, [], 0),
  (21, .iload_n 3, 0, 0, 0, [], 0),
  (22, .iconst 0, 0, 0, nI 0, [], 0),
  (23, .iconst 1, 0, 0, nI 1, [], 0),
  (24, .invokestatic 77, 39, 0, 0, [], 552),
  (27, .ifCond .ne 6, 17, 0, 0, [], 0),
  (30, .bipush (-2), 0, 0, (-2), [], 0),
  (32, .ireturn, 0, 0, 0, [], 0),
  (33, .aload_n 0, 0, 0, 0, [], 0),
  (34, .getfield 35, 11, 3, 0, [], 520),
  (37, .getfield 204, 0, 2, 0, [], 358),
  (40, .getfield 251, 2, 4, 0, [], 326),
  (43, .iload_n 1, 0, 0, 0, [], 0),
  (44, .aaload, 0, 0, 0, [], 0),
  (45, .iload_n 2, 0, 0, 0, [], 0),
  (46, .iaload, 0, 0, 0, [], 0),
  (47, .aload_n 0, 0, 0, 0, [], 0),
  (48, .getfield 35, 11, 3, 0, [], 520),
  (51, .getfield 204, 0, 2, 0, [], 358),
  (54, .getfield 254, 2, 5, 0, [], 329),
  (57, .iload_n 1, 0, 0, 0, [], 0),
  (58, .aaload, 0, 0, 0, [], 0),
  (59, .iload_n 2, 0, 0, 0, [], 0),
  (60, .iaload, 0, 0, 0, [], 0),
  (61, .iadd, 0, 0, 0, [], 0),
  (62, .istore 4, 0, 0, 0, [], 0),
  (64, .iload 4, 0, 0, 0, [], 0),
  (66, .aload_n 0, 0, 0, 0, [], 0),
  (67, .getfield 35, 11, 3, 0, [], 520),
  (70, .getfield 204, 0, 2, 0, [], 358),
  (73, .getfield 257, 2, 6, 0, [], 332),
  (76, .iload_n 1, 0, 0, 0, [], 0),
  (77, .aaload, 0, 0, 0, [], 0),
  (78, .iload_n 2, 0, 0, 0, [], 0),
  (79, .iaload, 0, 0, 0, [], 0),
  (80, .iconst 1, 0, 0, nI 1, [], 0),
  (81, .aload_n 0, 0, 0, 0, [], 0),
  (82, .getfield 35, 11, 3, 0, [], 520),
  (85, .getfield 204, 0, 2, 0, [], 358),
  (88, .getfield 260, 2, 7, 0, [], 334),
  (91, .iload_n 1, 0, 0, 0, [], 0),
  (92, .aaload, 0, 0, 0, [], 0),
  (93, .iload_n 2, 0, 0, 0, [], 0),
  (94, .iaload, 0, 0, 0, [], 0),
  (95, .invokestatic 263, 0, 2, 0, [], 947),
  (98, .imul, 0, 0, 0, [], 0),
  (99, .iadd, 0, 0, 0, [], 0),
  (100, .istore 5, 0, 0, 0, [], 0),
  (102, .iload_n 3, 0, 0, 0, [], 0),
  (103, .ifCond .ne 8, 61, 0, 0, [], 0),
  (106, .iload 4, 0, 0, 0, [], 0),
  (108, .goto 5, 62, 0, 0, [], 0),
  (111, .iload 5, 0, 0, 0, [], 0),
  (113, .ireturn, 0, 0, 0, [], 0)]
/-- BikeTown.sumOver([[I)I -/
def cd101 : List Ent := [(0, .iconst 0, 0, 0, nI 0, [], 0),
  (1, .istore_n 2, 0, 0, 0, [], 0),
  (2, .iconst 0, 0, 0, nI 0, [], 0),
  (3, .istore_n 3, 0, 0, 0, [], 0),
  (4, .iload_n 3, 0, 0, 0, [], 0),
  (5, .aload_n 0, 0, 0, 0, [], 0),
  (6, .getfield 13, 11, 0, 0, [], 517),
  (9, .getfield 85, 8, 0, 0, [], 114),
  (12, .if_icmp .ge 18, 18, 0, 0, [], 0),
  (15, .iload_n 2, 0, 0, 0, [], 0),
  (16, .aload_n 1, 0, 0, 0, [], 0),
  (17, .iload_n 3, 0, 0, 0, [], 0),
  (18, .aaload, 0, 0, 0, [], 0),
  (19, .invokestatic 283, 10, 0, 0, [], 978),
  (22, .iadd, 0, 0, 0, [], 0),
  (23, .istore_n 2, 0, 0, 0, [], 0),
  (24, .iinc 3 1, 0, 0, nI 1, [], 0),
  (27, .goto (-23), 4, 0, 0, [], 0),
  (30, .iload_n 2, 0, 0, 0, [], 0),
  (31, .ireturn, 0, 0, 0, [], 0)]
/-- BikeTown.want(II)I -/
def cd102 : List Ent := [(0, .aload_n 0, 0, 0, 0, [], 0),
  (1, .getfield 13, 11, 0, 0, [], 517),
  (4, .iload_n 1, 0, 0, 0, [], 0),
  (5, .invokevirtual 97, 25, 0, 0, [], 571),
  (8, .ifCond .eq 14, 10, 0, 0, [], 0),
  (11, .iload_n 2, 0, 0, 0, [], 0),
  (12, .bipush (-12), 0, 0, (-12), [], 0),
  (14, .bipush 12, 0, 0, nI 12, [], 0),
  (16, .invokestatic 77, 39, 0, 0, [], 552),
  (19, .ifCond .ne 6, 12, 0, 0, [], 0),
  (22, .bipush (-100), 0, 0, (-100), [], 0),
  (24, .ireturn, 0, 0, 0, [], 0),
  (25, .aload_n 0, 0, 0, 0, [], 0),
  (26, .getfield 52, 11, 6, 0, [], 523),
  (29, .getfield 287, 5, 0, 0, [], 436),
  (32, .iload_n 1, 0, 0, 0, [], 0),
  (33, .iaload, 0, 0, 0, [], 0),
  (34, .istore_n 3, 0, 0, 0, [], 0),
  (35, .aload_n 0, 0, 0, 0, [], 0),
  (36, .getfield 52, 11, 6, 0, [], 523),
  (39, .getfield 287, 5, 0, 0, [], 436),
  (42, .iload_n 1, 0, 0, 0, [], 0),
  (43, .iload_n 2, 0, 0, 0, [], 0),
  (44, .iastore, 0, 0, 0, [], 0),
  (45, .iload_n 3, 0, 0, 0, [], 0),
  (46, .ireturn, 0, 0, 0, [], 0)]
/-- BikeTown.gain(IIII)I -/
def cd103 : List Ent := [(0, .iload_n 1, 0, 0, 0, [], 0),
  (1, .iconst 0, 0, 0, nI 0, [], 0),
  (2, .iconst 1, 0, 0, nI 1, [], 0),
  (3, .invokestatic 77, 39, 0, 0, [], 552),
  (6, .ifCond .eq 31, 16, 0, 0, [], 0),
  (9, .iload_n 2, 0, 0, 0, [], 0),
  (10, .invokestatic 301, 12, 0, 0, [], 1041),
  (13, .ifCond .eq 24, 16, 0, 0, [], 0),
  (16, .iload_n 3, 0, 0, 0, [], 0),
  (17, .invokestatic 301, 12, 0, 0, [], 1041),
  (20, .ifCond .eq 17, 16, 0, 0, [], 0),
  (23, .iload 4, 0, 0, 0, [], 0),
  (25, .sipush (-10000), 0, 0, (-10000), [], 0),
  (28, .sipush 10000, 0, 0, nI 10000, [], 0),
  (31, .invokestatic 77, 39, 0, 0, [], 552),
  (34, .ifCond .ne 7, 18, 0, 0, [], 0),
  (37, .ldc_w 304, 0, 0, (-100000), [], 1044),
  (40, .ireturn, 0, 0, 0, [], 0),
  (41, .aload_n 0, 0, 0, 0, [], 0),
  (42, .getfield 59, 11, 7, 0, [], 524),
  (45, .getfield 305, 4, 0, 0, [], 460),
  (48, .iload_n 1, 0, 0, 0, [], 0),
  (49, .aaload, 0, 0, 0, [], 0),
  (50, .iload_n 2, 0, 0, 0, [], 0),
  (51, .iload_n 3, 0, 0, 0, [], 0),
  (52, .invokestatic 308, 13, 0, 0, [], 1045),
  (55, .iaload, 0, 0, 0, [], 0),
  (56, .istore 5, 0, 0, 0, [], 0),
  (58, .aload_n 0, 0, 0, 0, [], 0),
  (59, .getfield 59, 11, 7, 0, [], 524),
  (62, .getfield 305, 4, 0, 0, [], 460),
  (65, .iload_n 1, 0, 0, 0, [], 0),
  (66, .aaload, 0, 0, 0, [], 0),
  (67, .iload_n 2, 0, 0, 0, [], 0),
  (68, .iload_n 3, 0, 0, 0, [], 0),
  (69, .invokestatic 308, 13, 0, 0, [], 1045),
  (72, .iload 4, 0, 0, 0, [], 0),
  (74, .iastore, 0, 0, 0, [], 0),
  (75, .iload 5, 0, 0, 0, [], 0),
  (77, .ireturn, 0, 0, 0, [], 0)]
/-- BikeTown.site(II)I -/
def cd104 : List Ent := [(0, .iload_n 1, 0, 0, 0, [], 0),
  (1, .iconst 0, 0, 0, nI 0, [], 0),
  (2, .bipush 100, 0, 0, nI 100, [], 0),
  (4, .invokestatic 77, 39, 0, 0, [], 552),
  (7, .ifCond .eq 13, 10, 0, 0, [], 0),
  (10, .iload_n 2, 0, 0, 0, [], 0),
  (11, .iconst 0, 0, 0, nI 0, [], 0),
  (12, .bipush 100, 0, 0, nI 100, [], 0),
  (14, .invokestatic 77, 39, 0, 0, [], 552),
  (17, .ifCond .ne 6, 12, 0, 0, [], 0),
  (20, .bipush (-2), 0, 0, (-2), [], 0),
  (22, .ireturn, 0, 0, 0, [], 0),
  (23, .aload_n 0, 0, 0, 0, [], 0),
  (24, .getfield 66, 11, 8, 0, [], 525),
  (27, .getfield 320, 7, 0, 0, [], 474),
  (30, .bipush 12, 0, 0, nI 12, [], 0),
  (32, .if_icmp .lt 8, 19, 0, 0, [], 0),
  (35, .bipush (-4), 0, 0, (-4), [], 0),
  (37, .goto 12, 24, 0, 0, [], 0),
  (40, .aload_n 0, 0, 0, 0, [], 0),
  (41, .getfield 66, 11, 8, 0, [], 525),
  (44, .iload_n 1, 0, 0, 0, [], 0),
  (45, .iload_n 2, 0, 0, 0, [], 0),
  (46, .invokevirtual 321, 23, 0, 0, [], 1089),
  (49, .ireturn, 0, 0, 0, [], 0)]
/-- BikeTown.wish(III)I -/
def cd105 : List Ent := [(0, .iload_n 1, 0, 0, 0, [], 0),
  (1, .iconst 0, 0, 0, nI 0, [], 0),
  (2, .bipush 100, 0, 0, nI 100, [], 0),
  (4, .invokestatic 77, 39, 0, 0, [], 552),
  (7, .ifCond .eq 23, 15, 0, 0, [], 0),
  (10, .iload_n 2, 0, 0, 0, [], 0),
  (11, .iconst 0, 0, 0, nI 0, [], 0),
  (12, .bipush 100, 0, 0, nI 100, [], 0),
  (14, .invokestatic 77, 39, 0, 0, [], 552),
  (17, .ifCond .eq 13, 15, 0, 0, [], 0),
  (20, .iload_n 3, 0, 0, 0, [], 0),
  (21, .iconst 1, 0, 0, nI 1, [], 0),
  (22, .bipush 100, 0, 0, nI 100, [], 0),
  (24, .invokestatic 77, 39, 0, 0, [], 552),
  (27, .ifCond .ne 6, 17, 0, 0, [], 0),
  (30, .bipush (-2), 0, 0, (-2), [], 0),
  (32, .ireturn, 0, 0, 0, [], 0),
  (33, .aload_n 0, 0, 0, 0, [], 0),
  (34, .getfield 66, 11, 8, 0, [], 525),
  (37, .getfield 324, 7, 1, 0, [], 476),
  (40, .bipush 40, 0, 0, nI 40, [], 0),
  (42, .if_icmp .lt 8, 24, 0, 0, [], 0),
  (45, .bipush (-4), 0, 0, (-4), [], 0),
  (47, .goto 13, 30, 0, 0, [], 0),
  (50, .aload_n 0, 0, 0, 0, [], 0),
  (51, .getfield 66, 11, 8, 0, [], 525),
  (54, .iload_n 1, 0, 0, 0, [], 0),
  (55, .iload_n 2, 0, 0, 0, [], 0),
  (56, .iload_n 3, 0, 0, 0, [], 0),
  (57, .invokevirtual 327, 24, 0, 0, [], 1097),
  (60, .ireturn, 0, 0, 0, [], 0)]
/-- BikeTown.test(IZ)I -/
def cd106 : List Ent := [(0, .iload_n 1, 0, 0, 0, [], 0),
  (1, .iconst 0, 0, 0, nI 0, [], 0),
  (2, .bipush 100, 0, 0, nI 100, [], 0),
  (4, .invokestatic 77, 39, 0, 0, [], 552),
  (7, .ifCond .ne 6, 7, 0, 0, [], 0),
  (10, .bipush (-2), 0, 0, (-2), [], 0),
  (12, .ireturn, 0, 0, 0, [], 0),
  (13, .aload_n 0, 0, 0, 0, [], 0),
  (14, .getfield 73, 11, 9, 0, [], 526),
  (17, .getfield 343, 9, 0, 0, [], 507),
  (20, .bipush 60, 0, 0, nI 60, [], 0),
  (22, .if_icmp .lt 8, 14, 0, 0, [], 0),
  (25, .bipush (-4), 0, 0, (-4), [], 0),
  (27, .goto 12, 19, 0, 0, [], 0),
  (30, .aload_n 0, 0, 0, 0, [], 0),
  (31, .getfield 73, 11, 9, 0, [], 526),
  (34, .iload_n 1, 0, 0, 0, [], 0),
  (35, .iload_n 2, 0, 0, 0, [], 0),
  (36, .invokevirtual 344, 31, 0, 0, [], 1134),
  (39, .ireturn, 0, 0, 0, [], 0)]
/-- BikeTownModel.begins()V -/
def cd107 : List Ent := [(0, .iconst 0, 0, 0, nI 0, [], 0),
  (1, .istore_n 1, 0, 0, 0, [], 0),
  (2, .iload_n 1, 0, 0, 0, [], 0),
  (3, .sipush 3184, 0, 0, nI 3184, [], 0),
  (6, .if_icmp .ge 16, 12, 0, 0, [], 0),
  (9, .aload_n 0, 0, 0, 0, [], 0),
  (10, .getfield 7, 12, 1, 0, [], 1181),
  (13, .iload_n 1, 0, 0, 0, [], 0),
  (14, .iconst 0, 0, 0, nI 0, [], 0),
  (15, .iastore, 0, 0, 0, [], 0),
  (16, .iinc 1 1, 0, 0, nI 1, [], 0),
  (19, .goto (-17), 2, 0, 0, [], 0),
  (22, .aload_n 0, 0, 0, 0, [], 0),
  (23, .getfield 7, 12, 1, 0, [], 1181),
  (26, .iconst 5, 0, 0, nI 5, [], 0),
  (27, .iconst (-1), 0, 0, (-1), [], 0),
  (28, .iastore, 0, 0, 0, [], 0),
  (29, .iconst 0, 0, 0, nI 0, [], 0),
  (30, .istore_n 1, 0, 0, 0, [], 0),
  (31, .iload_n 1, 0, 0, 0, [], 0),
  (32, .bipush 12, 0, 0, nI 12, [], 0),
  (34, .if_icmp .ge 30, 38, 0, 0, [], 0),
  (37, .aload_n 0, 0, 0, 0, [], 0),
  (38, .getfield 7, 12, 1, 0, [], 1181),
  (41, .bipush 8, 0, 0, nI 8, [], 0),
  (43, .iload_n 1, 0, 0, 0, [], 0),
  (44, .iadd, 0, 0, 0, [], 0),
  (45, .bipush 10, 0, 0, nI 10, [], 0),
  (47, .iastore, 0, 0, 0, [], 0),
  (48, .aload_n 0, 0, 0, 0, [], 0),
  (49, .getfield 7, 12, 1, 0, [], 1181),
  (52, .bipush 20, 0, 0, nI 20, [], 0),
  (54, .iload_n 1, 0, 0, 0, [], 0),
  (55, .iadd, 0, 0, 0, [], 0),
  (56, .iconst 1, 0, 0, nI 1, [], 0),
  (57, .iastore, 0, 0, 0, [], 0),
  (58, .iinc 1 1, 0, 0, nI 1, [], 0),
  (61, .goto (-30), 19, 0, 0, [], 0),
  (64, .iconst 0, 0, 0, nI 0, [], 0),
  (65, .istore_n 1, 0, 0, 0, [], 0),
  (66, .iload_n 1, 0, 0, 0, [], 0),
  (67, .aload_n 0, 0, 0, 0, [], 0),
  (68, .getfield 129, 12, 7, 0, [], 1187),
  (71, .if_icmp .ge 25, 56, 0, 0, [], 0),
  (74, .aload_n 0, 0, 0, 0, [], 0),
  (75, .getfield 7, 12, 1, 0, [], 1181),
  (78, .sipush 1292, 0, 0, nI 1292, [], 0),
  (81, .iload_n 1, 0, 0, 0, [], 0),
  (82, .iadd, 0, 0, 0, [], 0),
  (83, .aload_n 0, 0, 0, 0, [], 0),
  (84, .getfield 25, 12, 8, 0, [], 1188),
  (87, .iload_n 1, 0, 0, 0, [], 0),
  (88, .iaload, 0, 0, 0, [], 0),
  (89, .iastore, 0, 0, 0, [], 0),
  (90, .iinc 1 1, 0, 0, nI 1, [], 0),
  (93, .goto (-27), 40, 0, 0, [], 0),
  (96, .iconst 0, 0, 0, nI 0, [], 0),
  (97, .istore_n 1, 0, 0, 0, [], 0),
  (98, .iload_n 1, 0, 0, 0, [], 0),
  (99, .aload_n 0, 0, 0, 0, [], 0),
  (100, .getfield 132, 12, 9, 0, [], 1189),
  (103, .if_icmp .ge 14, 67, 0, 0, [], 0),
  (106, .aload_n 0, 0, 0, 0, [], 0),
  (107, .iload_n 1, 0, 0, 0, [], 0),
  (108, .invokevirtual 135, 46, 0, 0, [], 1176),
  (111, .iinc 1 1, 0, 0, nI 1, [], 0),
  (114, .goto (-16), 58, 0, 0, [], 0),
  (117, .return_, 0, 0, 0, [], 0)]
/-- BikeTownModel.isPost(I)Z -/
def cd108 : List Ent := [(0, .iload_n 1, 0, 0, 0, [], 0),
  (1, .iconst 0, 0, 0, nI 0, [], 0),
  (2, .aload_n 0, 0, 0, 0, [], 0),
  (3, .getfield 139, 12, 3, 0, [], 1183),
  (6, .iconst 1, 0, 0, nI 1, [], 0),
  (7, .isub, 0, 0, 0, [], 0),
  (8, .invokestatic 142, 45, 0, 0, [], 1335),
  (11, .ireturn, 0, 0, 0, [], 0)]
/-- BikeTownModel.isBike(I)Z -/
def cd109 : List Ent := [(0, .iload_n 1, 0, 0, 0, [], 0),
  (1, .iconst 0, 0, 0, nI 0, [], 0),
  (2, .aload_n 0, 0, 0, 0, [], 0),
  (3, .getfield 129, 12, 7, 0, [], 1187),
  (6, .iconst 1, 0, 0, nI 1, [], 0),
  (7, .isub, 0, 0, 0, [], 0),
  (8, .invokestatic 142, 45, 0, 0, [], 1335),
  (11, .ireturn, 0, 0, 0, [], 0)]
/-- BikeTownModel.post(III)I -/
def cd110 : List Ent := [(0, .aload_n 0, 0, 0, 0, [], 0),
  (1, .iconst 0, 0, 0, nI 0, [], 0),
  (2, .putfield 126, 12, 0, 0, [], 1180),
  (5, .iload_n 1, 0, 0, 0, [], 0),
  (6, .iconst 0, 0, 0, nI 0, [], 0),
  (7, .bipush 100, 0, 0, nI 100, [], 0),
  (9, .invokestatic 142, 45, 0, 0, [], 1335),
  (12, .ifCond .eq 23, 18, 0, 0, [], 0),
  (15, .iload_n 2, 0, 0, 0, [], 0),
  (16, .iconst 0, 0, 0, nI 0, [], 0),
  (17, .bipush 100, 0, 0, nI 100, [], 0),
  (19, .invokestatic 142, 45, 0, 0, [], 1335),
  (22, .ifCond .eq 13, 18, 0, 0, [], 0),
  (25, .iload_n 3, 0, 0, 0, [], 0),
  (26, .iconst 1, 0, 0, nI 1, [], 0),
  (27, .bipush 20, 0, 0, nI 20, [], 0),
  (29, .invokestatic 142, 45, 0, 0, [], 1335),
  (32, .ifCond .ne 6, 20, 0, 0, [], 0),
  (35, .bipush (-2), 0, 0, (-2), [], 0),
  (37, .ireturn, 0, 0, 0, [], 0),
  (38, .aload_n 0, 0, 0, 0, [], 0),
  (39, .invokevirtual 149, 48, 0, 0, [], 1338),
  (42, .ifCond .eq 6, 25, 0, 0, [], 0),
  (45, .bipush (-3), 0, 0, (-3), [], 0),
  (47, .ireturn, 0, 0, 0, [], 0),
  (48, .aload_n 0, 0, 0, 0, [], 0),
  (49, .getfield 139, 12, 3, 0, [], 1183),
  (52, .bipush 12, 0, 0, nI 12, [], 0),
  (54, .if_icmp .ne 6, 31, 0, 0, [], 0),
  (57, .bipush (-4), 0, 0, (-4), [], 0),
  (59, .ireturn, 0, 0, 0, [], 0),
  (60, .aload_n 0, 0, 0, 0, [], 0),
  (61, .getfield 16, 12, 4, 0, [], 1184),
  (64, .aload_n 0, 0, 0, 0, [], 0),
  (65, .getfield 139, 12, 3, 0, [], 1183),
  (68, .iload_n 1, 0, 0, 0, [], 0),
  (69, .iastore, 0, 0, 0, [], 0),
  (70, .aload_n 0, 0, 0, 0, [], 0),
  (71, .getfield 19, 12, 5, 0, [], 1185),
  (74, .aload_n 0, 0, 0, 0, [], 0),
  (75, .getfield 139, 12, 3, 0, [], 1183),
  (78, .iload_n 2, 0, 0, 0, [], 0),
  (79, .iastore, 0, 0, 0, [], 0),
  (80, .aload_n 0, 0, 0, 0, [], 0),
  (81, .getfield 22, 12, 6, 0, [], 1186),
  (84, .aload_n 0, 0, 0, 0, [], 0),
  (85, .getfield 139, 12, 3, 0, [], 1183),
  (88, .iload_n 3, 0, 0, 0, [], 0),
  (89, .iastore, 0, 0, 0, [], 0),
  (90, .aload_n 0, 0, 0, 0, [], 0),
  (91, .dup, 0, 0, 0, [], 0),
  (92, .getfield 139, 12, 3, 0, [], 1183),
  (95, .iconst 1, 0, 0, nI 1, [], 0),
  (96, .iadd, 0, 0, 0, [], 0),
  (97, .putfield 139, 12, 3, 0, [], 1183),
  (100, .aload_n 0, 0, 0, 0, [], 0),
  (101, .getfield 139, 12, 3, 0, [], 1183),
  (104, .iconst 1, 0, 0, nI 1, [], 0),
  (105, .isub, 0, 0, 0, [], 0),
  (106, .ireturn, 0, 0, 0, [], 0)]
/-- BikeTownModel.free(I)I -/
def cd111 : List Ent := [(0, .aload_n 0, 0, 0, 0, [], 0),
  (1, .getfield 22, 12, 6, 0, [], 1186),
  (4, .iload_n 1, 0, 0, 0, [], 0),
  (5, .iaload, 0, 0, 0, [], 0),
  (6, .aload_n 0, 0, 0, 0, [], 0),
  (7, .iload_n 1, 0, 0, 0, [], 0),
  (8, .invokevirtual 153, 49, 0, 0, [], 1354),
  (11, .isub, 0, 0, 0, [], 0),
  (12, .ireturn, 0, 0, 0, [], 0)]
/-- BikeTownModel.kind(III)I -/
def cd112 : List Ent := [(0, .aload_n 0, 0, 0, 0, [], 0),
  (1, .iconst 0, 0, 0, nI 0, [], 0),
  (2, .putfield 126, 12, 0, 0, [], 1180),
  (5, .iload_n 1, 0, 0, 0, [], 0),
  (6, .iconst 0, 0, 0, nI 0, [], 0),
  (7, .iconst 3, 0, 0, nI 3, [], 0),
  (8, .invokestatic 142, 45, 0, 0, [], 1335),
  (11, .ifCond .eq 23, 18, 0, 0, [], 0),
  (14, .iload_n 2, 0, 0, 0, [], 0),
  (15, .iconst 0, 0, 0, nI 0, [], 0),
  (16, .bipush 99, 0, 0, nI 99, [], 0),
  (18, .invokestatic 142, 45, 0, 0, [], 1335),
  (21, .ifCond .eq 13, 18, 0, 0, [], 0),
  (24, .iload_n 3, 0, 0, 0, [], 0),
  (25, .iconst 0, 0, 0, nI 0, [], 0),
  (26, .bipush 60, 0, 0, nI 60, [], 0),
  (28, .invokestatic 142, 45, 0, 0, [], 1335),
  (31, .ifCond .ne 6, 20, 0, 0, [], 0),
  (34, .bipush (-2), 0, 0, (-2), [], 0),
  (36, .ireturn, 0, 0, 0, [], 0),
  (37, .aload_n 0, 0, 0, 0, [], 0),
  (38, .getfield 40, 12, 14, 0, [], 1194),
  (41, .iload_n 1, 0, 0, 0, [], 0),
  (42, .iload_n 2, 0, 0, 0, [], 0),
  (43, .iastore, 0, 0, 0, [], 0),
  (44, .aload_n 0, 0, 0, 0, [], 0),
  (45, .getfield 43, 12, 15, 0, [], 1195),
  (48, .iload_n 1, 0, 0, 0, [], 0),
  (49, .iload_n 3, 0, 0, 0, [], 0),
  (50, .iastore, 0, 0, 0, [], 0),
  (51, .iconst 1, 0, 0, nI 1, [], 0),
  (52, .ireturn, 0, 0, 0, [], 0)]
/-- BikeTownModel.shop(II)I -/
def cd113 : List Ent := [(0, .aload_n 0, 0, 0, 0, [], 0),
  (1, .iconst 0, 0, 0, nI 0, [], 0),
  (2, .putfield 126, 12, 0, 0, [], 1180),
  (5, .iload_n 1, 0, 0, 0, [], 0),
  (6, .iconst 1, 0, 0, nI 1, [], 0),
  (7, .sipush 600, 0, 0, nI 600, [], 0),
  (10, .invokestatic 142, 45, 0, 0, [], 1335),
  (13, .ifCond .eq 14, 13, 0, 0, [], 0),
  (16, .iload_n 2, 0, 0, 0, [], 0),
  (17, .iconst 1, 0, 0, nI 1, [], 0),
  (18, .sipush 5000, 0, 0, nI 5000, [], 0),
  (21, .invokestatic 142, 45, 0, 0, [], 1335),
  (24, .ifCond .ne 6, 15, 0, 0, [], 0),
  (27, .bipush (-2), 0, 0, (-2), [], 0),
  (29, .ireturn, 0, 0, 0, [], 0),
  (30, .aload_n 0, 0, 0, 0, [], 0),
  (31, .iload_n 1, 0, 0, 0, [], 0),
  (32, .putfield 46, 12, 16, 0, [], 1196),
  (35, .aload_n 0, 0, 0, 0, [], 0),
  (36, .iload_n 2, 0, 0, 0, [], 0),
  (37, .putfield 50, 12, 17, 0, [], 1197),
  (40, .iconst 1, 0, 0, nI 1, [], 0),
  (41, .ireturn, 0, 0, 0, [], 0)]
/-- BikeTownModel.does(III)V -/
def cd114 : List Ent := [(0, .iload_n 1, 0, 0, 0, [], 0),
  (1, .tableswitch 150 0 4 #[35, 46, 76, 88, 118], 77, 0, 0, [(nI 0, 2), (nI 1, 10), (nI 2, 29), (nI 3, 37), (nI 4, 56)], 0),
  (36, .aload_n 0, 0, 0, 0, [], 0),
  (37, .getfield 7, 12, 1, 0, [], 1181),
  (40, .bipush 8, 0, 0, nI 8, [], 0),
  (42, .iload_n 2, 0, 0, 0, [], 0),
  (43, .iadd, 0, 0, 0, [], 0),
  (44, .iload_n 3, 0, 0, 0, [], 0),
  (45, .iastore, 0, 0, 0, [], 0),
  (46, .return_, 0, 0, 0, [], 0),
  (47, .aload_n 0, 0, 0, 0, [], 0),
  (48, .getfield 7, 12, 1, 0, [], 1181),
  (51, .bipush 20, 0, 0, nI 20, [], 0),
  (53, .iload_n 2, 0, 0, 0, [], 0),
  (54, .iadd, 0, 0, 0, [], 0),
  (55, .iload_n 3, 0, 0, 0, [], 0),
  (56, .iastore, 0, 0, 0, [], 0),
  (57, .aload_n 0, 0, 0, 0, [], 0),
  (58, .iload_n 3, 0, 0, 0, [], 0),
  (59, .iconst 1, 0, 0, nI 1, [], 0),
  (60, .if_icmp .ne 8, 23, 0, 0, [], 0),
  (63, .bipush 12, 0, 0, nI 12, [], 0),
  (65, .goto 5, 24, 0, 0, [], 0),
  (68, .bipush 11, 0, 0, nI 11, [], 0),
  (70, .iload_n 2, 0, 0, 0, [], 0),
  (71, .iconst (-1), 0, 0, (-1), [], 0),
  (72, .iconst (-1), 0, 0, (-1), [], 0),
  (73, .invokevirtual 164, 47, 0, 0, [], 1390),
  (76, .return_, 0, 0, 0, [], 0),
  (77, .aload_n 0, 0, 0, 0, [], 0),
  (78, .getfield 7, 12, 1, 0, [], 1181),
  (81, .sipush 1412, 0, 0, nI 1412, [], 0),
  (84, .iload_n 2, 0, 0, 0, [], 0),
  (85, .iadd, 0, 0, 0, [], 0),
  (86, .iconst 1, 0, 0, nI 1, [], 0),
  (87, .iastore, 0, 0, 0, [], 0),
  (88, .return_, 0, 0, 0, [], 0),
  (89, .aload_n 0, 0, 0, 0, [], 0),
  (90, .getfield 7, 12, 1, 0, [], 1181),
  (93, .sipush 1232, 0, 0, nI 1232, [], 0),
  (96, .iload_n 2, 0, 0, 0, [], 0),
  (97, .iadd, 0, 0, 0, [], 0),
  (98, .iconst 4, 0, 0, nI 4, [], 0),
  (99, .iastore, 0, 0, 0, [], 0),
  (100, .aload_n 0, 0, 0, 0, [], 0),
  (101, .bipush 9, 0, 0, nI 9, [], 0),
  (103, .aload_n 0, 0, 0, 0, [], 0),
  (104, .getfield 7, 12, 1, 0, [], 1181),
  (107, .sipush 1292, 0, 0, nI 1292, [], 0),
  (110, .iload_n 2, 0, 0, 0, [], 0),
  (111, .iadd, 0, 0, 0, [], 0),
  (112, .iaload, 0, 0, 0, [], 0),
  (113, .iconst (-1), 0, 0, (-1), [], 0),
  (114, .iload_n 2, 0, 0, 0, [], 0),
  (115, .invokevirtual 164, 47, 0, 0, [], 1390),
  (118, .return_, 0, 0, 0, [], 0),
  (119, .aload_n 0, 0, 0, 0, [], 0),
  (120, .getfield 7, 12, 1, 0, [], 1181),
  (123, .sipush 1232, 0, 0, nI 1232, [], 0),
  (126, .iload_n 2, 0, 0, 0, [], 0),
  (127, .iadd, 0, 0, 0, [], 0),
  (128, .iconst 0, 0, 0, nI 0, [], 0),
  (129, .iastore, 0, 0, 0, [], 0),
  (130, .aload_n 0, 0, 0, 0, [], 0),
  (131, .getfield 7, 12, 1, 0, [], 1181),
  (134, .sipush 1292, 0, 0, nI 1292, [], 0),
  (137, .iload_n 2, 0, 0, 0, [], 0),
  (138, .iadd, 0, 0, 0, [], 0),
  (139, .iload_n 3, 0, 0, 0, [], 0),
  (140, .iastore, 0, 0, 0, [], 0),
  (141, .aload_n 0, 0, 0, 0, [], 0),
  (142, .bipush 10, 0, 0, nI 10, [], 0),
  (144, .iload_n 3, 0, 0, 0, [], 0),
  (145, .iconst (-1), 0, 0, (-1), [], 0),
  (146, .iload_n 2, 0, 0, 0, [], 0),
  (147, .invokevirtual 164, 47, 0, 0, [], 1390),
  (150, .return_, 0, 0, 0, [], 0),
  (151, .aload_n 0, 0, 0, 0, [], 0),
  (152, .getfield 7, 12, 1, 0, [], 1181),
  (155, .sipush 3144, 0, 0, nI 3144, [], 0),
  (158, .aload_n 0, 0, 0, 0, [], 0),
  (159, .getfield 7, 12, 1, 0, [], 1181),
  (162, .bipush 6, 0, 0, nI 6, [], 0),
  (164, .iaload, 0, 0, 0, [], 0),
  (165, .iadd, 0, 0, 0, [], 0),
  (166, .iload_n 2, 0, 0, 0, [], 0),
  (167, .iastore, 0, 0, 0, [], 0),
  (168, .aload_n 0, 0, 0, 0, [], 0),
  (169, .getfield 7, 12, 1, 0, [], 1181),
  (172, .sipush 3164, 0, 0, nI 3164, [], 0),
  (175, .aload_n 0, 0, 0, 0, [], 0),
  (176, .getfield 7, 12, 1, 0, [], 1181),
  (179, .bipush 6, 0, 0, nI 6, [], 0),
  (181, .iaload, 0, 0, 0, [], 0),
  (182, .iadd, 0, 0, 0, [], 0),
  (183, .iload_n 3, 0, 0, 0, [], 0),
  (184, .iastore, 0, 0, 0, [], 0),
  (185, .aload_n 0, 0, 0, 0, [], 0),
  (186, .getfield 7, 12, 1, 0, [], 1181),
  (189, .bipush 6, 0, 0, nI 6, [], 0),
  (191, .dup2, 0, 0, 0, [], 0),
  (192, .iaload, 0, 0, 0, [], 0),
  (193, .iconst 1, 0, 0, nI 1, [], 0),
  (194, .iadd, 0, 0, 0, [], 0),
  (195, .iastore, 0, 0, 0, [], 0),
  (196, .return_, 0, 0, 0, [], 0)]
/-- BikeTownModel.say(I)I -/
def cd115 : List Ent := [(0, .aload_n 0, 0, 0, 0, [], 0),
  (1, .iconst 0, 0, 0, nI 0, [], 0),
  (2, .putfield 126, 12, 0, 0, [], 1180),
  (5, .iload_n 1, 0, 0, 0, [], 0),
  (6, .iconst 0, 0, 0, nI 0, [], 0),
  (7, .bipush 30, 0, 0, nI 30, [], 0),
  (9, .invokestatic 142, 45, 0, 0, [], 1335),
  (12, .ifCond .ne 6, 10, 0, 0, [], 0),
  (15, .bipush (-2), 0, 0, (-2), [], 0),
  (17, .ireturn, 0, 0, 0, [], 0),
  (18, .aload_n 0, 0, 0, 0, [], 0),
  (19, .getfield 185, 12, 20, 0, [], 1200),
  (22, .bipush 40, 0, 0, nI 40, [], 0),
  (24, .if_icmp .ne 6, 16, 0, 0, [], 0),
  (27, .bipush (-4), 0, 0, (-4), [], 0),
  (29, .ireturn, 0, 0, 0, [], 0),
  (30, .aload_n 0, 0, 0, 0, [], 0),
  (31, .getfield 56, 12, 21, 0, [], 1201),
  (34, .aload_n 0, 0, 0, 0, [], 0),
  (35, .getfield 185, 12, 20, 0, [], 1200),
  (38, .iload_n 1, 0, 0, 0, [], 0),
  (39, .iastore, 0, 0, 0, [], 0),
  (40, .aload_n 0, 0, 0, 0, [], 0),
  (41, .dup, 0, 0, 0, [], 0),
  (42, .getfield 185, 12, 20, 0, [], 1200),
  (45, .iconst 1, 0, 0, nI 1, [], 0),
  (46, .iadd, 0, 0, 0, [], 0),
  (47, .putfield 185, 12, 20, 0, [], 1200),
  (50, .aload_n 0, 0, 0, 0, [], 0),
  (51, .getfield 185, 12, 20, 0, [], 1200),
  (54, .ireturn, 0, 0, 0, [], 0)]
/-- BikeTownModel.faultOf()I -/
def cd116 : List Ent := [(0, .iconst 0, 0, 0, nI 0, [], 0),
  (1, .istore_n 1, 0, 0, 0, [], 0),
  (2, .iconst 0, 0, 0, nI 0, [], 0),
  (3, .istore_n 2, 0, 0, 0, [], 0),
  (4, .iconst 0, 0, 0, nI 0, [], 0),
  (5, .istore_n 3, 0, 0, 0, [], 0),
  (6, .iconst 0, 0, 0, nI 0, [], 0),
  (7, .istore 4, 0, 0, 0, [], 0),
  (9, .iload 4, 0, 0, 0, [], 0),
  (11, .aload_n 0, 0, 0, 0, [], 0),
  (12, .getfield 185, 12, 20, 0, [], 1200),
  (15, .if_icmp .ge 390, 207, 0, 0, [], 0),
  (18, .aload_n 0, 0, 0, 0, [], 0),
  (19, .getfield 56, 12, 21, 0, [], 1201),
  (22, .iload 4, 0, 0, 0, [], 0),
  (24, .iaload, 0, 0, 0, [], 0),
  (25, .istore 5, 0, 0, 0, [], 0),
  (27, .iload 5, 0, 0, 0, [], 0),
  (29, .bipush 10, 0, 0, nI 10, [], 0),
  (31, .if_icmp .lt 15, 25, 0, 0, [], 0),
  (34, .iload 5, 0, 0, 0, [], 0),
  (36, .bipush 21, 0, 0, nI 21, [], 0),
  (38, .bipush 27, 0, 0, nI 27, [], 0),
  (40, .invokestatic 142, 45, 0, 0, [], 1335),
  (43, .ifCond .eq 7, 27, 0, 0, [], 0),
  (46, .iconst 1, 0, 0, nI 1, [], 0),
  (47, .goto 4, 28, 0, 0, [], 0),
  (50, .iconst 0, 0, 0, nI 0, [], 0),
  (51, .istore 6, 0, 0, 0, [], 0),
  (53, .iload 5, 0, 0, 0, [], 0),
  (55, .bipush 10, 0, 0, nI 10, [], 0),
  (57, .if_icmp .ge 11, 36, 0, 0, [], 0),
  (60, .iload_n 3, 0, 0, 0, [], 0),
  (61, .ifCond .le 7, 36, 0, 0, [], 0),
  (64, .iconst 1, 0, 0, nI 1, [], 0),
  (65, .goto 4, 37, 0, 0, [], 0),
  (68, .iconst 0, 0, 0, nI 0, [], 0),
  (69, .istore 7, 0, 0, 0, [], 0),
  (71, .iconst (-1), 0, 0, (-1), [], 0),
  (72, .istore 8, 0, 0, 0, [], 0),
  (74, .iload_n 1, 0, 0, 0, [], 0),
  (75, .ifCond .ne 67, 74, 0, 0, [], 0),
  (78, .iload 5, 0, 0, 0, [], 0),
  (80, .bipush 19, 0, 0, nI 19, [], 0),
  (82, .if_icmp .ne 7, 47, 0, 0, [], 0),
  (85, .iconst 0, 0, 0, nI 0, [], 0),
  (86, .goto 30, 60, 0, 0, [], 0),
  (89, .iload 5, 0, 0, 0, [], 0),
  (91, .bipush 15, 0, 0, nI 15, [], 0),
  (93, .if_icmp .ne 13, 55, 0, 0, [], 0),
  (96, .iload_n 2, 0, 0, 0, [], 0),
  (97, .bipush 8, 0, 0, nI 8, [], 0),
  (99, .if_icmp .ge 7, 55, 0, 0, [], 0),
  (102, .iconst 0, 0, 0, nI 0, [], 0),
  (103, .goto 13, 60, 0, 0, [], 0),
  (106, .iload 6, 0, 0, 0, [], 0),
  (108, .ifCond .eq 7, 59, 0, 0, [], 0),
  (111, .iconst 4, 0, 0, nI 4, [], 0),
  (112, .goto 4, 60, 0, 0, [], 0),
  (115, .iconst (-1), 0, 0, (-1), [], 0),
  (116, .istore 8, 0, 0, 0, [], 0),
  (118, .iload_n 2, 0, 0, 0, [], 0),
  (119, .iload 5, 0, 0, 0, [], 0),
  (121, .bipush 15, 0, 0, nI 15, [], 0),
  (123, .if_icmp .ne 13, 70, 0, 0, [], 0),
  (126, .iload_n 2, 0, 0, 0, [], 0),
  (127, .bipush 8, 0, 0, nI 8, [], 0),
  (129, .if_icmp .ge 7, 70, 0, 0, [], 0),
  (132, .iconst 1, 0, 0, nI 1, [], 0),
  (133, .goto 4, 71, 0, 0, [], 0),
  (136, .iconst 0, 0, 0, nI 0, [], 0),
  (137, .iadd, 0, 0, 0, [], 0),
  (138, .istore_n 2, 0, 0, 0, [], 0),
  (139, .goto 224, 185, 0, 0, [], 0),
  (142, .iload_n 1, 0, 0, 0, [], 0),
  (143, .iconst 4, 0, 0, nI 4, [], 0),
  (144, .if_icmp .ge 20, 86, 0, 0, [], 0),
  (147, .iload 6, 0, 0, 0, [], 0),
  (149, .ifCond .eq 9, 83, 0, 0, [], 0),
  (152, .iload_n 1, 0, 0, 0, [], 0),
  (153, .iconst 3, 0, 0, nI 3, [], 0),
  (154, .iadd, 0, 0, 0, [], 0),
  (155, .goto 4, 84, 0, 0, [], 0),
  (158, .iconst (-1), 0, 0, (-1), [], 0),
  (159, .istore 8, 0, 0, 0, [], 0),
  (161, .goto 202, 185, 0, 0, [], 0),
  (164, .iload_n 1, 0, 0, 0, [], 0),
  (165, .bipush 7, 0, 0, nI 7, [], 0),
  (167, .if_icmp .ge 103, 140, 0, 0, [], 0),
  (170, .iload 7, 0, 0, 0, [], 0),
  (172, .ifCond .eq 18, 99, 0, 0, [], 0),
  (175, .iload_n 3, 0, 0, 0, [], 0),
  (176, .iconst 3, 0, 0, nI 3, [], 0),
  (177, .if_icmp .ge 7, 96, 0, 0, [], 0),
  (180, .iload_n 1, 0, 0, 0, [], 0),
  (181, .goto 4, 97, 0, 0, [], 0),
  (184, .iconst (-1), 0, 0, (-1), [], 0),
  (185, .istore 8, 0, 0, 0, [], 0),
  (187, .goto 176, 185, 0, 0, [], 0),
  (190, .iload 5, 0, 0, 0, [], 0),
  (192, .bipush 10, 0, 0, nI 10, [], 0),
  (194, .if_icmp .eq 10, 105, 0, 0, [], 0),
  (197, .iload 5, 0, 0, 0, [], 0),
  (199, .bipush 11, 0, 0, nI 11, [], 0),
  (201, .if_icmp .ne 11, 110, 0, 0, [], 0),
  (204, .iload_n 1, 0, 0, 0, [], 0),
  (205, .iconst 3, 0, 0, nI 3, [], 0),
  (206, .isub, 0, 0, 0, [], 0),
  (207, .istore 8, 0, 0, 0, [], 0),
  (209, .goto 154, 185, 0, 0, [], 0),
  (212, .iload_n 1, 0, 0, 0, [], 0),
  (213, .iconst 4, 0, 0, nI 4, [], 0),
  (214, .if_icmp .ne 25, 123, 0, 0, [], 0),
  (217, .iload 5, 0, 0, 0, [], 0),
  (219, .bipush 12, 0, 0, nI 12, [], 0),
  (221, .bipush 14, 0, 0, nI 14, [], 0),
  (223, .invokestatic 142, 45, 0, 0, [], 1335),
  (226, .ifCond .eq 7, 120, 0, 0, [], 0),
  (229, .iconst 2, 0, 0, nI 2, [], 0),
  (230, .goto 4, 121, 0, 0, [], 0),
  (233, .iconst (-1), 0, 0, (-1), [], 0),
  (234, .istore 8, 0, 0, 0, [], 0),
  (236, .goto 127, 185, 0, 0, [], 0),
  (239, .iload_n 1, 0, 0, 0, [], 0),
  (240, .iconst 5, 0, 0, nI 5, [], 0),
  (241, .if_icmp .ne 122, 185, 0, 0, [], 0),
  (244, .iload 5, 0, 0, 0, [], 0),
  (246, .iload_n 2, 0, 0, 0, [], 0),
  (247, .invokestatic 188, 52, 0, 0, [], 1434),
  (250, .istore 8, 0, 0, 0, [], 0),
  (252, .iload_n 2, 0, 0, 0, [], 0),
  (253, .iload 8, 0, 0, 0, [], 0),
  (255, .bipush 7, 0, 0, nI 7, [], 0),
  (257, .if_icmp .ne 7, 136, 0, 0, [], 0),
  (260, .iconst 1, 0, 0, nI 1, [], 0),
  (261, .goto 4, 137, 0, 0, [], 0),
  (264, .iconst 0, 0, 0, nI 0, [], 0),
  (265, .isub, 0, 0, 0, [], 0),
  (266, .istore_n 2, 0, 0, 0, [], 0),
  (267, .goto 96, 185, 0, 0, [], 0),
  (270, .iload_n 1, 0, 0, 0, [], 0),
  (271, .bipush 7, 0, 0, nI 7, [], 0),
  (273, .if_icmp .ne 29, 157, 0, 0, [], 0),
  (276, .iload 5, 0, 0, 0, [], 0),
  (278, .iload_n 2, 0, 0, 0, [], 0),
  (279, .invokestatic 188, 52, 0, 0, [], 1434),
  (282, .istore 8, 0, 0, 0, [], 0),
  (284, .iload_n 2, 0, 0, 0, [], 0),
  (285, .iload 8, 0, 0, 0, [], 0),
  (287, .bipush 7, 0, 0, nI 7, [], 0),
  (289, .if_icmp .ne 7, 153, 0, 0, [], 0),
  (292, .iconst 1, 0, 0, nI 1, [], 0),
  (293, .goto 4, 154, 0, 0, [], 0),
  (296, .iconst 0, 0, 0, nI 0, [], 0),
  (297, .isub, 0, 0, 0, [], 0),
  (298, .istore_n 2, 0, 0, 0, [], 0),
  (299, .goto 64, 185, 0, 0, [], 0),
  (302, .iload_n 1, 0, 0, 0, [], 0),
  (303, .bipush 8, 0, 0, nI 8, [], 0),
  (305, .if_icmp .ne 38, 175, 0, 0, [], 0),
  (308, .iload 5, 0, 0, 0, [], 0),
  (310, .bipush 23, 0, 0, nI 23, [], 0),
  (312, .if_icmp .ne 8, 165, 0, 0, [], 0),
  (315, .bipush 9, 0, 0, nI 9, [], 0),
  (317, .goto 21, 173, 0, 0, [], 0),
  (320, .iload 5, 0, 0, 0, [], 0),
  (322, .bipush 28, 0, 0, nI 28, [], 0),
  (324, .bipush 30, 0, 0, nI 30, [], 0),
  (326, .invokestatic 142, 45, 0, 0, [], 1335),
  (329, .ifCond .eq 8, 172, 0, 0, [], 0),
  (332, .bipush 10, 0, 0, nI 10, [], 0),
  (334, .goto 4, 173, 0, 0, [], 0),
  (337, .iconst (-1), 0, 0, (-1), [], 0),
  (338, .istore 8, 0, 0, 0, [], 0),
  (340, .goto 23, 185, 0, 0, [], 0),
  (343, .iload_n 1, 0, 0, 0, [], 0),
  (344, .bipush 9, 0, 0, nI 9, [], 0),
  (346, .if_icmp .ne 17, 185, 0, 0, [], 0),
  (349, .iload 5, 0, 0, 0, [], 0),
  (351, .bipush 13, 0, 0, nI 13, [], 0),
  (353, .if_icmp .ne 7, 183, 0, 0, [], 0),
  (356, .iconst 3, 0, 0, nI 3, [], 0),
  (357, .goto 4, 184, 0, 0, [], 0),
  (360, .iconst (-1), 0, 0, (-1), [], 0),
  (361, .istore 8, 0, 0, 0, [], 0),
  (363, .iload 8, 0, 0, 0, [], 0),
  (365, .iconst (-1), 0, 0, (-1), [], 0),
  (366, .if_icmp .ne 6, 190, 0, 0, [], 0),
  (369, .iload 4, 0, 0, 0, [], 0),
  (371, .ireturn, 0, 0, 0, [], 0),
  (372, .iload 5, 0, 0, 0, [], 0),
  (374, .bipush 10, 0, 0, nI 10, [], 0),
  (376, .if_icmp .ge 18, 201, 0, 0, [], 0),
  (379, .iload 7, 0, 0, 0, [], 0),
  (381, .ifCond .eq 9, 199, 0, 0, [], 0),
  (384, .iload_n 3, 0, 0, 0, [], 0),
  (385, .iconst 1, 0, 0, nI 1, [], 0),
  (386, .iadd, 0, 0, 0, [], 0),
  (387, .goto 8, 202, 0, 0, [], 0),
  (390, .iconst 1, 0, 0, nI 1, [], 0),
  (391, .goto 4, 202, 0, 0, [], 0),
  (394, .iconst 0, 0, 0, nI 0, [], 0),
  (395, .istore_n 3, 0, 0, 0, [], 0),
  (396, .iload 8, 0, 0, 0, [], 0),
  (398, .istore_n 1, 0, 0, 0, [], 0),
  (399, .iinc 4 1, 0, 0, nI 1, [], 0),
  (402, .goto (-393), 8, 0, 0, [], 0),
  (405, .iload_n 1, 0, 0, 0, [], 0),
  (406, .bipush 6, 0, 0, nI 6, [], 0),
  (408, .if_icmp .eq 9, 213, 0, 0, [], 0),
  (411, .iload_n 1, 0, 0, 0, [], 0),
  (412, .bipush 10, 0, 0, nI 10, [], 0),
  (414, .if_icmp .ne 7, 215, 0, 0, [], 0),
  (417, .iconst (-1), 0, 0, (-1), [], 0),
  (418, .goto 7, 217, 0, 0, [], 0),
  (421, .aload_n 0, 0, 0, 0, [], 0),
  (422, .getfield 185, 12, 20, 0, [], 1200),
  (425, .ireturn, 0, 0, 0, [], 0)]
/-- BikeTownModel.off(IZ)I -/
def cd117 : List Ent := [(0, .aload_n 0, 0, 0, 0, [], 0),
  (1, .iconst 0, 0, 0, nI 0, [], 0),
  (2, .putfield 126, 12, 0, 0, [], 1180),
  (5, .iload_n 1, 0, 0, 0, [], 0),
  (6, .iconst 0, 0, 0, nI 0, [], 0),
  (7, .aload_n 0, 0, 0, 0, [], 0),
  (8, .getfield 196, 12, 22, 0, [], 1202),
  (11, .iconst 1, 0, 0, nI 1, [], 0),
  (12, .isub, 0, 0, 0, [], 0),
  (13, .invokestatic 142, 45, 0, 0, [], 1335),
  (16, .ifCond .ne 6, 13, 0, 0, [], 0),
  (19, .bipush (-2), 0, 0, (-2), [], 0),
  (21, .ireturn, 0, 0, 0, [], 0),
  (22, .aload_n 0, 0, 0, 0, [], 0),
  (23, .getfield 65, 12, 25, 0, [], 1205),
  (26, .iload_n 1, 0, 0, 0, [], 0),
  (27, .baload, 0, 0, 0, [], 0),
  (28, .iload_n 2, 0, 0, 0, [], 0),
  (29, .if_icmp .ne 6, 21, 0, 0, [], 0),
  (32, .bipush (-3), 0, 0, (-3), [], 0),
  (34, .ireturn, 0, 0, 0, [], 0),
  (35, .aload_n 0, 0, 0, 0, [], 0),
  (36, .getfield 65, 12, 25, 0, [], 1205),
  (39, .iload_n 1, 0, 0, 0, [], 0),
  (40, .iload_n 2, 0, 0, 0, [], 0),
  (41, .bastore, 0, 0, 0, [], 0),
  (42, .iconst 1, 0, 0, nI 1, [], 0),
  (43, .ireturn, 0, 0, 0, [], 0)]
/-- BikeTownModel.wayOf(II)I -/
def cd118 : List Ent := [(0, .iconst 1, 0, 0, nI 1, [], 0),
  (1, .aload_n 0, 0, 0, 0, [], 0),
  (2, .getfield 16, 12, 4, 0, [], 1184),
  (5, .iload_n 1, 0, 0, 0, [], 0),
  (6, .iaload, 0, 0, 0, [], 0),
  (7, .aload_n 0, 0, 0, 0, [], 0),
  (8, .getfield 16, 12, 4, 0, [], 1184),
  (11, .iload_n 2, 0, 0, 0, [], 0),
  (12, .iaload, 0, 0, 0, [], 0),
  (13, .isub, 0, 0, 0, [], 0),
  (14, .invokestatic 217, 56, 0, 0, [], 1461),
  (17, .aload_n 0, 0, 0, 0, [], 0),
  (18, .getfield 19, 12, 5, 0, [], 1185),
  (21, .iload_n 1, 0, 0, 0, [], 0),
  (22, .iaload, 0, 0, 0, [], 0),
  (23, .aload_n 0, 0, 0, 0, [], 0),
  (24, .getfield 19, 12, 5, 0, [], 1185),
  (27, .iload_n 2, 0, 0, 0, [], 0),
  (28, .iaload, 0, 0, 0, [], 0),
  (29, .isub, 0, 0, 0, [], 0),
  (30, .invokestatic 217, 56, 0, 0, [], 1461),
  (33, .iadd, 0, 0, 0, [], 0),
  (34, .bipush 10, 0, 0, nI 10, [], 0),
  (36, .idiv, 0, 0, 0, [], 0),
  (37, .iadd, 0, 0, 0, [], 0),
  (38, .ireturn, 0, 0, 0, [], 0)]
/-- BikeTownModel.loses(II)V -/
def cd119 : List Ent := [(0, .aload_n 0, 0, 0, 0, [], 0),
  (1, .getfield 31, 12, 11, 0, [], 1191),
  (4, .iload_n 1, 0, 0, 0, [], 0),
  (5, .iaload, 0, 0, 0, [], 0),
  (6, .istore_n 3, 0, 0, 0, [], 0),
  (7, .aload_n 0, 0, 0, 0, [], 0),
  (8, .getfield 7, 12, 1, 0, [], 1181),
  (11, .sipush 1532, 0, 0, nI 1532, [], 0),
  (14, .iload_n 1, 0, 0, 0, [], 0),
  (15, .iadd, 0, 0, 0, [], 0),
  (16, .iload_n 2, 0, 0, 0, [], 0),
  (17, .iastore, 0, 0, 0, [], 0),
  (18, .aload_n 0, 0, 0, 0, [], 0),
  (19, .getfield 7, 12, 1, 0, [], 1181),
  (22, .bipush 44, 0, 0, nI 44, [], 0),
  (24, .iload_n 3, 0, 0, 0, [], 0),
  (25, .iadd, 0, 0, 0, [], 0),
  (26, .dup2, 0, 0, 0, [], 0),
  (27, .iaload, 0, 0, 0, [], 0),
  (28, .iconst 1, 0, 0, nI 1, [], 0),
  (29, .iadd, 0, 0, 0, [], 0),
  (30, .iastore, 0, 0, 0, [], 0),
  (31, .aload_n 0, 0, 0, 0, [], 0),
  (32, .getfield 7, 12, 1, 0, [], 1181),
  (35, .sipush 368, 0, 0, nI 368, [], 0),
  (38, .bipush 24, 0, 0, nI 24, [], 0),
  (40, .iload_n 3, 0, 0, 0, [], 0),
  (41, .imul, 0, 0, 0, [], 0),
  (42, .iadd, 0, 0, 0, [], 0),
  (43, .aload_n 0, 0, 0, 0, [], 0),
  (44, .getfield 7, 12, 1, 0, [], 1181),
  (47, .iconst 0, 0, 0, nI 0, [], 0),
  (48, .iaload, 0, 0, 0, [], 0),
  (49, .bipush 60, 0, 0, nI 60, [], 0),
  (51, .idiv, 0, 0, 0, [], 0),
  (52, .iadd, 0, 0, 0, [], 0),
  (53, .dup2, 0, 0, 0, [], 0),
  (54, .iaload, 0, 0, 0, [], 0),
  (55, .iconst 1, 0, 0, nI 1, [], 0),
  (56, .iadd, 0, 0, 0, [], 0),
  (57, .iastore, 0, 0, 0, [], 0),
  (58, .aload_n 0, 0, 0, 0, [], 0),
  (59, .iload_n 2, 0, 0, 0, [], 0),
  (60, .iconst 4, 0, 0, nI 4, [], 0),
  (61, .if_icmp .ne 7, 47, 0, 0, [], 0),
  (64, .iconst 3, 0, 0, nI 3, [], 0),
  (65, .goto 4, 48, 0, 0, [], 0),
  (68, .iconst 4, 0, 0, nI 4, [], 0),
  (69, .iload_n 3, 0, 0, 0, [], 0),
  (70, .iload_n 1, 0, 0, 0, [], 0),
  (71, .iconst (-1), 0, 0, (-1), [], 0),
  (72, .invokevirtual 164, 47, 0, 0, [], 1390),
  (75, .return_, 0, 0, 0, [], 0)]
/-- BikeTownModel.riderAt(II)I -/
def cd120 : List Ent := [(0, .aload_n 0, 0, 0, 0, [], 0),
  (1, .iconst 0, 0, 0, nI 0, [], 0),
  (2, .putfield 126, 12, 0, 0, [], 1180),
  (5, .iload_n 1, 0, 0, 0, [], 0),
  (6, .iconst 0, 0, 0, nI 0, [], 0),
  (7, .aload_n 0, 0, 0, 0, [], 0),
  (8, .getfield 132, 12, 9, 0, [], 1189),
  (11, .iconst 1, 0, 0, nI 1, [], 0),
  (12, .isub, 0, 0, 0, [], 0),
  (13, .invokestatic 142, 45, 0, 0, [], 1335),
  (16, .ifCond .eq 12, 16, 0, 0, [], 0),
  (19, .iload_n 2, 0, 0, 0, [], 0),
  (20, .iconst 0, 0, 0, nI 0, [], 0),
  (21, .iconst 5, 0, 0, nI 5, [], 0),
  (22, .invokestatic 142, 45, 0, 0, [], 1335),
  (25, .ifCond .ne 6, 18, 0, 0, [], 0),
  (28, .bipush (-2), 0, 0, (-2), [], 0),
  (30, .ireturn, 0, 0, 0, [], 0),
  (31, .aload_n 0, 0, 0, 0, [], 0),
  (32, .getfield 7, 12, 1, 0, [], 1181),
  (35, .sipush 1532, 0, 0, nI 1532, [], 0),
  (38, .sipush 200, 0, 0, nI 200, [], 0),
  (41, .iload_n 2, 0, 0, 0, [], 0),
  (42, .imul, 0, 0, 0, [], 0),
  (43, .iadd, 0, 0, 0, [], 0),
  (44, .iload_n 1, 0, 0, 0, [], 0),
  (45, .iadd, 0, 0, 0, [], 0),
  (46, .iaload, 0, 0, 0, [], 0),
  (47, .ireturn, 0, 0, 0, [], 0)]
/-- BikeTownModel.log(II)I -/
def cd121 : List Ent := [(0, .aload_n 0, 0, 0, 0, [], 0),
  (1, .iconst 0, 0, 0, nI 0, [], 0),
  (2, .putfield 126, 12, 0, 0, [], 1180),
  (5, .iload_n 1, 0, 0, 0, [], 0),
  (6, .ifCond .lt 12, 10, 0, 0, [], 0),
  (9, .iload_n 2, 0, 0, 0, [], 0),
  (10, .iconst 0, 0, 0, nI 0, [], 0),
  (11, .iconst 4, 0, 0, nI 4, [], 0),
  (12, .invokestatic 142, 45, 0, 0, [], 1335),
  (15, .ifCond .ne 6, 12, 0, 0, [], 0),
  (18, .bipush (-2), 0, 0, (-2), [], 0),
  (20, .ireturn, 0, 0, 0, [], 0),
  (21, .iload_n 1, 0, 0, 0, [], 0),
  (22, .aload_n 0, 0, 0, 0, [], 0),
  (23, .getfield 7, 12, 1, 0, [], 1181),
  (26, .bipush 7, 0, 0, nI 7, [], 0),
  (28, .iaload, 0, 0, 0, [], 0),
  (29, .if_icmp .ge 20, 29, 0, 0, [], 0),
  (32, .aload_n 0, 0, 0, 0, [], 0),
  (33, .getfield 7, 12, 1, 0, [], 1181),
  (36, .sipush 3184, 0, 0, nI 3184, [], 0),
  (39, .iconst 5, 0, 0, nI 5, [], 0),
  (40, .iload_n 1, 0, 0, 0, [], 0),
  (41, .imul, 0, 0, 0, [], 0),
  (42, .iadd, 0, 0, 0, [], 0),
  (43, .iload_n 2, 0, 0, 0, [], 0),
  (44, .iadd, 0, 0, 0, [], 0),
  (45, .iaload, 0, 0, 0, [], 0),
  (46, .goto 4, 30, 0, 0, [], 0),
  (49, .iconst (-1), 0, 0, (-1), [], 0),
  (50, .ireturn, 0, 0, 0, [], 0)]
/-- BikeTownModel.isLevel(I)Z -/
def cd122 : List Ent := [(0, .iload_n 0, 0, 0, 0, [], 0),
  (1, .iconst 0, 0, 0, nI 0, [], 0),
  (2, .iconst 4, 0, 0, nI 4, [], 0),
  (3, .invokestatic 142, 45, 0, 0, [], 1335),
  (6, .ireturn, 0, 0, 0, [], 0)]
/-- BikeTownModel.isStill(II)Z -/
def cd123 : List Ent := [(0, .aload_n 0, 0, 0, 0, [], 0),
  (1, .iconst 0, 0, 0, nI 0, [], 0),
  (2, .iload_n 1, 0, 0, 0, [], 0),
  (3, .iload_n 2, 0, 0, 0, [], 0),
  (4, .invokevirtual 269, 59, 0, 0, [], 1592),
  (7, .iload_n 1, 0, 0, 0, [], 0),
  (8, .if_icmp .ne 18, 16, 0, 0, [], 0),
  (11, .aload_n 0, 0, 0, 0, [], 0),
  (12, .iconst 1, 0, 0, nI 1, [], 0),
  (13, .iload_n 1, 0, 0, 0, [], 0),
  (14, .iload_n 2, 0, 0, 0, [], 0),
  (15, .invokevirtual 269, 59, 0, 0, [], 1592),
  (18, .iload_n 2, 0, 0, 0, [], 0),
  (19, .if_icmp .ne 7, 16, 0, 0, [], 0),
  (22, .iconst 1, 0, 0, nI 1, [], 0),
  (23, .goto 4, 17, 0, 0, [], 0),
  (26, .iconst 0, 0, 0, nI 0, [], 0),
  (27, .ireturn, 0, 0, 0, [], 0)]
/-- BikeTownModel.site(II)I -/
def cd124 : List Ent := [(0, .aload_n 0, 0, 0, 0, [], 0),
  (1, .iconst 0, 0, 0, nI 0, [], 0),
  (2, .putfield 126, 12, 0, 0, [], 1180),
  (5, .iload_n 1, 0, 0, 0, [], 0),
  (6, .iconst 0, 0, 0, nI 0, [], 0),
  (7, .bipush 100, 0, 0, nI 100, [], 0),
  (9, .invokestatic 142, 45, 0, 0, [], 1335),
  (12, .ifCond .eq 13, 13, 0, 0, [], 0),
  (15, .iload_n 2, 0, 0, 0, [], 0),
  (16, .iconst 0, 0, 0, nI 0, [], 0),
  (17, .bipush 100, 0, 0, nI 100, [], 0),
  (19, .invokestatic 142, 45, 0, 0, [], 1335),
  (22, .ifCond .ne 6, 15, 0, 0, [], 0),
  (25, .bipush (-2), 0, 0, (-2), [], 0),
  (27, .ireturn, 0, 0, 0, [], 0),
  (28, .aload_n 0, 0, 0, 0, [], 0),
  (29, .getfield 275, 12, 31, 0, [], 1211),
  (32, .bipush 12, 0, 0, nI 12, [], 0),
  (34, .if_icmp .ne 6, 21, 0, 0, [], 0),
  (37, .bipush (-4), 0, 0, (-4), [], 0),
  (39, .ireturn, 0, 0, 0, [], 0),
  (40, .aload_n 0, 0, 0, 0, [], 0),
  (41, .getfield 81, 12, 32, 0, [], 1212),
  (44, .aload_n 0, 0, 0, 0, [], 0),
  (45, .getfield 275, 12, 31, 0, [], 1211),
  (48, .iload_n 1, 0, 0, 0, [], 0),
  (49, .iastore, 0, 0, 0, [], 0),
  (50, .aload_n 0, 0, 0, 0, [], 0),
  (51, .getfield 84, 12, 33, 0, [], 1213),
  (54, .aload_n 0, 0, 0, 0, [], 0),
  (55, .getfield 275, 12, 31, 0, [], 1211),
  (58, .iload_n 2, 0, 0, 0, [], 0),
  (59, .iastore, 0, 0, 0, [], 0),
  (60, .aload_n 0, 0, 0, 0, [], 0),
  (61, .dup, 0, 0, 0, [], 0),
  (62, .getfield 275, 12, 31, 0, [], 1211),
  (65, .iconst 1, 0, 0, nI 1, [], 0),
  (66, .iadd, 0, 0, 0, [], 0),
  (67, .putfield 275, 12, 31, 0, [], 1211),
  (70, .aload_n 0, 0, 0, 0, [], 0),
  (71, .getfield 275, 12, 31, 0, [], 1211),
  (74, .iconst 1, 0, 0, nI 1, [], 0),
  (75, .isub, 0, 0, 0, [], 0),
  (76, .ireturn, 0, 0, 0, [], 0)]
/-- BikeTownModel.wish(III)I -/
def cd125 : List Ent := [(0, .aload_n 0, 0, 0, 0, [], 0),
  (1, .iconst 0, 0, 0, nI 0, [], 0),
  (2, .putfield 126, 12, 0, 0, [], 1180),
  (5, .iload_n 1, 0, 0, 0, [], 0),
  (6, .iconst 0, 0, 0, nI 0, [], 0),
  (7, .bipush 100, 0, 0, nI 100, [], 0),
  (9, .invokestatic 142, 45, 0, 0, [], 1335),
  (12, .ifCond .eq 23, 18, 0, 0, [], 0),
  (15, .iload_n 2, 0, 0, 0, [], 0),
  (16, .iconst 0, 0, 0, nI 0, [], 0),
  (17, .bipush 100, 0, 0, nI 100, [], 0),
  (19, .invokestatic 142, 45, 0, 0, [], 1335),
  (22, .ifCond .eq 13, 18, 0, 0, [], 0),
  (25, .iload_n 3, 0, 0, 0, [], 0),
  (26, .iconst 1, 0, 0, nI 1, [], 0),
  (27, .bipush 100, 0, 0, nI 100, [], 0),
  (29, .invokestatic 142, 45, 0, 0, [], 1335),
  (32, .ifCond .ne 6, 20, 0, 0, [], 0),
  (35, .bipush (-2), 0, 0, (-2), [], 0),
  (37, .ireturn, 0, 0, 0, [], 0),
  (38, .aload_n 0, 0, 0, 0, [], 0),
  (39, .getfield 278, 12, 34, 0, [], 1214),
  (42, .bipush 40, 0, 0, nI 40, [], 0),
  (44, .if_icmp .ne 6, 26, 0, 0, [], 0),
  (47, .bipush (-4), 0, 0, (-4), [], 0),
  (49, .ireturn, 0, 0, 0, [], 0),
  (50, .aload_n 0, 0, 0, 0, [], 0),
  (51, .getfield 87, 12, 35, 0, [], 1215),
  (54, .aload_n 0, 0, 0, 0, [], 0),
  (55, .getfield 278, 12, 34, 0, [], 1214),
  (58, .iload_n 1, 0, 0, 0, [], 0),
  (59, .iastore, 0, 0, 0, [], 0),
  (60, .aload_n 0, 0, 0, 0, [], 0),
  (61, .getfield 90, 12, 36, 0, [], 1216),
  (64, .aload_n 0, 0, 0, 0, [], 0),
  (65, .getfield 278, 12, 34, 0, [], 1214),
  (68, .iload_n 2, 0, 0, 0, [], 0),
  (69, .iastore, 0, 0, 0, [], 0),
  (70, .aload_n 0, 0, 0, 0, [], 0),
  (71, .getfield 93, 12, 37, 0, [], 1217),
  (74, .aload_n 0, 0, 0, 0, [], 0),
  (75, .getfield 278, 12, 34, 0, [], 1214),
  (78, .iload_n 3, 0, 0, 0, [], 0),
  (79, .iastore, 0, 0, 0, [], 0),
  (80, .aload_n 0, 0, 0, 0, [], 0),
  (81, .dup, 0, 0, 0, [], 0),
  (82, .getfield 278, 12, 34, 0, [], 1214),
  (85, .iconst 1, 0, 0, nI 1, [], 0),
  (86, .iadd, 0, 0, 0, [], 0),
  (87, .putfield 278, 12, 34, 0, [], 1214),
  (90, .aload_n 0, 0, 0, 0, [], 0),
  (91, .getfield 278, 12, 34, 0, [], 1214),
  (94, .iconst 1, 0, 0, nI 1, [], 0),
  (95, .isub, 0, 0, 0, [], 0),
  (96, .ireturn, 0, 0, 0, [], 0)]
/-- BikeTownModel.nearest(II)I -/
def cd126 : List Ent := [(0, .sipush 1000, 0, 0, nI 1000, [], 0),
  (3, .istore_n 3, 0, 0, 0, [], 0),
  (4, .iconst 0, 0, 0, nI 0, [], 0),
  (5, .istore 4, 0, 0, 0, [], 0),
  (7, .iload 4, 0, 0, 0, [], 0),
  (9, .aload_n 0, 0, 0, 0, [], 0),
  (10, .getfield 139, 12, 3, 0, [], 1183),
  (13, .if_icmp .ge 73, 47, 0, 0, [], 0),
  (16, .aload_n 0, 0, 0, 0, [], 0),
  (17, .getfield 16, 12, 4, 0, [], 1184),
  (20, .iload 4, 0, 0, 0, [], 0),
  (22, .iaload, 0, 0, 0, [], 0),
  (23, .aload_n 0, 0, 0, 0, [], 0),
  (24, .getfield 87, 12, 35, 0, [], 1215),
  (27, .iload_n 1, 0, 0, 0, [], 0),
  (28, .iaload, 0, 0, 0, [], 0),
  (29, .isub, 0, 0, 0, [], 0),
  (30, .invokestatic 217, 56, 0, 0, [], 1461),
  (33, .aload_n 0, 0, 0, 0, [], 0),
  (34, .getfield 19, 12, 5, 0, [], 1185),
  (37, .iload 4, 0, 0, 0, [], 0),
  (39, .iaload, 0, 0, 0, [], 0),
  (40, .aload_n 0, 0, 0, 0, [], 0),
  (41, .getfield 90, 12, 36, 0, [], 1216),
  (44, .iload_n 1, 0, 0, 0, [], 0),
  (45, .iaload, 0, 0, 0, [], 0),
  (46, .isub, 0, 0, 0, [], 0),
  (47, .invokestatic 217, 56, 0, 0, [], 1461),
  (50, .iadd, 0, 0, 0, [], 0),
  (51, .istore 5, 0, 0, 0, [], 0),
  (53, .aload_n 0, 0, 0, 0, [], 0),
  (54, .getfield 7, 12, 1, 0, [], 1181),
  (57, .bipush 20, 0, 0, nI 20, [], 0),
  (59, .iload 4, 0, 0, 0, [], 0),
  (61, .iadd, 0, 0, 0, [], 0),
  (62, .iaload, 0, 0, 0, [], 0),
  (63, .iconst 1, 0, 0, nI 1, [], 0),
  (64, .if_icmp .ne 14, 43, 0, 0, [], 0),
  (67, .iload 5, 0, 0, 0, [], 0),
  (69, .iload_n 3, 0, 0, 0, [], 0),
  (70, .if_icmp .ge 8, 43, 0, 0, [], 0),
  (73, .iload 5, 0, 0, 0, [], 0),
  (75, .goto 4, 44, 0, 0, [], 0),
  (78, .iload_n 3, 0, 0, 0, [], 0),
  (79, .istore_n 3, 0, 0, 0, [], 0),
  (80, .iinc 4 1, 0, 0, nI 1, [], 0),
  (83, .goto (-76), 4, 0, 0, [], 0),
  (86, .iconst 0, 0, 0, nI 0, [], 0),
  (87, .istore 4, 0, 0, 0, [], 0),
  (89, .iload 4, 0, 0, 0, [], 0),
  (91, .aload_n 0, 0, 0, 0, [], 0),
  (92, .getfield 275, 12, 31, 0, [], 1211),
  (95, .if_icmp .ge 69, 91, 0, 0, [], 0),
  (98, .aload_n 0, 0, 0, 0, [], 0),
  (99, .getfield 81, 12, 32, 0, [], 1212),
  (102, .iload 4, 0, 0, 0, [], 0),
  (104, .iaload, 0, 0, 0, [], 0),
  (105, .aload_n 0, 0, 0, 0, [], 0),
  (106, .getfield 87, 12, 35, 0, [], 1215),
  (109, .iload_n 1, 0, 0, 0, [], 0),
  (110, .iaload, 0, 0, 0, [], 0),
  (111, .isub, 0, 0, 0, [], 0),
  (112, .invokestatic 217, 56, 0, 0, [], 1461),
  (115, .aload_n 0, 0, 0, 0, [], 0),
  (116, .getfield 84, 12, 33, 0, [], 1213),
  (119, .iload 4, 0, 0, 0, [], 0),
  (121, .iaload, 0, 0, 0, [], 0),
  (122, .aload_n 0, 0, 0, 0, [], 0),
  (123, .getfield 90, 12, 36, 0, [], 1216),
  (126, .iload_n 1, 0, 0, 0, [], 0),
  (127, .iaload, 0, 0, 0, [], 0),
  (128, .isub, 0, 0, 0, [], 0),
  (129, .invokestatic 217, 56, 0, 0, [], 1461),
  (132, .iadd, 0, 0, 0, [], 0),
  (133, .istore 5, 0, 0, 0, [], 0),
  (135, .iload_n 2, 0, 0, 0, [], 0),
  (136, .iload 4, 0, 0, 0, [], 0),
  (138, .ishr, 0, 0, 0, [], 0),
  (139, .iconst 1, 0, 0, nI 1, [], 0),
  (140, .iand, 0, 0, 0, [], 0),
  (141, .iconst 1, 0, 0, nI 1, [], 0),
  (142, .if_icmp .ne 14, 87, 0, 0, [], 0),
  (145, .iload 5, 0, 0, 0, [], 0),
  (147, .iload_n 3, 0, 0, 0, [], 0),
  (148, .if_icmp .ge 8, 87, 0, 0, [], 0),
  (151, .iload 5, 0, 0, 0, [], 0),
  (153, .goto 4, 88, 0, 0, [], 0),
  (156, .iload_n 3, 0, 0, 0, [], 0),
  (157, .istore_n 3, 0, 0, 0, [], 0),
  (158, .iinc 4 1, 0, 0, nI 1, [], 0),
  (161, .goto (-72), 49, 0, 0, [], 0),
  (164, .iload_n 3, 0, 0, 0, [], 0),
  (165, .ireturn, 0, 0, 0, [], 0)]
/-- BikeTownModel.test(IZ)I -/
def cd127 : List Ent := [(0, .aload_n 0, 0, 0, 0, [], 0),
  (1, .iconst 0, 0, 0, nI 0, [], 0),
  (2, .putfield 126, 12, 0, 0, [], 1180),
  (5, .iload_n 1, 0, 0, 0, [], 0),
  (6, .iconst 0, 0, 0, nI 0, [], 0),
  (7, .bipush 100, 0, 0, nI 100, [], 0),
  (9, .invokestatic 142, 45, 0, 0, [], 1335),
  (12, .ifCond .ne 6, 10, 0, 0, [], 0),
  (15, .bipush (-2), 0, 0, (-2), [], 0),
  (17, .ireturn, 0, 0, 0, [], 0),
  (18, .aload_n 0, 0, 0, 0, [], 0),
  (19, .getfield 284, 12, 38, 0, [], 1218),
  (22, .bipush 60, 0, 0, nI 60, [], 0),
  (24, .if_icmp .ne 6, 16, 0, 0, [], 0),
  (27, .bipush (-4), 0, 0, (-4), [], 0),
  (29, .ireturn, 0, 0, 0, [], 0),
  (30, .aload_n 0, 0, 0, 0, [], 0),
  (31, .getfield 96, 12, 39, 0, [], 1219),
  (34, .aload_n 0, 0, 0, 0, [], 0),
  (35, .getfield 284, 12, 38, 0, [], 1218),
  (38, .iload_n 1, 0, 0, 0, [], 0),
  (39, .iastore, 0, 0, 0, [], 0),
  (40, .aload_n 0, 0, 0, 0, [], 0),
  (41, .getfield 99, 12, 40, 0, [], 1220),
  (44, .aload_n 0, 0, 0, 0, [], 0),
  (45, .getfield 284, 12, 38, 0, [], 1218),
  (48, .iload_n 2, 0, 0, 0, [], 0),
  (49, .bastore, 0, 0, 0, [], 0),
  (50, .aload_n 0, 0, 0, 0, [], 0),
  (51, .dup, 0, 0, 0, [], 0),
  (52, .getfield 284, 12, 38, 0, [], 1218),
  (55, .iconst 1, 0, 0, nI 1, [], 0),
  (56, .iadd, 0, 0, 0, [], 0),
  (57, .putfield 284, 12, 38, 0, [], 1218),
  (60, .aload_n 0, 0, 0, 0, [], 0),
  (61, .getfield 284, 12, 38, 0, [], 1218),
  (64, .ireturn, 0, 0, 0, [], 0)]
/-- BikeTownModel.line(II)I -/
def cd128 : List Ent := [(0, .aload_n 0, 0, 0, 0, [], 0),
  (1, .iconst 0, 0, 0, nI 0, [], 0),
  (2, .putfield 126, 12, 0, 0, [], 1180),
  (5, .iload_n 1, 0, 0, 0, [], 0),
  (6, .iconst 0, 0, 0, nI 0, [], 0),
  (7, .sipush 1000, 0, 0, nI 1000, [], 0),
  (10, .invokestatic 142, 45, 0, 0, [], 1335),
  (13, .ifCond .eq 12, 13, 0, 0, [], 0),
  (16, .iload_n 2, 0, 0, 0, [], 0),
  (17, .iconst 0, 0, 0, nI 0, [], 0),
  (18, .iconst 2, 0, 0, nI 2, [], 0),
  (19, .invokestatic 142, 45, 0, 0, [], 1335),
  (22, .ifCond .ne 6, 15, 0, 0, [], 0),
  (25, .bipush (-2), 0, 0, (-2), [], 0),
  (27, .ireturn, 0, 0, 0, [], 0),
  (28, .iconst 0, 0, 0, nI 0, [], 0),
  (29, .istore_n 3, 0, 0, 0, [], 0),
  (30, .aload_n 0, 0, 0, 0, [], 0),
  (31, .iload_n 3, 0, 0, 0, [], 0),
  (32, .iconst 0, 0, 0, nI 0, [], 0),
  (33, .invokevirtual 287, 60, 0, 0, [], 1628),
  (36, .sipush 1000, 0, 0, nI 1000, [], 0),
  (39, .imul, 0, 0, 0, [], 0),
  (40, .iload_n 1, 0, 0, 0, [], 0),
  (41, .aload_n 0, 0, 0, 0, [], 0),
  (42, .iconst 0, 0, 0, nI 0, [], 0),
  (43, .iconst 0, 0, 0, nI 0, [], 0),
  (44, .invokevirtual 287, 60, 0, 0, [], 1628),
  (47, .imul, 0, 0, 0, [], 0),
  (48, .if_icmp .le 9, 32, 0, 0, [], 0),
  (51, .iinc 3 1, 0, 0, nI 1, [], 0),
  (54, .goto (-24), 17, 0, 0, [], 0),
  (57, .iload_n 2, 0, 0, 0, [], 0),
  (58, .ifCond .ne 7, 36, 0, 0, [], 0),
  (61, .iload_n 3, 0, 0, 0, [], 0),
  (62, .goto 18, 45, 0, 0, [], 0),
  (65, .aload_n 0, 0, 0, 0, [], 0),
  (66, .iload_n 3, 0, 0, 0, [], 0),
  (67, .iload_n 2, 0, 0, 0, [], 0),
  (68, .iconst 1, 0, 0, nI 1, [], 0),
  (69, .if_icmp .ne 7, 43, 0, 0, [], 0),
  (72, .iconst 1, 0, 0, nI 1, [], 0),
  (73, .goto 4, 44, 0, 0, [], 0),
  (76, .iconst 0, 0, 0, nI 0, [], 0),
  (77, .invokevirtual 287, 60, 0, 0, [], 1628),
  (80, .ireturn, 0, 0, 0, [], 0)]
/-- BikeTown$Day.doByHand(III)V -/
def cd129 : List Ent := [(0, .iload_n 1, 0, 0, 0, [], 0),
  (1, .tableswitch 127 0 4 #[35, 45, 62, 70, 102], 54, 0, 0, [(nI 0, 2), (nI 1, 8), (nI 2, 17), (nI 3, 21), (nI 4, 40)], 0),
  (36, .aload_n 0, 0, 0, 0, [], 0),
  (37, .getfield 22, 0, 6, 0, [], 364),
  (40, .iload_n 2, 0, 0, 0, [], 0),
  (41, .iload_n 3, 0, 0, 0, [], 0),
  (42, .iastore, 0, 0, 0, [], 0),
  (43, .goto 94, 59, 0, 0, [], 0),
  (46, .aload_n 0, 0, 0, 0, [], 0),
  (47, .iload_n 2, 0, 0, 0, [], 0),
  (48, .iload_n 3, 0, 0, 0, [], 0),
  (49, .ifCond .eq 7, 14, 0, 0, [], 0),
  (52, .iconst 1, 0, 0, nI 1, [], 0),
  (53, .goto 4, 15, 0, 0, [], 0),
  (56, .iconst 0, 0, 0, nI 0, [], 0),
  (57, .invokevirtual 170, 70, 0, 0, [], 632),
  (60, .goto 77, 59, 0, 0, [], 0),
  (63, .aload_n 0, 0, 0, 0, [], 0),
  (64, .iload_n 2, 0, 0, 0, [], 0),
  (65, .invokevirtual 174, 68, 0, 0, [], 640),
  (68, .goto 69, 59, 0, 0, [], 0),
  (71, .aload_n 0, 0, 0, 0, [], 0),
  (72, .iload_n 2, 0, 0, 0, [], 0),
  (73, .iconst 4, 0, 0, nI 4, [], 0),
  (74, .invokevirtual 177, 66, 0, 0, [], 649),
  (77, .aload_n 0, 0, 0, 0, [], 0),
  (78, .getfield 71, 0, 2, 0, [], 357),
  (81, .bipush 9, 0, 0, nI 9, [], 0),
  (83, .aload_n 0, 0, 0, 0, [], 0),
  (84, .getfield 75, 0, 4, 0, [], 361),
  (87, .aload_n 0, 0, 0, 0, [], 0),
  (88, .getfield 41, 0, 11, 0, [], 371),
  (91, .iconst 1, 0, 0, nI 1, [], 0),
  (92, .aaload, 0, 0, 0, [], 0),
  (93, .iload_n 2, 0, 0, 0, [], 0),
  (94, .iaload, 0, 0, 0, [], 0),
  (95, .iconst (-1), 0, 0, (-1), [], 0),
  (96, .iload_n 2, 0, 0, 0, [], 0),
  (97, .invokevirtual 150, 8, 0, 0, [], 636),
  (100, .goto 37, 59, 0, 0, [], 0),
  (103, .aload_n 0, 0, 0, 0, [], 0),
  (104, .iload_n 2, 0, 0, 0, [], 0),
  (105, .iload_n 3, 0, 0, 0, [], 0),
  (106, .invokevirtual 107, 3, 0, 0, [], 587),
  (109, .aload_n 0, 0, 0, 0, [], 0),
  (110, .getfield 71, 0, 2, 0, [], 357),
  (113, .bipush 10, 0, 0, nI 10, [], 0),
  (115, .aload_n 0, 0, 0, 0, [], 0),
  (116, .getfield 75, 0, 4, 0, [], 361),
  (119, .iload_n 3, 0, 0, 0, [], 0),
  (120, .iconst (-1), 0, 0, (-1), [], 0),
  (121, .iload_n 2, 0, 0, 0, [], 0),
  (122, .invokevirtual 150, 8, 0, 0, [], 636),
  (125, .goto 12, 59, 0, 0, [], 0),
  (128, .aload_n 0, 0, 0, 0, [], 0),
  (129, .getfield 12, 0, 3, 0, [], 359),
  (132, .iload_n 2, 0, 0, 0, [], 0),
  (133, .iload_n 3, 0, 0, 0, [], 0),
  (134, .invokevirtual 180, 34, 0, 0, [], 653),
  (137, .return_, 0, 0, 0, [], 0)]
/-- BikeTown$Day.nearestThatTakes(I)I -/
def cd130 : List Ent := [(0, .iconst (-1), 0, 0, (-1), [], 0),
  (1, .istore_n 2, 0, 0, 0, [], 0),
  (2, .iconst 0, 0, 0, nI 0, [], 0),
  (3, .istore_n 3, 0, 0, 0, [], 0),
  (4, .iconst 0, 0, 0, nI 0, [], 0),
  (5, .istore 4, 0, 0, 0, [], 0),
  (7, .iload 4, 0, 0, 0, [], 0),
  (9, .aload_n 0, 0, 0, 0, [], 0),
  (10, .getfield 58, 0, 0, 0, [], 355),
  (13, .getfield 78, 8, 0, 0, [], 113),
  (16, .if_icmp .ge 56, 37, 0, 0, [], 0),
  (19, .iload 4, 0, 0, 0, [], 0),
  (21, .iload_n 1, 0, 0, 0, [], 0),
  (22, .if_icmp .eq 44, 35, 0, 0, [], 0),
  (25, .aload_n 0, 0, 0, 0, [], 0),
  (26, .iload 4, 0, 0, 0, [], 0),
  (28, .invokevirtual 210, 65, 0, 0, [], 743),
  (31, .ifCond .ne 6, 19, 0, 0, [], 0),
  (34, .goto 32, 35, 0, 0, [], 0),
  (37, .aload_n 0, 0, 0, 0, [], 0),
  (38, .getfield 58, 0, 0, 0, [], 355),
  (41, .iload_n 1, 0, 0, 0, [], 0),
  (42, .iload 4, 0, 0, 0, [], 0),
  (44, .invokevirtual 219, 89, 0, 0, [], 755),
  (47, .istore 5, 0, 0, 0, [], 0),
  (49, .iload_n 2, 0, 0, 0, [], 0),
  (50, .iconst (-1), 0, 0, (-1), [], 0),
  (51, .if_icmp .eq 9, 31, 0, 0, [], 0),
  (54, .iload 5, 0, 0, 0, [], 0),
  (56, .iload_n 3, 0, 0, 0, [], 0),
  (57, .if_icmp .ge 9, 35, 0, 0, [], 0),
  (60, .iload 4, 0, 0, 0, [], 0),
  (62, .istore_n 2, 0, 0, 0, [], 0),
  (63, .iload 5, 0, 0, 0, [], 0),
  (65, .istore_n 3, 0, 0, 0, [], 0),
  (66, .iinc 4 1, 0, 0, nI 1, [], 0),
  (69, .goto (-62), 6, 0, 0, [], 0),
  (72, .iload_n 2, 0, 0, 0, [], 0),
  (73, .ireturn, 0, 0, 0, [], 0)]
/-- BikeTown$Day.sendToShop(I)V -/
def cd131 : List Ent := [(0, .aload_n 0, 0, 0, 0, [], 0),
  (1, .getfield 58, 0, 0, 0, [], 355),
  (4, .iload_n 1, 0, 0, 0, [], 0),
  (5, .invokevirtual 207, 26, 0, 0, [], 742),
  (8, .ifCond .ne 4, 6, 0, 0, [], 0),
  (11, .return_, 0, 0, 0, [], 0),
  (12, .aload_n 0, 0, 0, 0, [], 0),
  (13, .iload_n 1, 0, 0, 0, [], 0),
  (14, .iconst 3, 0, 0, nI 3, [], 0),
  (15, .invokevirtual 177, 66, 0, 0, [], 649),
  (18, .aload_n 0, 0, 0, 0, [], 0),
  (19, .getfield 44, 0, 12, 0, [], 373),
  (22, .iload_n 1, 0, 0, 0, [], 0),
  (23, .aload_n 0, 0, 0, 0, [], 0),
  (24, .getfield 75, 0, 4, 0, [], 361),
  (27, .aload_n 0, 0, 0, 0, [], 0),
  (28, .getfield 58, 0, 0, 0, [], 355),
  (31, .getfield 257, 8, 3, 0, [], 124),
  (34, .iadd, 0, 0, 0, [], 0),
  (35, .iastore, 0, 0, 0, [], 0),
  (36, .aload_n 0, 0, 0, 0, [], 0),
  (37, .getfield 71, 0, 2, 0, [], 357),
  (40, .bipush 7, 0, 0, nI 7, [], 0),
  (42, .aload_n 0, 0, 0, 0, [], 0),
  (43, .getfield 75, 0, 4, 0, [], 361),
  (46, .aload_n 0, 0, 0, 0, [], 0),
  (47, .getfield 41, 0, 11, 0, [], 371),
  (50, .iconst 1, 0, 0, nI 1, [], 0),
  (51, .aaload, 0, 0, 0, [], 0),
  (52, .iload_n 1, 0, 0, 0, [], 0),
  (53, .iaload, 0, 0, 0, [], 0),
  (54, .iconst (-1), 0, 0, (-1), [], 0),
  (55, .iload_n 1, 0, 0, 0, [], 0),
  (56, .invokevirtual 150, 8, 0, 0, [], 636),
  (59, .return_, 0, 0, 0, [], 0)]
/-- BikeTown$Day.vanTakes(I)V -/
def cd132 : List Ent := [(0, .aload_n 0, 0, 0, 0, [], 0),
  (1, .getfield 12, 0, 3, 0, [], 359),
  (4, .getfield 284, 10, 1, 0, [], 278),
  (7, .bipush 12, 0, 0, nI 12, [], 0),
  (9, .if_icmp .ge 11, 9, 0, 0, [], 0),
  (12, .aload_n 0, 0, 0, 0, [], 0),
  (13, .iload_n 1, 0, 0, 0, [], 0),
  (14, .invokevirtual 287, 67, 0, 0, [], 828),
  (17, .goto 4, 10, 0, 0, [], 0),
  (20, .iconst (-1), 0, 0, (-1), [], 0),
  (21, .istore_n 2, 0, 0, 0, [], 0),
  (22, .iload_n 2, 0, 0, 0, [], 0),
  (23, .iconst (-1), 0, 0, (-1), [], 0),
  (24, .if_icmp .ne 4, 15, 0, 0, [], 0),
  (27, .return_, 0, 0, 0, [], 0),
  (28, .aload_n 0, 0, 0, 0, [], 0),
  (29, .iload_n 2, 0, 0, 0, [], 0),
  (30, .iconst 2, 0, 0, nI 2, [], 0),
  (31, .invokevirtual 177, 66, 0, 0, [], 649),
  (34, .aload_n 0, 0, 0, 0, [], 0),
  (35, .getfield 41, 0, 11, 0, [], 371),
  (38, .iconst 1, 0, 0, nI 1, [], 0),
  (39, .aaload, 0, 0, 0, [], 0),
  (40, .iload_n 2, 0, 0, 0, [], 0),
  (41, .iconst (-1), 0, 0, (-1), [], 0),
  (42, .iastore, 0, 0, 0, [], 0),
  (43, .aload_n 0, 0, 0, 0, [], 0),
  (44, .getfield 12, 0, 3, 0, [], 359),
  (47, .iload_n 2, 0, 0, 0, [], 0),
  (48, .invokevirtual 290, 36, 0, 0, [], 832),
  (51, .aload_n 0, 0, 0, 0, [], 0),
  (52, .getfield 71, 0, 2, 0, [], 357),
  (55, .iconst 5, 0, 0, nI 5, [], 0),
  (56, .aload_n 0, 0, 0, 0, [], 0),
  (57, .getfield 75, 0, 4, 0, [], 361),
  (60, .iload_n 1, 0, 0, 0, [], 0),
  (61, .iconst (-1), 0, 0, (-1), [], 0),
  (62, .iload_n 2, 0, 0, 0, [], 0),
  (63, .invokevirtual 150, 8, 0, 0, [], 636),
  (66, .return_, 0, 0, 0, [], 0)]
/-- BikeTown$Day.takeBike(III)V -/
def cd133 : List Ent := [(0, .aload_n 0, 0, 0, 0, [], 0),
  (1, .getfield 58, 0, 0, 0, [], 355),
  (4, .getfield 318, 8, 11, 0, [], 141),
  (7, .iload_n 1, 0, 0, 0, [], 0),
  (8, .iaload, 0, 0, 0, [], 0),
  (9, .istore 4, 0, 0, 0, [], 0),
  (11, .aload_n 0, 0, 0, 0, [], 0),
  (12, .iload_n 2, 0, 0, 0, [], 0),
  (13, .iconst 1, 0, 0, nI 1, [], 0),
  (14, .invokevirtual 177, 66, 0, 0, [], 649),
  (17, .aload_n 0, 0, 0, 0, [], 0),
  (18, .getfield 41, 0, 11, 0, [], 371),
  (21, .iconst 1, 0, 0, nI 1, [], 0),
  (22, .aaload, 0, 0, 0, [], 0),
  (23, .iload_n 2, 0, 0, 0, [], 0),
  (24, .iload 4, 0, 0, 0, [], 0),
  (26, .iastore, 0, 0, 0, [], 0),
  (27, .aload_n 0, 0, 0, 0, [], 0),
  (28, .getfield 47, 0, 13, 0, [], 374),
  (31, .iconst 0, 0, 0, nI 0, [], 0),
  (32, .aaload, 0, 0, 0, [], 0),
  (33, .iload_n 1, 0, 0, 0, [], 0),
  (34, .iconst 2, 0, 0, nI 2, [], 0),
  (35, .iastore, 0, 0, 0, [], 0),
  (36, .aload_n 0, 0, 0, 0, [], 0),
  (37, .getfield 47, 0, 13, 0, [], 374),
  (40, .iconst 1, 0, 0, nI 1, [], 0),
  (41, .aaload, 0, 0, 0, [], 0),
  (42, .iload_n 1, 0, 0, 0, [], 0),
  (43, .iload_n 2, 0, 0, 0, [], 0),
  (44, .iastore, 0, 0, 0, [], 0),
  (45, .aload_n 0, 0, 0, 0, [], 0),
  (46, .getfield 47, 0, 13, 0, [], 374),
  (49, .iconst 2, 0, 0, nI 2, [], 0),
  (50, .aaload, 0, 0, 0, [], 0),
  (51, .iload_n 1, 0, 0, 0, [], 0),
  (52, .aload_n 0, 0, 0, 0, [], 0),
  (53, .getfield 75, 0, 4, 0, [], 361),
  (56, .iastore, 0, 0, 0, [], 0),
  (57, .aload_n 0, 0, 0, 0, [], 0),
  (58, .getfield 47, 0, 13, 0, [], 374),
  (61, .iconst 5, 0, 0, nI 5, [], 0),
  (62, .aaload, 0, 0, 0, [], 0),
  (63, .iload_n 1, 0, 0, 0, [], 0),
  (64, .aload_n 0, 0, 0, 0, [], 0),
  (65, .getfield 22, 0, 6, 0, [], 364),
  (68, .iload_n 3, 0, 0, 0, [], 0),
  (69, .iaload, 0, 0, 0, [], 0),
  (70, .iastore, 0, 0, 0, [], 0),
  (71, .aload_n 0, 0, 0, 0, [], 0),
  (72, .getfield 50, 0, 14, 0, [], 376),
  (75, .iload_n 1, 0, 0, 0, [], 0),
  (76, .aload_n 0, 0, 0, 0, [], 0),
  (77, .getfield 75, 0, 4, 0, [], 361),
  (80, .aload_n 0, 0, 0, 0, [], 0),
  (81, .getfield 58, 0, 0, 0, [], 355),
  (84, .iload_n 3, 0, 0, 0, [], 0),
  (85, .iload 4, 0, 0, 0, [], 0),
  (87, .invokevirtual 219, 89, 0, 0, [], 755),
  (90, .iadd, 0, 0, 0, [], 0),
  (91, .iastore, 0, 0, 0, [], 0),
  (92, .aload_n 0, 0, 0, 0, [], 0),
  (93, .getfield 71, 0, 2, 0, [], 357),
  (96, .iload_n 3, 0, 0, 0, [], 0),
  (97, .aload_n 0, 0, 0, 0, [], 0),
  (98, .invokevirtual 253, 5, 0, 0, [], 778),
  (101, .aload_n 0, 0, 0, 0, [], 0),
  (102, .getfield 22, 0, 6, 0, [], 364),
  (105, .iload_n 3, 0, 0, 0, [], 0),
  (106, .iaload, 0, 0, 0, [], 0),
  (107, .invokevirtual 321, 82, 0, 0, [], 864),
  (110, .aload_n 0, 0, 0, 0, [], 0),
  (111, .getfield 71, 0, 2, 0, [], 357),
  (114, .iconst 1, 0, 0, nI 1, [], 0),
  (115, .aload_n 0, 0, 0, 0, [], 0),
  (116, .getfield 75, 0, 4, 0, [], 361),
  (119, .iload_n 3, 0, 0, 0, [], 0),
  (120, .iload_n 1, 0, 0, 0, [], 0),
  (121, .iload_n 2, 0, 0, 0, [], 0),
  (122, .invokevirtual 150, 8, 0, 0, [], 636),
  (125, .return_, 0, 0, 0, [], 0)]
/-- BikeTown$Diary.clear()V -/
def cd134 : List Ent := [(0, .aload_n 0, 0, 0, 0, [], 0),
  (1, .iconst 0, 0, 0, nI 0, [], 0),
  (2, .putfield 42, 2, 1, 0, [], 317),
  (5, .aload_n 0, 0, 0, 0, [], 0),
  (6, .iconst 0, 0, 0, nI 0, [], 0),
  (7, .putfield 45, 2, 2, 0, [], 319),
  (10, .iconst 0, 0, 0, nI 0, [], 0),
  (11, .istore_n 1, 0, 0, 0, [], 0),
  (12, .iload_n 1, 0, 0, 0, [], 0),
  (13, .bipush 12, 0, 0, nI 12, [], 0),
  (15, .if_icmp .ge 49, 37, 0, 0, [], 0),
  (18, .aload_n 0, 0, 0, 0, [], 0),
  (19, .getfield 11, 2, 4, 0, [], 323),
  (22, .iload_n 1, 0, 0, 0, [], 0),
  (23, .aaload, 0, 0, 0, [], 0),
  (24, .iconst 0, 0, 0, nI 0, [], 0),
  (25, .invokestatic 48, 63, 0, 0, [], 733),
  (28, .aload_n 0, 0, 0, 0, [], 0),
  (29, .getfield 16, 2, 5, 0, [], 327),
  (32, .iload_n 1, 0, 0, 0, [], 0),
  (33, .aaload, 0, 0, 0, [], 0),
  (34, .iconst 0, 0, 0, nI 0, [], 0),
  (35, .invokestatic 48, 63, 0, 0, [], 733),
  (38, .aload_n 0, 0, 0, 0, [], 0),
  (39, .getfield 19, 2, 6, 0, [], 330),
  (42, .iload_n 1, 0, 0, 0, [], 0),
  (43, .aaload, 0, 0, 0, [], 0),
  (44, .iconst 0, 0, 0, nI 0, [], 0),
  (45, .invokestatic 48, 63, 0, 0, [], 733),
  (48, .aload_n 0, 0, 0, 0, [], 0),
  (49, .getfield 22, 2, 7, 0, [], 333),
  (52, .iload_n 1, 0, 0, 0, [], 0),
  (53, .aaload, 0, 0, 0, [], 0),
  (54, .iconst 0, 0, 0, nI 0, [], 0),
  (55, .invokestatic 48, 63, 0, 0, [], 733),
  (58, .iinc 1 1, 0, 0, nI 1, [], 0),
  (61, .goto (-49), 8, 0, 0, [], 0),
  (64, .aload_n 0, 0, 0, 0, [], 0),
  (65, .invokevirtual 54, 81, 0, 0, [], 895),
  (68, .return_, 0, 0, 0, [], 0)]
/-- BikeTown$Houses.bestLevel(III)I -/
def cd135 : List Ent := [(0, .iload_n 1, 0, 0, 0, [], 0),
  (1, .ifCond .ne 7, 4, 0, 0, [], 0),
  (4, .iload_n 2, 0, 0, 0, [], 0),
  (5, .goto 4, 5, 0, 0, [], 0),
  (8, .iload_n 3, 0, 0, 0, [], 0),
  (9, .istore 4, 0, 0, 0, [], 0),
  (11, .iconst 0, 0, 0, nI 0, [], 0),
  (12, .istore 5, 0, 0, 0, [], 0),
  (14, .iconst 1, 0, 0, nI 1, [], 0),
  (15, .istore 6, 0, 0, 0, [], 0),
  (17, .iload 6, 0, 0, 0, [], 0),
  (19, .iconst 5, 0, 0, nI 5, [], 0),
  (20, .if_icmp .ge 34, 30, 0, 0, [], 0),
  (23, .aload_n 0, 0, 0, 0, [], 0),
  (24, .iload_n 1, 0, 0, 0, [], 0),
  (25, .iload_n 2, 0, 0, 0, [], 0),
  (26, .iload_n 3, 0, 0, 0, [], 0),
  (27, .iload 6, 0, 0, 0, [], 0),
  (29, .invokevirtual 24, 84, 0, 0, [], 1064),
  (32, .aload_n 0, 0, 0, 0, [], 0),
  (33, .iload_n 1, 0, 0, 0, [], 0),
  (34, .iload_n 2, 0, 0, 0, [], 0),
  (35, .iload_n 3, 0, 0, 0, [], 0),
  (36, .iload 5, 0, 0, 0, [], 0),
  (38, .invokevirtual 24, 84, 0, 0, [], 1064),
  (41, .if_icmp .le 7, 28, 0, 0, [], 0),
  (44, .iload 6, 0, 0, 0, [], 0),
  (46, .istore 5, 0, 0, 0, [], 0),
  (48, .iinc 6 1, 0, 0, nI 1, [], 0),
  (51, .goto (-34), 10, 0, 0, [], 0),
  (54, .aload_n 0, 0, 0, 0, [], 0),
  (55, .iload_n 1, 0, 0, 0, [], 0),
  (56, .iload_n 2, 0, 0, 0, [], 0),
  (57, .iload_n 3, 0, 0, 0, [], 0),
  (58, .iload 4, 0, 0, 0, [], 0),
  (60, .invokevirtual 24, 84, 0, 0, [], 1064),
  (63, .aload_n 0, 0, 0, 0, [], 0),
  (64, .iload_n 1, 0, 0, 0, [], 0),
  (65, .iload_n 2, 0, 0, 0, [], 0),
  (66, .iload_n 3, 0, 0, 0, [], 0),
  (67, .iload 5, 0, 0, 0, [], 0),
  (69, .invokevirtual 24, 84, 0, 0, [], 1064),
  (72, .if_icmp .ne 8, 45, 0, 0, [], 0),
  (75, .iload 4, 0, 0, 0, [], 0),
  (77, .goto 5, 46, 0, 0, [], 0),
  (80, .iload 5, 0, 0, 0, [], 0),
  (82, .ireturn, 0, 0, 0, [], 0)]
/-- BikeTown$Round.waysVia(LBikeTown$Told;III)I -/
def cd136 : List Ent := [(0, .aload_n 1, 0, 0, 0, [], 0),
  (1, .aload_n 0, 0, 0, 0, [], 0),
  (2, .getfield 15, 5, 1, 0, [], 437),
  (5, .iload_n 3, 0, 0, 0, [], 0),
  (6, .iaload, 0, 0, 0, [], 0),
  (7, .aload_n 0, 0, 0, 0, [], 0),
  (8, .getfield 15, 5, 1, 0, [], 437),
  (11, .iload 4, 0, 0, 0, [], 0),
  (13, .iaload, 0, 0, 0, [], 0),
  (14, .invokevirtual 64, 89, 0, 0, [], 1015),
  (17, .aload_n 0, 0, 0, 0, [], 0),
  (18, .getfield 21, 5, 4, 0, [], 440),
  (21, .iload_n 2, 0, 0, 0, [], 0),
  (22, .iconst 1, 0, 0, nI 1, [], 0),
  (23, .iload 4, 0, 0, 0, [], 0),
  (25, .ishl, 0, 0, 0, [], 0),
  (26, .ior, 0, 0, 0, [], 0),
  (27, .iload 4, 0, 0, 0, [], 0),
  (29, .invokestatic 39, 14, 0, 0, [], 1003),
  (32, .iaload, 0, 0, 0, [], 0),
  (33, .iadd, 0, 0, 0, [], 0),
  (34, .ireturn, 0, 0, 0, [], 0)]
/-- BikeTown$Round.waysOver(LBikeTown$Told;LBikeTown$Van;I)I -/
def cd137 : List Ent := [(0, .aload_n 0, 0, 0, 0, [], 0),
  (1, .getfield 15, 5, 1, 0, [], 437),
  (4, .iload_n 3, 0, 0, 0, [], 0),
  (5, .iaload, 0, 0, 0, [], 0),
  (6, .istore 4, 0, 0, 0, [], 0),
  (8, .iload 4, 0, 0, 0, [], 0),
  (10, .aload_n 2, 0, 0, 0, [], 0),
  (11, .getfield 69, 10, 0, 0, [], 272),
  (14, .if_icmp .ne 7, 11, 0, 0, [], 0),
  (17, .iconst 0, 0, 0, nI 0, [], 0),
  (18, .goto 13, 16, 0, 0, [], 0),
  (21, .aload_n 1, 0, 0, 0, [], 0),
  (22, .aload_n 2, 0, 0, 0, [], 0),
  (23, .getfield 69, 10, 0, 0, [], 272),
  (26, .iload 4, 0, 0, 0, [], 0),
  (28, .invokevirtual 64, 89, 0, 0, [], 1015),
  (31, .aload_n 0, 0, 0, 0, [], 0),
  (32, .getfield 21, 5, 4, 0, [], 440),
  (35, .iconst 1, 0, 0, nI 1, [], 0),
  (36, .iload_n 3, 0, 0, 0, [], 0),
  (37, .ishl, 0, 0, 0, [], 0),
  (38, .iload_n 3, 0, 0, 0, [], 0),
  (39, .invokestatic 39, 14, 0, 0, [], 1003),
  (42, .iaload, 0, 0, 0, [], 0),
  (43, .iadd, 0, 0, 0, [], 0),
  (44, .ireturn, 0, 0, 0, [], 0)]
/-- BikeTown$Rules.faultPlace()I -/
def cd138 : List Ent := [(0, .iconst 0, 0, 0, nI 0, [], 0),
  (1, .istore_n 1, 0, 0, 0, [], 0),
  (2, .iconst 0, 0, 0, nI 0, [], 0),
  (3, .istore_n 2, 0, 0, 0, [], 0),
  (4, .iconst 0, 0, 0, nI 0, [], 0),
  (5, .istore_n 3, 0, 0, 0, [], 0),
  (6, .iconst 0, 0, 0, nI 0, [], 0),
  (7, .istore 4, 0, 0, 0, [], 0),
  (9, .iload 4, 0, 0, 0, [], 0),
  (11, .aload_n 0, 0, 0, 0, [], 0),
  (12, .getfield 39, 6, 1, 0, [], 192),
  (15, .if_icmp .ge 125, 74, 0, 0, [], 0),
  (18, .aload_n 0, 0, 0, 0, [], 0),
  (19, .getfield 11, 6, 0, 0, [], 190),
  (22, .iload 4, 0, 0, 0, [], 0),
  (24, .iaload, 0, 0, 0, [], 0),
  (25, .istore 5, 0, 0, 0, [], 0),
  (27, .iload 5, 0, 0, 0, [], 0),
  (29, .bipush 9, 0, 0, nI 9, [], 0),
  (31, .if_icmp .gt 9, 24, 0, 0, [], 0),
  (34, .iload_n 3, 0, 0, 0, [], 0),
  (35, .iconst 1, 0, 0, nI 1, [], 0),
  (36, .iadd, 0, 0, 0, [], 0),
  (37, .goto 4, 25, 0, 0, [], 0),
  (40, .iconst 0, 0, 0, nI 0, [], 0),
  (41, .istore_n 3, 0, 0, 0, [], 0),
  (42, .iload_n 3, 0, 0, 0, [], 0),
  (43, .iconst 3, 0, 0, nI 3, [], 0),
  (44, .if_icmp .le 6, 31, 0, 0, [], 0),
  (47, .iload 4, 0, 0, 0, [], 0),
  (49, .ireturn, 0, 0, 0, [], 0),
  (50, .iload_n 3, 0, 0, 0, [], 0),
  (51, .iconst 1, 0, 0, nI 1, [], 0),
  (52, .if_icmp .le 6, 35, 0, 0, [], 0),
  (55, .goto 79, 72, 0, 0, [], 0),
  (58, .iload 5, 0, 0, 0, [], 0),
  (60, .bipush 15, 0, 0, nI 15, [], 0),
  (62, .if_icmp .ne 12, 43, 0, 0, [], 0),
  (65, .iload_n 2, 0, 0, 0, [], 0),
  (66, .bipush 8, 0, 0, nI 8, [], 0),
  (68, .if_icmp .ne 6, 43, 0, 0, [], 0),
  (71, .iload 4, 0, 0, 0, [], 0),
  (73, .ireturn, 0, 0, 0, [], 0),
  (74, .iload 5, 0, 0, 0, [], 0),
  (76, .bipush 16, 0, 0, nI 16, [], 0),
  (78, .if_icmp .ne 7, 48, 0, 0, [], 0),
  (81, .iload_n 2, 0, 0, 0, [], 0),
  (82, .ifCond .eq 14, 53, 0, 0, [], 0),
  (85, .iload 5, 0, 0, 0, [], 0),
  (87, .bipush 20, 0, 0, nI 20, [], 0),
  (89, .if_icmp .ne 10, 55, 0, 0, [], 0),
  (92, .iload_n 2, 0, 0, 0, [], 0),
  (93, .ifCond .le 6, 55, 0, 0, [], 0),
  (96, .iload 4, 0, 0, 0, [], 0),
  (98, .ireturn, 0, 0, 0, [], 0),
  (99, .iload_n 1, 0, 0, 0, [], 0),
  (100, .iload 5, 0, 0, 0, [], 0),
  (102, .invokestatic 43, 85, 0, 0, [], 700),
  (105, .istore_n 1, 0, 0, 0, [], 0),
  (106, .iload_n 1, 0, 0, 0, [], 0),
  (107, .iconst (-1), 0, 0, (-1), [], 0),
  (108, .if_icmp .ne 6, 64, 0, 0, [], 0),
  (111, .iload 4, 0, 0, 0, [], 0),
  (113, .ireturn, 0, 0, 0, [], 0),
  (114, .iload 5, 0, 0, 0, [], 0),
  (116, .bipush 15, 0, 0, nI 15, [], 0),
  (118, .if_icmp .ne 6, 68, 0, 0, [], 0),
  (121, .iinc 2 1, 0, 0, nI 1, [], 0),
  (124, .iload 5, 0, 0, 0, [], 0),
  (126, .bipush 16, 0, 0, nI 16, [], 0),
  (128, .if_icmp .ne 6, 72, 0, 0, [], 0),
  (131, .iinc 2 (-1), 0, 0, (-1), [], 0),
  (134, .iinc 4 1, 0, 0, nI 1, [], 0),
  (137, .goto (-128), 8, 0, 0, [], 0),
  (140, .iload_n 1, 0, 0, 0, [], 0),
  (141, .bipush 9, 0, 0, nI 9, [], 0),
  (143, .if_icmp .eq 9, 80, 0, 0, [], 0),
  (146, .iload_n 1, 0, 0, 0, [], 0),
  (147, .bipush 10, 0, 0, nI 10, [], 0),
  (149, .if_icmp .ne 7, 82, 0, 0, [], 0),
  (152, .iconst (-1), 0, 0, (-1), [], 0),
  (153, .goto 7, 84, 0, 0, [], 0),
  (156, .aload_n 0, 0, 0, 0, [], 0),
  (157, .getfield 39, 6, 1, 0, [], 192),
  (160, .ireturn, 0, 0, 0, [], 0)]
/-- BikeTown$Rules.holds(I[I)Z -/
def cd139 : List Ent := [(0, .aload_n 0, 0, 0, 0, [], 0),
  (1, .getfield 17, 6, 3, 0, [], 197),
  (4, .iload_n 1, 0, 0, 0, [], 0),
  (5, .aaload, 0, 0, 0, [], 0),
  (6, .astore_n 3, 0, 0, 0, [], 0),
  (7, .aload_n 0, 0, 0, 0, [], 0),
  (8, .getfield 23, 6, 5, 0, [], 199),
  (11, .iload_n 1, 0, 0, 0, [], 0),
  (12, .iaload, 0, 0, 0, [], 0),
  (13, .istore 4, 0, 0, 0, [], 0),
  (15, .iconst 0, 0, 0, nI 0, [], 0),
  (16, .istore 5, 0, 0, 0, [], 0),
  (18, .iconst 0, 0, 0, nI 0, [], 0),
  (19, .istore 6, 0, 0, 0, [], 0),
  (21, .aload_n 0, 0, 0, 0, [], 0),
  (22, .iconst 0, 0, 0, nI 0, [], 0),
  (23, .putfield 54, 6, 7, 0, [], 203),
  (26, .aload_n 0, 0, 0, 0, [], 0),
  (27, .iconst 0, 0, 0, nI 0, [], 0),
  (28, .iconst 0, 0, 0, nI 0, [], 0),
  (29, .invokevirtual 57, 20, 0, 0, [], 786),
  (32, .iconst 0, 0, 0, nI 0, [], 0),
  (33, .istore 7, 0, 0, 0, [], 0),
  (35, .iload 7, 0, 0, 0, [], 0),
  (37, .bipush 40, 0, 0, nI 40, [], 0),
  (39, .if_icmp .ge 286, 167, 0, 0, [], 0),
  (42, .aload_n 0, 0, 0, 0, [], 0),
  (43, .getfield 54, 6, 7, 0, [], 203),
  (46, .iload 4, 0, 0, 0, [], 0),
  (48, .if_icmp .ge 277, 167, 0, 0, [], 0),
  (51, .aload_n 3, 0, 0, 0, [], 0),
  (52, .aload_n 0, 0, 0, 0, [], 0),
  (53, .getfield 54, 6, 7, 0, [], 203),
  (56, .iaload, 0, 0, 0, [], 0),
  (57, .istore 8, 0, 0, 0, [], 0),
  (59, .iload 8, 0, 0, 0, [], 0),
  (61, .bipush 19, 0, 0, nI 19, [], 0),
  (63, .if_icmp .ne 18, 45, 0, 0, [], 0),
  (66, .iload 6, 0, 0, 0, [], 0),
  (68, .ifCond .ne 7, 42, 0, 0, [], 0),
  (71, .iconst 1, 0, 0, nI 1, [], 0),
  (72, .goto 4, 43, 0, 0, [], 0),
  (75, .iconst 0, 0, 0, nI 0, [], 0),
  (76, .istore 6, 0, 0, 0, [], 0),
  (78, .goto 231, 159, 0, 0, [], 0),
  (81, .iload 8, 0, 0, 0, [], 0),
  (83, .bipush 15, 0, 0, nI 15, [], 0),
  (85, .if_icmp .ne 27, 59, 0, 0, [], 0),
  (88, .iload 5, 0, 0, 0, [], 0),
  (90, .bipush 8, 0, 0, nI 8, [], 0),
  (92, .if_icmp .ge 20, 59, 0, 0, [], 0),
  (95, .iinc 5 1, 0, 0, nI 1, [], 0),
  (98, .aload_n 0, 0, 0, 0, [], 0),
  (99, .iload 5, 0, 0, 0, [], 0),
  (101, .iload 6, 0, 0, 0, [], 0),
  (103, .invokevirtual 57, 20, 0, 0, [], 786),
  (106, .iconst 0, 0, 0, nI 0, [], 0),
  (107, .istore 6, 0, 0, 0, [], 0),
  (109, .goto 200, 159, 0, 0, [], 0),
  (112, .iload 8, 0, 0, 0, [], 0),
  (114, .bipush 16, 0, 0, nI 16, [], 0),
  (116, .if_icmp .ne 83, 102, 0, 0, [], 0),
  (119, .iload 5, 0, 0, 0, [], 0),
  (121, .ifCond .le 78, 102, 0, 0, [], 0),
  (124, .aload_n 0, 0, 0, 0, [], 0),
  (125, .getfield 30, 6, 8, 0, [], 204),
  (128, .iload 5, 0, 0, 0, [], 0),
  (130, .baload, 0, 0, 0, [], 0),
  (131, .ifCond .ne 13, 74, 0, 0, [], 0),
  (134, .aload_n 0, 0, 0, 0, [], 0),
  (135, .getfield 33, 6, 9, 0, [], 205),
  (138, .iload 5, 0, 0, 0, [], 0),
  (140, .baload, 0, 0, 0, [], 0),
  (141, .ifCond .eq 7, 76, 0, 0, [], 0),
  (144, .iconst 1, 0, 0, nI 1, [], 0),
  (145, .goto 4, 77, 0, 0, [], 0),
  (148, .iconst 0, 0, 0, nI 0, [], 0),
  (149, .aload_n 0, 0, 0, 0, [], 0),
  (150, .getfield 36, 6, 10, 0, [], 206),
  (153, .iload 5, 0, 0, 0, [], 0),
  (155, .baload, 0, 0, 0, [], 0),
  (156, .if_icmp .eq 7, 84, 0, 0, [], 0),
  (159, .iconst 1, 0, 0, nI 1, [], 0),
  (160, .goto 4, 85, 0, 0, [], 0),
  (163, .iconst 0, 0, 0, nI 0, [], 0),
  (164, .istore 9, 0, 0, 0, [], 0),
  (166, .iinc 5 (-1), 0, 0, (-1), [], 0),
  (169, .aload_n 0, 0, 0, 0, [], 0),
  (170, .getfield 33, 6, 9, 0, [], 205),
  (173, .iload 5, 0, 0, 0, [], 0),
  (175, .aload_n 0, 0, 0, 0, [], 0),
  (176, .getfield 33, 6, 9, 0, [], 205),
  (179, .iload 5, 0, 0, 0, [], 0),
  (181, .baload, 0, 0, 0, [], 0),
  (182, .ifCond .eq 12, 99, 0, 0, [], 0),
  (185, .iload 9, 0, 0, 0, [], 0),
  (187, .ifCond .eq 7, 99, 0, 0, [], 0),
  (190, .iconst 1, 0, 0, nI 1, [], 0),
  (191, .goto 4, 100, 0, 0, [], 0),
  (194, .iconst 0, 0, 0, nI 0, [], 0),
  (195, .bastore, 0, 0, 0, [], 0),
  (196, .goto 113, 159, 0, 0, [], 0),
  (199, .iload 8, 0, 0, 0, [], 0),
  (201, .bipush 18, 0, 0, nI 18, [], 0),
  (203, .if_icmp .ne 46, 128, 0, 0, [], 0),
  (206, .aload_n 0, 0, 0, 0, [], 0),
  (207, .getfield 30, 6, 8, 0, [], 204),
  (210, .iload 5, 0, 0, 0, [], 0),
  (212, .aload_n 0, 0, 0, 0, [], 0),
  (213, .getfield 30, 6, 8, 0, [], 204),
  (216, .iload 5, 0, 0, 0, [], 0),
  (218, .baload, 0, 0, 0, [], 0),
  (219, .ifCond .ne 13, 118, 0, 0, [], 0),
  (222, .aload_n 0, 0, 0, 0, [], 0),
  (223, .getfield 33, 6, 9, 0, [], 205),
  (226, .iload 5, 0, 0, 0, [], 0),
  (228, .baload, 0, 0, 0, [], 0),
  (229, .ifCond .eq 7, 120, 0, 0, [], 0),
  (232, .iconst 1, 0, 0, nI 1, [], 0),
  (233, .goto 4, 121, 0, 0, [], 0),
  (236, .iconst 0, 0, 0, nI 0, [], 0),
  (237, .bastore, 0, 0, 0, [], 0),
  (238, .aload_n 0, 0, 0, 0, [], 0),
  (239, .getfield 33, 6, 9, 0, [], 205),
  (242, .iload 5, 0, 0, 0, [], 0),
  (244, .iconst 1, 0, 0, nI 1, [], 0),
  (245, .bastore, 0, 0, 0, [], 0),
  (246, .goto 63, 159, 0, 0, [], 0),
  (249, .iload 8, 0, 0, 0, [], 0),
  (251, .bipush 17, 0, 0, nI 17, [], 0),
  (253, .if_icmp .eq 56, 159, 0, 0, [], 0),
  (256, .aload_n 0, 0, 0, 0, [], 0),
  (257, .aload_n 3, 0, 0, 0, [], 0),
  (258, .iload 4, 0, 0, 0, [], 0),
  (260, .aload_n 2, 0, 0, 0, [], 0),
  (261, .invokevirtual 61, 86, 0, 0, [], 790),
  (264, .iload 6, 0, 0, 0, [], 0),
  (266, .if_icmp .eq 7, 140, 0, 0, [], 0),
  (269, .iconst 1, 0, 0, nI 1, [], 0),
  (270, .goto 4, 141, 0, 0, [], 0),
  (273, .iconst 0, 0, 0, nI 0, [], 0),
  (274, .istore 9, 0, 0, 0, [], 0),
  (276, .aload_n 0, 0, 0, 0, [], 0),
  (277, .getfield 33, 6, 9, 0, [], 205),
  (280, .iload 5, 0, 0, 0, [], 0),
  (282, .aload_n 0, 0, 0, 0, [], 0),
  (283, .getfield 33, 6, 9, 0, [], 205),
  (286, .iload 5, 0, 0, 0, [], 0),
  (288, .baload, 0, 0, 0, [], 0),
  (289, .ifCond .eq 12, 154, 0, 0, [], 0),
  (292, .iload 9, 0, 0, 0, [], 0),
  (294, .ifCond .eq 7, 154, 0, 0, [], 0),
  (297, .iconst 1, 0, 0, nI 1, [], 0),
  (298, .goto 4, 155, 0, 0, [], 0),
  (301, .iconst 0, 0, 0, nI 0, [], 0),
  (302, .bastore, 0, 0, 0, [], 0),
  (303, .iconst 0, 0, 0, nI 0, [], 0),
  (304, .istore 6, 0, 0, 0, [], 0),
  (306, .goto 13, 165, 0, 0, [], 0),
  (309, .aload_n 0, 0, 0, 0, [], 0),
  (310, .dup, 0, 0, 0, [], 0),
  (311, .getfield 54, 6, 7, 0, [], 203),
  (314, .iconst 1, 0, 0, nI 1, [], 0),
  (315, .iadd, 0, 0, 0, [], 0),
  (316, .putfield 54, 6, 7, 0, [], 203),
  (319, .iinc 7 1, 0, 0, nI 1, [], 0),
  (322, .goto (-287), 23, 0, 0, [], 0),
  (325, .aload_n 0, 0, 0, 0, [], 0),
  (326, .getfield 30, 6, 8, 0, [], 204),
  (329, .iconst 0, 0, 0, nI 0, [], 0),
  (330, .baload, 0, 0, 0, [], 0),
  (331, .ifCond .ne 12, 177, 0, 0, [], 0),
  (334, .aload_n 0, 0, 0, 0, [], 0),
  (335, .getfield 33, 6, 9, 0, [], 205),
  (338, .iconst 0, 0, 0, nI 0, [], 0),
  (339, .baload, 0, 0, 0, [], 0),
  (340, .ifCond .eq 7, 179, 0, 0, [], 0),
  (343, .iconst 1, 0, 0, nI 1, [], 0),
  (344, .goto 4, 180, 0, 0, [], 0),
  (347, .iconst 0, 0, 0, nI 0, [], 0),
  (348, .ireturn, 0, 0, 0, [], 0)]
/-- BikeTown$Sites.measureOpenPosts(LBikeTown$Told;[Z)V -/
def cd140 : List Ent := [(0, .iconst 0, 0, 0, nI 0, [], 0),
  (1, .istore_n 3, 0, 0, 0, [], 0),
  (2, .iload_n 3, 0, 0, 0, [], 0),
  (3, .aload_n 0, 0, 0, 0, [], 0),
  (4, .getfield 32, 7, 1, 0, [], 475),
  (7, .if_icmp .ge 77, 45, 0, 0, [], 0),
  (10, .aload_n 0, 0, 0, 0, [], 0),
  (11, .getfield 25, 7, 7, 0, [], 482),
  (14, .iload_n 3, 0, 0, 0, [], 0),
  (15, .sipush 1000, 0, 0, nI 1000, [], 0),
  (18, .iastore, 0, 0, 0, [], 0),
  (19, .iconst 0, 0, 0, nI 0, [], 0),
  (20, .istore 4, 0, 0, 0, [], 0),
  (22, .iload 4, 0, 0, 0, [], 0),
  (24, .aload_n 1, 0, 0, 0, [], 0),
  (25, .getfield 35, 8, 0, 0, [], 115),
  (28, .if_icmp .ge 50, 43, 0, 0, [], 0),
  (31, .aload_n 2, 0, 0, 0, [], 0),
  (32, .iload 4, 0, 0, 0, [], 0),
  (34, .baload, 0, 0, 0, [], 0),
  (35, .ifCond .eq 37, 41, 0, 0, [], 0),
  (38, .aload_n 0, 0, 0, 0, [], 0),
  (39, .getfield 25, 7, 7, 0, [], 482),
  (42, .iload_n 3, 0, 0, 0, [], 0),
  (43, .aload_n 0, 0, 0, 0, [], 0),
  (44, .getfield 25, 7, 7, 0, [], 482),
  (47, .iload_n 3, 0, 0, 0, [], 0),
  (48, .iaload, 0, 0, 0, [], 0),
  (49, .aload_n 0, 0, 0, 0, [], 0),
  (50, .iload_n 3, 0, 0, 0, [], 0),
  (51, .aload_n 1, 0, 0, 0, [], 0),
  (52, .getfield 40, 8, 5, 0, [], 129),
  (55, .iload 4, 0, 0, 0, [], 0),
  (57, .iaload, 0, 0, 0, [], 0),
  (58, .aload_n 1, 0, 0, 0, [], 0),
  (59, .getfield 43, 8, 6, 0, [], 131),
  (62, .iload 4, 0, 0, 0, [], 0),
  (64, .iaload, 0, 0, 0, [], 0),
  (65, .invokevirtual 46, 88, 0, 0, [], 1109),
  (68, .invokestatic 50, 0, 3, 0, [], 1114),
  (71, .iastore, 0, 0, 0, [], 0),
  (72, .iinc 4 1, 0, 0, nI 1, [], 0),
  (75, .goto (-53), 13, 0, 0, [], 0),
  (78, .iinc 3 1, 0, 0, nI 1, [], 0),
  (81, .goto (-79), 2, 0, 0, [], 0),
  (84, .return_, 0, 0, 0, [], 0)]
/-- BikeTown$Sites.sumFor(I)I -/
def cd141 : List Ent := [(0, .iconst 0, 0, 0, nI 0, [], 0),
  (1, .istore_n 2, 0, 0, 0, [], 0),
  (2, .iconst 0, 0, 0, nI 0, [], 0),
  (3, .istore_n 3, 0, 0, 0, [], 0),
  (4, .iload_n 3, 0, 0, 0, [], 0),
  (5, .aload_n 0, 0, 0, 0, [], 0),
  (6, .getfield 32, 7, 1, 0, [], 475),
  (9, .if_icmp .ge 82, 52, 0, 0, [], 0),
  (12, .aload_n 0, 0, 0, 0, [], 0),
  (13, .getfield 25, 7, 7, 0, [], 482),
  (16, .iload_n 3, 0, 0, 0, [], 0),
  (17, .iaload, 0, 0, 0, [], 0),
  (18, .istore 4, 0, 0, 0, [], 0),
  (20, .iconst 0, 0, 0, nI 0, [], 0),
  (21, .istore 5, 0, 0, 0, [], 0),
  (23, .iload 5, 0, 0, 0, [], 0),
  (25, .aload_n 0, 0, 0, 0, [], 0),
  (26, .getfield 28, 7, 0, 0, [], 473),
  (29, .if_icmp .ge 44, 41, 0, 0, [], 0),
  (32, .iload_n 1, 0, 0, 0, [], 0),
  (33, .iload 5, 0, 0, 0, [], 0),
  (35, .ishr, 0, 0, 0, [], 0),
  (36, .iconst 1, 0, 0, nI 1, [], 0),
  (37, .iand, 0, 0, 0, [], 0),
  (38, .ifCond .eq 29, 39, 0, 0, [], 0),
  (41, .iload 4, 0, 0, 0, [], 0),
  (43, .aload_n 0, 0, 0, 0, [], 0),
  (44, .iload_n 3, 0, 0, 0, [], 0),
  (45, .aload_n 0, 0, 0, 0, [], 0),
  (46, .getfield 9, 7, 2, 0, [], 477),
  (49, .iload 5, 0, 0, 0, [], 0),
  (51, .iaload, 0, 0, 0, [], 0),
  (52, .aload_n 0, 0, 0, 0, [], 0),
  (53, .getfield 13, 7, 3, 0, [], 478),
  (56, .iload 5, 0, 0, 0, [], 0),
  (58, .iaload, 0, 0, 0, [], 0),
  (59, .invokevirtual 46, 88, 0, 0, [], 1109),
  (62, .invokestatic 50, 0, 3, 0, [], 1114),
  (65, .istore 4, 0, 0, 0, [], 0),
  (67, .iinc 5 1, 0, 0, nI 1, [], 0),
  (70, .goto (-47), 15, 0, 0, [], 0),
  (73, .iload_n 2, 0, 0, 0, [], 0),
  (74, .aload_n 0, 0, 0, 0, [], 0),
  (75, .getfield 22, 7, 6, 0, [], 481),
  (78, .iload_n 3, 0, 0, 0, [], 0),
  (79, .iaload, 0, 0, 0, [], 0),
  (80, .iload 4, 0, 0, 0, [], 0),
  (82, .imul, 0, 0, 0, [], 0),
  (83, .iadd, 0, 0, 0, [], 0),
  (84, .istore_n 2, 0, 0, 0, [], 0),
  (85, .iinc 3 1, 0, 0, nI 1, [], 0),
  (88, .goto (-84), 4, 0, 0, [], 0),
  (91, .iload_n 2, 0, 0, 0, [], 0),
  (92, .ireturn, 0, 0, 0, [], 0)]
/-- BikeTown.bike(I)I -/
def cd142 : List Ent := [(0, .aload_n 0, 0, 0, 0, [], 0),
  (1, .getfield 13, 11, 0, 0, [], 517),
  (4, .iload_n 1, 0, 0, 0, [], 0),
  (5, .invokevirtual 97, 25, 0, 0, [], 571),
  (8, .ifCond .ne 6, 7, 0, 0, [], 0),
  (11, .bipush (-2), 0, 0, (-2), [], 0),
  (13, .ireturn, 0, 0, 0, [], 0),
  (14, .aload_n 0, 0, 0, 0, [], 0),
  (15, .invokevirtual 81, 38, 0, 0, [], 555),
  (18, .ifCond .ne 14, 15, 0, 0, [], 0),
  (21, .aload_n 0, 0, 0, 0, [], 0),
  (22, .getfield 35, 11, 3, 0, [], 520),
  (25, .iload_n 1, 0, 0, 0, [], 0),
  (26, .invokevirtual 101, 2, 0, 0, [], 575),
  (29, .ifCond .gt 6, 17, 0, 0, [], 0),
  (32, .bipush (-3), 0, 0, (-3), [], 0),
  (34, .ireturn, 0, 0, 0, [], 0),
  (35, .aload_n 0, 0, 0, 0, [], 0),
  (36, .getfield 13, 11, 0, 0, [], 517),
  (39, .getfield 105, 8, 1, 0, [], 118),
  (42, .bipush 60, 0, 0, nI 60, [], 0),
  (44, .if_icmp .lt 6, 24, 0, 0, [], 0),
  (47, .bipush (-4), 0, 0, (-4), [], 0),
  (49, .ireturn, 0, 0, 0, [], 0),
  (50, .aload_n 0, 0, 0, 0, [], 0),
  (51, .getfield 13, 11, 0, 0, [], 517),
  (54, .iload_n 1, 0, 0, 0, [], 0),
  (55, .invokevirtual 108, 28, 0, 0, [], 579),
  (58, .istore_n 2, 0, 0, 0, [], 0),
  (59, .aload_n 0, 0, 0, 0, [], 0),
  (60, .getfield 35, 11, 3, 0, [], 520),
  (63, .iload_n 2, 0, 0, 0, [], 0),
  (64, .invokevirtual 111, 64, 0, 0, [], 583),
  (67, .iload_n 2, 0, 0, 0, [], 0),
  (68, .ireturn, 0, 0, 0, [], 0)]
/-- BikeTown.postAt(II)I -/
def cd143 : List Ent := [(0, .aload_n 0, 0, 0, 0, [], 0),
  (1, .getfield 13, 11, 0, 0, [], 517),
  (4, .iload_n 1, 0, 0, 0, [], 0),
  (5, .invokevirtual 97, 25, 0, 0, [], 571),
  (8, .ifCond .eq 25, 16, 0, 0, [], 0),
  (11, .iload_n 2, 0, 0, 0, [], 0),
  (12, .iconst 0, 0, 0, nI 0, [], 0),
  (13, .bipush 8, 0, 0, nI 8, [], 0),
  (15, .invokestatic 77, 39, 0, 0, [], 552),
  (18, .ifCond .eq 15, 16, 0, 0, [], 0),
  (21, .aload_n 0, 0, 0, 0, [], 0),
  (22, .getfield 35, 11, 3, 0, [], 520),
  (25, .iload_n 1, 0, 0, 0, [], 0),
  (26, .iload_n 2, 0, 0, 0, [], 0),
  (27, .invokevirtual 219, 71, 0, 0, [], 904),
  (30, .goto 5, 17, 0, 0, [], 0),
  (33, .bipush (-2), 0, 0, (-2), [], 0),
  (35, .ireturn, 0, 0, 0, [], 0)]
/-- BikeTown.way(II)I -/
def cd144 : List Ent := [(0, .aload_n 0, 0, 0, 0, [], 0),
  (1, .getfield 13, 11, 0, 0, [], 517),
  (4, .iload_n 1, 0, 0, 0, [], 0),
  (5, .invokevirtual 97, 25, 0, 0, [], 571),
  (8, .ifCond .eq 26, 16, 0, 0, [], 0),
  (11, .aload_n 0, 0, 0, 0, [], 0),
  (12, .getfield 13, 11, 0, 0, [], 517),
  (15, .iload_n 2, 0, 0, 0, [], 0),
  (16, .invokevirtual 97, 25, 0, 0, [], 571),
  (19, .ifCond .eq 15, 16, 0, 0, [], 0),
  (22, .aload_n 0, 0, 0, 0, [], 0),
  (23, .getfield 13, 11, 0, 0, [], 517),
  (26, .iload_n 1, 0, 0, 0, [], 0),
  (27, .iload_n 2, 0, 0, 0, [], 0),
  (28, .invokevirtual 234, 89, 0, 0, [], 923),
  (31, .goto 5, 17, 0, 0, [], 0),
  (34, .bipush (-2), 0, 0, (-2), [], 0),
  (36, .ireturn, 0, 0, 0, [], 0)]
/-- BikeTown.asOf(II)I -/
def cd145 : List Ent := [(0, .aload_n 0, 0, 0, 0, [], 0),
  (1, .getfield 13, 11, 0, 0, [], 517),
  (4, .iload_n 1, 0, 0, 0, [], 0),
  (5, .invokevirtual 97, 25, 0, 0, [], 571),
  (8, .ifCond .eq 18, 12, 0, 0, [], 0),
  (11, .iload_n 2, 0, 0, 0, [], 0),
  (12, .iconst 0, 0, 0, nI 0, [], 0),
  (13, .aload_n 0, 0, 0, 0, [], 0),
  (14, .getfield 35, 11, 3, 0, [], 520),
  (17, .getfield 121, 0, 4, 0, [], 362),
  (20, .invokestatic 77, 39, 0, 0, [], 552),
  (23, .ifCond .ne 6, 14, 0, 0, [], 0),
  (26, .bipush (-2), 0, 0, (-2), [], 0),
  (28, .ireturn, 0, 0, 0, [], 0),
  (29, .aload_n 0, 0, 0, 0, [], 0),
  (30, .getfield 13, 11, 0, 0, [], 517),
  (33, .iload_n 1, 0, 0, 0, [], 0),
  (34, .invokevirtual 245, 30, 0, 0, [], 932),
  (37, .aload_n 0, 0, 0, 0, [], 0),
  (38, .getfield 35, 11, 3, 0, [], 520),
  (41, .getfield 204, 0, 2, 0, [], 358),
  (44, .iload_n 1, 0, 0, 0, [], 0),
  (45, .iload_n 2, 0, 0, 0, [], 0),
  (46, .invokevirtual 248, 83, 0, 0, [], 936),
  (49, .iadd, 0, 0, 0, [], 0),
  (50, .ireturn, 0, 0, 0, [], 0)]
/-- BikeTown.forecast(IIII)I -/
def cd146 : List Ent := [(0, .iload_n 1, 0, 0, 0, [], 0),
  (1, .iconst 0, 0, 0, nI 0, [], 0),
  (2, .bipush 6, 0, 0, nI 6, [], 0),
  (4, .invokestatic 77, 39, 0, 0, [], 552),
  (7, .ifCond .eq 14, 10, 0, 0, [], 0),
  (10, .aload_n 0, 0, 0, 0, [], 0),
  (11, .getfield 13, 11, 0, 0, [], 517),
  (14, .iload_n 2, 0, 0, 0, [], 0),
  (15, .invokevirtual 97, 25, 0, 0, [], 571),
  (18, .ifCond .ne 6, 12, 0, 0, [], 0),
  (21, .bipush (-2), 0, 0, (-2), [], 0),
  (23, .ireturn, 0, 0, 0, [], 0),
  (24, .iload_n 3, 0, 0, 0, [], 0),
  (25, .iconst 0, 0, 0, nI 0, [], 0),
  (26, .bipush 23, 0, 0, nI 23, [], 0),
  (28, .invokestatic 77, 39, 0, 0, [], 552),
  (31, .ifCond .eq 13, 22, 0, 0, [], 0),
  (34, .iload 4, 0, 0, 0, [], 0),
  (36, .iconst 0, 0, 0, nI 0, [], 0),
  (37, .iconst 1, 0, 0, nI 1, [], 0),
  (38, .invokestatic 77, 39, 0, 0, [], 552),
  (41, .ifCond .ne 6, 24, 0, 0, [], 0),
  (44, .bipush (-2), 0, 0, (-2), [], 0),
  (46, .ireturn, 0, 0, 0, [], 0),
  (47, .iload 4, 0, 0, 0, [], 0),
  (49, .ifCond .ne 16, 33, 0, 0, [], 0),
  (52, .aload_n 0, 0, 0, 0, [], 0),
  (53, .getfield 45, 11, 5, 0, [], 522),
  (56, .iload_n 1, 0, 0, 0, [], 0),
  (57, .iload_n 2, 0, 0, 0, [], 0),
  (58, .iload_n 3, 0, 0, 0, [], 0),
  (59, .invokevirtual 266, 80, 0, 0, [], 952),
  (62, .goto 11, 37, 0, 0, [], 0),
  (65, .aload_n 0, 0, 0, 0, [], 0),
  (66, .getfield 45, 11, 5, 0, [], 522),
  (69, .iload_n 1, 0, 0, 0, [], 0),
  (70, .invokevirtual 269, 79, 0, 0, [], 960),
  (73, .ireturn, 0, 0, 0, [], 0)]
/-- BikeTown.line(II)I -/
def cd147 : List Ent := [(0, .iload_n 1, 0, 0, 0, [], 0),
  (1, .iconst 0, 0, 0, nI 0, [], 0),
  (2, .sipush 1000, 0, 0, nI 1000, [], 0),
  (5, .invokestatic 77, 39, 0, 0, [], 552),
  (8, .ifCond .eq 12, 10, 0, 0, [], 0),
  (11, .iload_n 2, 0, 0, 0, [], 0),
  (12, .iconst 0, 0, 0, nI 0, [], 0),
  (13, .iconst 2, 0, 0, nI 2, [], 0),
  (14, .invokestatic 77, 39, 0, 0, [], 552),
  (17, .ifCond .ne 6, 12, 0, 0, [], 0),
  (20, .bipush (-2), 0, 0, (-2), [], 0),
  (22, .ireturn, 0, 0, 0, [], 0),
  (23, .aload_n 0, 0, 0, 0, [], 0),
  (24, .getfield 73, 11, 9, 0, [], 526),
  (27, .iload_n 1, 0, 0, 0, [], 0),
  (28, .invokevirtual 347, 90, 0, 0, [], 1142),
  (31, .istore_n 3, 0, 0, 0, [], 0),
  (32, .iload_n 2, 0, 0, 0, [], 0),
  (33, .ifCond .ne 7, 21, 0, 0, [], 0),
  (36, .iload_n 3, 0, 0, 0, [], 0),
  (37, .goto 21, 31, 0, 0, [], 0),
  (40, .aload_n 0, 0, 0, 0, [], 0),
  (41, .getfield 73, 11, 9, 0, [], 526),
  (44, .iload_n 3, 0, 0, 0, [], 0),
  (45, .iload_n 2, 0, 0, 0, [], 0),
  (46, .iconst 1, 0, 0, nI 1, [], 0),
  (47, .if_icmp .ne 7, 29, 0, 0, [], 0),
  (50, .iconst 1, 0, 0, nI 1, [], 0),
  (51, .goto 4, 30, 0, 0, [], 0),
  (54, .iconst 0, 0, 0, nI 0, [], 0),
  (55, .invokevirtual 350, 32, 0, 0, [], 1150),
  (58, .ireturn, 0, 0, 0, [], 0)]
/-- BikeTown.digest()J -/
def cd148 : List Ent := [(0, .ldc2_w 353, 0, 0, nI 277, [], 1159),
  (3, .lstore_n 1, 0, 0, 0, [], 0),
  (4, .iconst 0, 0, 0, nI 0, [], 0),
  (5, .istore_n 3, 0, 0, 0, [], 0),
  (6, .iload_n 3, 0, 0, 0, [], 0),
  (7, .bipush 9, 0, 0, nI 9, [], 0),
  (9, .if_icmp .gt 22, 18, 0, 0, [], 0),
  (12, .ldc2_w 355, 0, 0, nI 31, [], 1160),
  (15, .lload_n 1, 0, 0, 0, [], 0),
  (16, .lmul, 0, 0, 0, [], 0),
  (17, .aload_n 0, 0, 0, 0, [], 0),
  (18, .iload_n 3, 0, 0, 0, [], 0),
  (19, .invokevirtual 357, 43, 0, 0, [], 1161),
  (22, .i2l, 0, 0, 0, [], 0),
  (23, .ladd, 0, 0, 0, [], 0),
  (24, .lstore_n 1, 0, 0, 0, [], 0),
  (25, .iinc 3 1, 0, 0, nI 1, [], 0),
  (28, .goto (-22), 4, 0, 0, [], 0),
  (31, .iconst 0, 0, 0, nI 0, [], 0),
  (32, .istore_n 3, 0, 0, 0, [], 0),
  (33, .iload_n 3, 0, 0, 0, [], 0),
  (34, .aload_n 0, 0, 0, 0, [], 0),
  (35, .getfield 13, 11, 0, 0, [], 517),
  (38, .getfield 85, 8, 0, 0, [], 114),
  (41, .if_icmp .ge 43, 45, 0, 0, [], 0),
  (44, .iconst 0, 0, 0, nI 0, [], 0),
  (45, .istore 4, 0, 0, 0, [], 0),
  (47, .iload 4, 0, 0, 0, [], 0),
  (49, .bipush 8, 0, 0, nI 8, [], 0),
  (51, .if_icmp .gt 27, 43, 0, 0, [], 0),
  (54, .ldc2_w 355, 0, 0, nI 31, [], 1160),
  (57, .lload_n 1, 0, 0, 0, [], 0),
  (58, .lmul, 0, 0, 0, [], 0),
  (59, .aload_n 0, 0, 0, 0, [], 0),
  (60, .getfield 35, 11, 3, 0, [], 520),
  (63, .iload_n 3, 0, 0, 0, [], 0),
  (64, .iload 4, 0, 0, 0, [], 0),
  (66, .invokevirtual 219, 71, 0, 0, [], 904),
  (69, .i2l, 0, 0, 0, [], 0),
  (70, .ladd, 0, 0, 0, [], 0),
  (71, .lstore_n 1, 0, 0, 0, [], 0),
  (72, .iinc 4 1, 0, 0, nI 1, [], 0),
  (75, .goto (-28), 27, 0, 0, [], 0),
  (78, .iinc 3 1, 0, 0, nI 1, [], 0),
  (81, .goto (-48), 20, 0, 0, [], 0),
  (84, .iconst 0, 0, 0, nI 0, [], 0),
  (85, .istore_n 3, 0, 0, 0, [], 0),
  (86, .iload_n 3, 0, 0, 0, [], 0),
  (87, .aload_n 0, 0, 0, 0, [], 0),
  (88, .getfield 13, 11, 0, 0, [], 517),
  (91, .getfield 105, 8, 1, 0, [], 118),
  (94, .if_icmp .ge 22, 61, 0, 0, [], 0),
  (97, .lload_n 1, 0, 0, 0, [], 0),
  (98, .aload_n 0, 0, 0, 0, [], 0),
  (99, .getfield 35, 11, 3, 0, [], 520),
  (102, .getfield 215, 0, 11, 0, [], 372),
  (105, .iload_n 3, 0, 0, 0, [], 0),
  (106, .invokestatic 360, 44, 0, 0, [], 1162),
  (109, .lstore_n 1, 0, 0, 0, [], 0),
  (110, .iinc 3 1, 0, 0, nI 1, [], 0),
  (113, .goto (-27), 47, 0, 0, [], 0),
  (116, .iconst 0, 0, 0, nI 0, [], 0),
  (117, .istore_n 3, 0, 0, 0, [], 0),
  (118, .iload_n 3, 0, 0, 0, [], 0),
  (119, .aload_n 0, 0, 0, 0, [], 0),
  (120, .getfield 13, 11, 0, 0, [], 517),
  (123, .getfield 124, 8, 2, 0, [], 120),
  (126, .if_icmp .ge 22, 77, 0, 0, [], 0),
  (129, .lload_n 1, 0, 0, 0, [], 0),
  (130, .aload_n 0, 0, 0, 0, [], 0),
  (131, .getfield 35, 11, 3, 0, [], 520),
  (134, .getfield 222, 0, 13, 0, [], 375),
  (137, .iload_n 3, 0, 0, 0, [], 0),
  (138, .invokestatic 360, 44, 0, 0, [], 1162),
  (141, .lstore_n 1, 0, 0, 0, [], 0),
  (142, .iinc 3 1, 0, 0, nI 1, [], 0),
  (145, .goto (-27), 63, 0, 0, [], 0),
  (148, .iconst 0, 0, 0, nI 0, [], 0),
  (149, .istore_n 3, 0, 0, 0, [], 0),
  (150, .iload_n 3, 0, 0, 0, [], 0),
  (151, .iconst 3, 0, 0, nI 3, [], 0),
  (152, .if_icmp .gt 22, 93, 0, 0, [], 0),
  (155, .ldc2_w 355, 0, 0, nI 31, [], 1160),
  (158, .lload_n 1, 0, 0, 0, [], 0),
  (159, .lmul, 0, 0, 0, [], 0),
  (160, .aload_n 0, 0, 0, 0, [], 0),
  (161, .iload_n 3, 0, 0, 0, [], 0),
  (162, .invokevirtual 364, 42, 0, 0, [], 1165),
  (165, .i2l, 0, 0, 0, [], 0),
  (166, .ladd, 0, 0, 0, [], 0),
  (167, .lstore_n 1, 0, 0, 0, [], 0),
  (168, .iinc 3 1, 0, 0, nI 1, [], 0),
  (171, .goto (-21), 79, 0, 0, [], 0),
  (174, .iconst 0, 0, 0, nI 0, [], 0),
  (175, .istore_n 3, 0, 0, 0, [], 0),
  (176, .iload_n 3, 0, 0, 0, [], 0),
  (177, .aload_n 0, 0, 0, 0, [], 0),
  (178, .getfield 35, 11, 3, 0, [], 520),
  (181, .getfield 204, 0, 2, 0, [], 358),
  (184, .getfield 237, 2, 1, 0, [], 318),
  (187, .if_icmp .ge 25, 111, 0, 0, [], 0),
  (190, .lload_n 1, 0, 0, 0, [], 0),
  (191, .aload_n 0, 0, 0, 0, [], 0),
  (192, .getfield 35, 11, 3, 0, [], 520),
  (195, .getfield 204, 0, 2, 0, [], 358),
  (198, .getfield 242, 2, 3, 0, [], 322),
  (201, .iload_n 3, 0, 0, 0, [], 0),
  (202, .invokestatic 360, 44, 0, 0, [], 1162),
  (205, .lstore_n 1, 0, 0, 0, [], 0),
  (206, .iinc 3 1, 0, 0, nI 1, [], 0),
  (209, .goto (-33), 95, 0, 0, [], 0),
  (212, .lload_n 1, 0, 0, 0, [], 0),
  (213, .lreturn, 0, 0, 0, [], 0)]
/-- BikeTownModel.bike(I)I -/
def cd149 : List Ent := [(0, .aload_n 0, 0, 0, 0, [], 0),
  (1, .iconst 0, 0, 0, nI 0, [], 0),
  (2, .putfield 126, 12, 0, 0, [], 1180),
  (5, .aload_n 0, 0, 0, 0, [], 0),
  (6, .iload_n 1, 0, 0, 0, [], 0),
  (7, .invokevirtual 157, 108, 0, 0, [], 1346),
  (10, .ifCond .ne 6, 9, 0, 0, [], 0),
  (13, .bipush (-2), 0, 0, (-2), [], 0),
  (15, .ireturn, 0, 0, 0, [], 0),
  (16, .aload_n 0, 0, 0, 0, [], 0),
  (17, .invokevirtual 149, 48, 0, 0, [], 1338),
  (20, .ifCond .ne 11, 16, 0, 0, [], 0),
  (23, .aload_n 0, 0, 0, 0, [], 0),
  (24, .iload_n 1, 0, 0, 0, [], 0),
  (25, .invokevirtual 161, 111, 0, 0, [], 1350),
  (28, .ifCond .ne 6, 18, 0, 0, [], 0),
  (31, .bipush (-3), 0, 0, (-3), [], 0),
  (33, .ireturn, 0, 0, 0, [], 0),
  (34, .aload_n 0, 0, 0, 0, [], 0),
  (35, .getfield 129, 12, 7, 0, [], 1187),
  (38, .bipush 60, 0, 0, nI 60, [], 0),
  (40, .if_icmp .ne 6, 24, 0, 0, [], 0),
  (43, .bipush (-4), 0, 0, (-4), [], 0),
  (45, .ireturn, 0, 0, 0, [], 0),
  (46, .aload_n 0, 0, 0, 0, [], 0),
  (47, .getfield 25, 12, 8, 0, [], 1188),
  (50, .aload_n 0, 0, 0, 0, [], 0),
  (51, .getfield 129, 12, 7, 0, [], 1187),
  (54, .iload_n 1, 0, 0, 0, [], 0),
  (55, .iastore, 0, 0, 0, [], 0),
  (56, .aload_n 0, 0, 0, 0, [], 0),
  (57, .getfield 7, 12, 1, 0, [], 1181),
  (60, .sipush 1232, 0, 0, nI 1232, [], 0),
  (63, .aload_n 0, 0, 0, 0, [], 0),
  (64, .getfield 129, 12, 7, 0, [], 1187),
  (67, .iadd, 0, 0, 0, [], 0),
  (68, .iconst 0, 0, 0, nI 0, [], 0),
  (69, .iastore, 0, 0, 0, [], 0),
  (70, .aload_n 0, 0, 0, 0, [], 0),
  (71, .getfield 7, 12, 1, 0, [], 1181),
  (74, .sipush 1292, 0, 0, nI 1292, [], 0),
  (77, .aload_n 0, 0, 0, 0, [], 0),
  (78, .getfield 129, 12, 7, 0, [], 1187),
  (81, .iadd, 0, 0, 0, [], 0),
  (82, .iload_n 1, 0, 0, 0, [], 0),
  (83, .iastore, 0, 0, 0, [], 0),
  (84, .aload_n 0, 0, 0, 0, [], 0),
  (85, .getfield 7, 12, 1, 0, [], 1181),
  (88, .sipush 1352, 0, 0, nI 1352, [], 0),
  (91, .aload_n 0, 0, 0, 0, [], 0),
  (92, .getfield 129, 12, 7, 0, [], 1187),
  (95, .iadd, 0, 0, 0, [], 0),
  (96, .iconst 0, 0, 0, nI 0, [], 0),
  (97, .iastore, 0, 0, 0, [], 0),
  (98, .aload_n 0, 0, 0, 0, [], 0),
  (99, .getfield 7, 12, 1, 0, [], 1181),
  (102, .sipush 1412, 0, 0, nI 1412, [], 0),
  (105, .aload_n 0, 0, 0, 0, [], 0),
  (106, .getfield 129, 12, 7, 0, [], 1187),
  (109, .iadd, 0, 0, 0, [], 0),
  (110, .iconst 0, 0, 0, nI 0, [], 0),
  (111, .iastore, 0, 0, 0, [], 0),
  (112, .aload_n 0, 0, 0, 0, [], 0),
  (113, .dup, 0, 0, 0, [], 0),
  (114, .getfield 129, 12, 7, 0, [], 1187),
  (117, .iconst 1, 0, 0, nI 1, [], 0),
  (118, .iadd, 0, 0, 0, [], 0),
  (119, .putfield 129, 12, 7, 0, [], 1187),
  (122, .aload_n 0, 0, 0, 0, [], 0),
  (123, .getfield 129, 12, 7, 0, [], 1187),
  (126, .iconst 1, 0, 0, nI 1, [], 0),
  (127, .isub, 0, 0, 0, [], 0),
  (128, .ireturn, 0, 0, 0, [], 0)]
/-- BikeTownModel.rider(IIII)I -/
def cd150 : List Ent := [(0, .aload_n 0, 0, 0, 0, [], 0),
  (1, .iconst 0, 0, 0, nI 0, [], 0),
  (2, .putfield 126, 12, 0, 0, [], 1180),
  (5, .iload_n 1, 0, 0, 0, [], 0),
  (6, .iconst 0, 0, 0, nI 0, [], 0),
  (7, .sipush 1439, 0, 0, nI 1439, [], 0),
  (10, .invokestatic 142, 45, 0, 0, [], 1335),
  (13, .ifCond .eq 34, 24, 0, 0, [], 0),
  (16, .aload_n 0, 0, 0, 0, [], 0),
  (17, .iload_n 2, 0, 0, 0, [], 0),
  (18, .invokevirtual 157, 108, 0, 0, [], 1346),
  (21, .ifCond .eq 26, 24, 0, 0, [], 0),
  (24, .aload_n 0, 0, 0, 0, [], 0),
  (25, .iload_n 3, 0, 0, 0, [], 0),
  (26, .invokevirtual 157, 108, 0, 0, [], 1346),
  (29, .ifCond .eq 18, 24, 0, 0, [], 0),
  (32, .iload_n 2, 0, 0, 0, [], 0),
  (33, .iload_n 3, 0, 0, 0, [], 0),
  (34, .if_icmp .eq 13, 24, 0, 0, [], 0),
  (37, .iload 4, 0, 0, 0, [], 0),
  (39, .iconst 0, 0, 0, nI 0, [], 0),
  (40, .iconst 3, 0, 0, nI 3, [], 0),
  (41, .invokestatic 142, 45, 0, 0, [], 1335),
  (44, .ifCond .ne 6, 26, 0, 0, [], 0),
  (47, .bipush (-2), 0, 0, (-2), [], 0),
  (49, .ireturn, 0, 0, 0, [], 0),
  (50, .iload_n 1, 0, 0, 0, [], 0),
  (51, .aload_n 0, 0, 0, 0, [], 0),
  (52, .getfield 7, 12, 1, 0, [], 1181),
  (55, .iconst 0, 0, 0, nI 0, [], 0),
  (56, .iaload, 0, 0, 0, [], 0),
  (57, .if_icmp .ge 6, 34, 0, 0, [], 0),
  (60, .bipush (-3), 0, 0, (-3), [], 0),
  (62, .ireturn, 0, 0, 0, [], 0),
  (63, .aload_n 0, 0, 0, 0, [], 0),
  (64, .getfield 132, 12, 9, 0, [], 1189),
  (67, .sipush 200, 0, 0, nI 200, [], 0),
  (70, .if_icmp .ne 6, 40, 0, 0, [], 0),
  (73, .bipush (-4), 0, 0, (-4), [], 0),
  (75, .ireturn, 0, 0, 0, [], 0),
  (76, .aload_n 0, 0, 0, 0, [], 0),
  (77, .getfield 28, 12, 10, 0, [], 1190),
  (80, .aload_n 0, 0, 0, 0, [], 0),
  (81, .getfield 132, 12, 9, 0, [], 1189),
  (84, .iload_n 1, 0, 0, 0, [], 0),
  (85, .iastore, 0, 0, 0, [], 0),
  (86, .aload_n 0, 0, 0, 0, [], 0),
  (87, .getfield 31, 12, 11, 0, [], 1191),
  (90, .aload_n 0, 0, 0, 0, [], 0),
  (91, .getfield 132, 12, 9, 0, [], 1189),
  (94, .iload_n 2, 0, 0, 0, [], 0),
  (95, .iastore, 0, 0, 0, [], 0),
  (96, .aload_n 0, 0, 0, 0, [], 0),
  (97, .getfield 34, 12, 12, 0, [], 1192),
  (100, .aload_n 0, 0, 0, 0, [], 0),
  (101, .getfield 132, 12, 9, 0, [], 1189),
  (104, .iload_n 3, 0, 0, 0, [], 0),
  (105, .iastore, 0, 0, 0, [], 0),
  (106, .aload_n 0, 0, 0, 0, [], 0),
  (107, .getfield 37, 12, 13, 0, [], 1193),
  (110, .aload_n 0, 0, 0, 0, [], 0),
  (111, .getfield 132, 12, 9, 0, [], 1189),
  (114, .iload 4, 0, 0, 0, [], 0),
  (116, .iastore, 0, 0, 0, [], 0),
  (117, .aload_n 0, 0, 0, 0, [], 0),
  (118, .aload_n 0, 0, 0, 0, [], 0),
  (119, .getfield 132, 12, 9, 0, [], 1189),
  (122, .invokevirtual 135, 46, 0, 0, [], 1176),
  (125, .aload_n 0, 0, 0, 0, [], 0),
  (126, .dup, 0, 0, 0, [], 0),
  (127, .getfield 132, 12, 9, 0, [], 1189),
  (130, .iconst 1, 0, 0, nI 1, [], 0),
  (131, .iadd, 0, 0, 0, [], 0),
  (132, .putfield 132, 12, 9, 0, [], 1189),
  (135, .aload_n 0, 0, 0, 0, [], 0),
  (136, .getfield 132, 12, 9, 0, [], 1189),
  (139, .iconst 1, 0, 0, nI 1, [], 0),
  (140, .isub, 0, 0, 0, [], 0),
  (141, .ireturn, 0, 0, 0, [], 0)]
/-- BikeTownModel.can(III)Z -/
def cd151 : List Ent := [(0, .iload_n 1, 0, 0, 0, [], 0),
  (1, .tableswitch 135 0 4 #[35, 37, 56, 88, 107], 61, 0, 0, [(nI 0, 2), (nI 1, 4), (nI 2, 16), (nI 3, 34), (nI 4, 45)], 0),
  (36, .iconst 1, 0, 0, nI 1, [], 0),
  (37, .ireturn, 0, 0, 0, [], 0),
  (38, .aload_n 0, 0, 0, 0, [], 0),
  (39, .getfield 7, 12, 1, 0, [], 1181),
  (42, .bipush 20, 0, 0, nI 20, [], 0),
  (44, .iload_n 2, 0, 0, 0, [], 0),
  (45, .iadd, 0, 0, 0, [], 0),
  (46, .iaload, 0, 0, 0, [], 0),
  (47, .iload_n 3, 0, 0, 0, [], 0),
  (48, .if_icmp .eq 7, 14, 0, 0, [], 0),
  (51, .iconst 1, 0, 0, nI 1, [], 0),
  (52, .goto 4, 15, 0, 0, [], 0),
  (55, .iconst 0, 0, 0, nI 0, [], 0),
  (56, .ireturn, 0, 0, 0, [], 0),
  (57, .aload_n 0, 0, 0, 0, [], 0),
  (58, .getfield 7, 12, 1, 0, [], 1181),
  (61, .sipush 1232, 0, 0, nI 1232, [], 0),
  (64, .iload_n 2, 0, 0, 0, [], 0),
  (65, .iadd, 0, 0, 0, [], 0),
  (66, .iaload, 0, 0, 0, [], 0),
  (67, .ifCond .ne 20, 32, 0, 0, [], 0),
  (70, .aload_n 0, 0, 0, 0, [], 0),
  (71, .getfield 7, 12, 1, 0, [], 1181),
  (74, .sipush 1412, 0, 0, nI 1412, [], 0),
  (77, .iload_n 2, 0, 0, 0, [], 0),
  (78, .iadd, 0, 0, 0, [], 0),
  (79, .iaload, 0, 0, 0, [], 0),
  (80, .ifCond .ne 7, 32, 0, 0, [], 0),
  (83, .iconst 1, 0, 0, nI 1, [], 0),
  (84, .goto 4, 33, 0, 0, [], 0),
  (87, .iconst 0, 0, 0, nI 0, [], 0),
  (88, .ireturn, 0, 0, 0, [], 0),
  (89, .aload_n 0, 0, 0, 0, [], 0),
  (90, .getfield 7, 12, 1, 0, [], 1181),
  (93, .sipush 1232, 0, 0, nI 1232, [], 0),
  (96, .iload_n 2, 0, 0, 0, [], 0),
  (97, .iadd, 0, 0, 0, [], 0),
  (98, .iaload, 0, 0, 0, [], 0),
  (99, .ifCond .ne 7, 43, 0, 0, [], 0),
  (102, .iconst 1, 0, 0, nI 1, [], 0),
  (103, .goto 4, 44, 0, 0, [], 0),
  (106, .iconst 0, 0, 0, nI 0, [], 0),
  (107, .ireturn, 0, 0, 0, [], 0),
  (108, .aload_n 0, 0, 0, 0, [], 0),
  (109, .getfield 7, 12, 1, 0, [], 1181),
  (112, .sipush 1232, 0, 0, nI 1232, [], 0),
  (115, .iload_n 2, 0, 0, 0, [], 0),
  (116, .iadd, 0, 0, 0, [], 0),
  (117, .iaload, 0, 0, 0, [], 0),
  (118, .iconst 4, 0, 0, nI 4, [], 0),
  (119, .if_icmp .ne 15, 59, 0, 0, [], 0),
  (122, .aload_n 0, 0, 0, 0, [], 0),
  (123, .iload_n 3, 0, 0, 0, [], 0),
  (124, .invokevirtual 161, 111, 0, 0, [], 1350),
  (127, .ifCond .le 7, 59, 0, 0, [], 0),
  (130, .iconst 1, 0, 0, nI 1, [], 0),
  (131, .goto 4, 60, 0, 0, [], 0),
  (134, .iconst 0, 0, 0, nI 0, [], 0),
  (135, .ireturn, 0, 0, 0, [], 0),
  (136, .aload_n 0, 0, 0, 0, [], 0),
  (137, .getfield 7, 12, 1, 0, [], 1181),
  (140, .bipush 6, 0, 0, nI 6, [], 0),
  (142, .iaload, 0, 0, 0, [], 0),
  (143, .bipush 20, 0, 0, nI 20, [], 0),
  (145, .if_icmp .ge 7, 69, 0, 0, [], 0),
  (148, .iconst 1, 0, 0, nI 1, [], 0),
  (149, .goto 4, 70, 0, 0, [], 0),
  (152, .iconst 0, 0, 0, nI 0, [], 0),
  (153, .ireturn, 0, 0, 0, [], 0)]
/-- BikeTownModel.byHand(III)V -/
def cd152 : List Ent := [(0, .aload_n 0, 0, 0, 0, [], 0),
  (1, .getfield 53, 12, 19, 0, [], 1199),
  (4, .iconst 4, 0, 0, nI 4, [], 0),
  (5, .aload_n 0, 0, 0, 0, [], 0),
  (6, .getfield 146, 12, 18, 0, [], 1198),
  (9, .imul, 0, 0, 0, [], 0),
  (10, .aload_n 0, 0, 0, 0, [], 0),
  (11, .getfield 7, 12, 1, 0, [], 1181),
  (14, .iconst 0, 0, 0, nI 0, [], 0),
  (15, .iaload, 0, 0, 0, [], 0),
  (16, .iastore, 0, 0, 0, [], 0),
  (17, .aload_n 0, 0, 0, 0, [], 0),
  (18, .getfield 53, 12, 19, 0, [], 1199),
  (21, .iconst 4, 0, 0, nI 4, [], 0),
  (22, .aload_n 0, 0, 0, 0, [], 0),
  (23, .getfield 146, 12, 18, 0, [], 1198),
  (26, .imul, 0, 0, 0, [], 0),
  (27, .iconst 1, 0, 0, nI 1, [], 0),
  (28, .iadd, 0, 0, 0, [], 0),
  (29, .iload_n 1, 0, 0, 0, [], 0),
  (30, .iastore, 0, 0, 0, [], 0),
  (31, .aload_n 0, 0, 0, 0, [], 0),
  (32, .getfield 53, 12, 19, 0, [], 1199),
  (35, .iconst 4, 0, 0, nI 4, [], 0),
  (36, .aload_n 0, 0, 0, 0, [], 0),
  (37, .getfield 146, 12, 18, 0, [], 1198),
  (40, .imul, 0, 0, 0, [], 0),
  (41, .iconst 2, 0, 0, nI 2, [], 0),
  (42, .iadd, 0, 0, 0, [], 0),
  (43, .iload_n 2, 0, 0, 0, [], 0),
  (44, .iastore, 0, 0, 0, [], 0),
  (45, .aload_n 0, 0, 0, 0, [], 0),
  (46, .getfield 53, 12, 19, 0, [], 1199),
  (49, .iconst 4, 0, 0, nI 4, [], 0),
  (50, .aload_n 0, 0, 0, 0, [], 0),
  (51, .getfield 146, 12, 18, 0, [], 1198),
  (54, .imul, 0, 0, 0, [], 0),
  (55, .iconst 3, 0, 0, nI 3, [], 0),
  (56, .iadd, 0, 0, 0, [], 0),
  (57, .iload_n 3, 0, 0, 0, [], 0),
  (58, .iastore, 0, 0, 0, [], 0),
  (59, .aload_n 0, 0, 0, 0, [], 0),
  (60, .dup, 0, 0, 0, [], 0),
  (61, .getfield 146, 12, 18, 0, [], 1198),
  (64, .iconst 1, 0, 0, nI 1, [], 0),
  (65, .iadd, 0, 0, 0, [], 0),
  (66, .putfield 146, 12, 18, 0, [], 1198),
  (69, .aload_n 0, 0, 0, 0, [], 0),
  (70, .iload_n 1, 0, 0, 0, [], 0),
  (71, .iload_n 2, 0, 0, 0, [], 0),
  (72, .iload_n 3, 0, 0, 0, [], 0),
  (73, .invokevirtual 168, 114, 0, 0, [], 1386),
  (76, .return_, 0, 0, 0, [], 0)]
/-- BikeTownModel.fault()I -/
def cd153 : List Ent := [(0, .aload_n 0, 0, 0, 0, [], 0),
  (1, .iconst 0, 0, 0, nI 0, [], 0),
  (2, .putfield 126, 12, 0, 0, [], 1180),
  (5, .aload_n 0, 0, 0, 0, [], 0),
  (6, .invokevirtual 192, 116, 0, 0, [], 1430),
  (9, .ireturn, 0, 0, 0, [], 0)]
/-- BikeTownModel.rule()I -/
def cd154 : List Ent := [(0, .aload_n 0, 0, 0, 0, [], 0),
  (1, .iconst 0, 0, 0, nI 0, [], 0),
  (2, .putfield 126, 12, 0, 0, [], 1180),
  (5, .aload_n 0, 0, 0, 0, [], 0),
  (6, .invokevirtual 192, 116, 0, 0, [], 1430),
  (9, .iconst (-1), 0, 0, (-1), [], 0),
  (10, .if_icmp .eq 6, 9, 0, 0, [], 0),
  (13, .bipush (-3), 0, 0, (-3), [], 0),
  (15, .ireturn, 0, 0, 0, [], 0),
  (16, .aload_n 0, 0, 0, 0, [], 0),
  (17, .getfield 196, 12, 22, 0, [], 1202),
  (20, .bipush 10, 0, 0, nI 10, [], 0),
  (22, .if_icmp .ne 6, 15, 0, 0, [], 0),
  (25, .bipush (-4), 0, 0, (-4), [], 0),
  (27, .ireturn, 0, 0, 0, [], 0),
  (28, .iconst 0, 0, 0, nI 0, [], 0),
  (29, .istore_n 1, 0, 0, 0, [], 0),
  (30, .iload_n 1, 0, 0, 0, [], 0),
  (31, .aload_n 0, 0, 0, 0, [], 0),
  (32, .getfield 185, 12, 20, 0, [], 1200),
  (35, .if_icmp .ge 29, 36, 0, 0, [], 0),
  (38, .aload_n 0, 0, 0, 0, [], 0),
  (39, .getfield 62, 12, 24, 0, [], 1204),
  (42, .bipush 40, 0, 0, nI 40, [], 0),
  (44, .aload_n 0, 0, 0, 0, [], 0),
  (45, .getfield 196, 12, 22, 0, [], 1202),
  (48, .imul, 0, 0, 0, [], 0),
  (49, .iload_n 1, 0, 0, 0, [], 0),
  (50, .iadd, 0, 0, 0, [], 0),
  (51, .aload_n 0, 0, 0, 0, [], 0),
  (52, .getfield 56, 12, 21, 0, [], 1201),
  (55, .iload_n 1, 0, 0, 0, [], 0),
  (56, .iaload, 0, 0, 0, [], 0),
  (57, .iastore, 0, 0, 0, [], 0),
  (58, .iinc 1 1, 0, 0, nI 1, [], 0),
  (61, .goto (-31), 17, 0, 0, [], 0),
  (64, .aload_n 0, 0, 0, 0, [], 0),
  (65, .getfield 59, 12, 23, 0, [], 1203),
  (68, .aload_n 0, 0, 0, 0, [], 0),
  (69, .getfield 196, 12, 22, 0, [], 1202),
  (72, .aload_n 0, 0, 0, 0, [], 0),
  (73, .getfield 185, 12, 20, 0, [], 1200),
  (76, .iastore, 0, 0, 0, [], 0),
  (77, .aload_n 0, 0, 0, 0, [], 0),
  (78, .getfield 65, 12, 25, 0, [], 1205),
  (81, .aload_n 0, 0, 0, 0, [], 0),
  (82, .getfield 196, 12, 22, 0, [], 1202),
  (85, .iconst 0, 0, 0, nI 0, [], 0),
  (86, .bastore, 0, 0, 0, [], 0),
  (87, .aload_n 0, 0, 0, 0, [], 0),
  (88, .dup, 0, 0, 0, [], 0),
  (89, .getfield 196, 12, 22, 0, [], 1202),
  (92, .iconst 1, 0, 0, nI 1, [], 0),
  (93, .iadd, 0, 0, 0, [], 0),
  (94, .putfield 196, 12, 22, 0, [], 1202),
  (97, .aload_n 0, 0, 0, 0, [], 0),
  (98, .getfield 196, 12, 22, 0, [], 1202),
  (101, .iconst 1, 0, 0, nI 1, [], 0),
  (102, .isub, 0, 0, 0, [], 0),
  (103, .ireturn, 0, 0, 0, [], 0)]
/-- BikeTownModel.sum(II)I -/
def cd155 : List Ent := [(0, .iconst 0, 0, 0, nI 0, [], 0),
  (1, .istore_n 3, 0, 0, 0, [], 0),
  (2, .iconst 1, 0, 0, nI 1, [], 0),
  (3, .istore 4, 0, 0, 0, [], 0),
  (5, .iconst 1, 0, 0, nI 1, [], 0),
  (6, .istore 5, 0, 0, 0, [], 0),
  (8, .iload 5, 0, 0, 0, [], 0),
  (10, .ifCond .eq 243, 135, 0, 0, [], 0),
  (13, .aload_n 0, 0, 0, 0, [], 0),
  (14, .iload_n 1, 0, 0, 0, [], 0),
  (15, .invokevirtual 202, 53, 0, 0, [], 1468),
  (18, .istore 6, 0, 0, 0, [], 0),
  (20, .iconst 0, 0, 0, nI 0, [], 0),
  (21, .istore 7, 0, 0, 0, [], 0),
  (23, .iload 6, 0, 0, 0, [], 0),
  (25, .bipush 10, 0, 0, nI 10, [], 0),
  (27, .if_icmp .ge 39, 37, 0, 0, [], 0),
  (30, .aload_n 0, 0, 0, 0, [], 0),
  (31, .iload_n 1, 0, 0, 0, [], 0),
  (32, .invokevirtual 202, 53, 0, 0, [], 1468),
  (35, .bipush 10, 0, 0, nI 10, [], 0),
  (37, .if_icmp .ge 142, 95, 0, 0, [], 0),
  (40, .bipush 10, 0, 0, nI 10, [], 0),
  (42, .iload 7, 0, 0, 0, [], 0),
  (44, .imul, 0, 0, 0, [], 0),
  (45, .aload_n 0, 0, 0, 0, [], 0),
  (46, .iload_n 1, 0, 0, 0, [], 0),
  (47, .invokevirtual 202, 53, 0, 0, [], 1468),
  (50, .iadd, 0, 0, 0, [], 0),
  (51, .istore 7, 0, 0, 0, [], 0),
  (53, .aload_n 0, 0, 0, 0, [], 0),
  (54, .dup, 0, 0, 0, [], 0),
  (55, .getfield 199, 12, 41, 0, [], 1221),
  (58, .iconst 1, 0, 0, nI 1, [], 0),
  (59, .iadd, 0, 0, 0, [], 0),
  (60, .putfield 199, 12, 41, 0, [], 1221),
  (63, .goto (-33), 17, 0, 0, [], 0),
  (66, .iload 6, 0, 0, 0, [], 0),
  (68, .bipush 21, 0, 0, nI 21, [], 0),
  (70, .if_icmp .ne 11, 44, 0, 0, [], 0),
  (73, .aload_n 0, 0, 0, 0, [], 0),
  (74, .iload_n 2, 0, 0, 0, [], 0),
  (75, .invokevirtual 205, 50, 0, 0, [], 1483),
  (78, .goto 89, 88, 0, 0, [], 0),
  (81, .iload 6, 0, 0, 0, [], 0),
  (83, .bipush 22, 0, 0, nI 22, [], 0),
  (85, .if_icmp .ne 11, 51, 0, 0, [], 0),
  (88, .aload_n 0, 0, 0, 0, [], 0),
  (89, .iload_n 2, 0, 0, 0, [], 0),
  (90, .invokevirtual 161, 111, 0, 0, [], 1350),
  (93, .goto 74, 88, 0, 0, [], 0),
  (96, .iload 6, 0, 0, 0, [], 0),
  (98, .bipush 23, 0, 0, nI 23, [], 0),
  (100, .if_icmp .ne 15, 61, 0, 0, [], 0),
  (103, .aload_n 0, 0, 0, 0, [], 0),
  (104, .getfield 7, 12, 1, 0, [], 1181),
  (107, .bipush 8, 0, 0, nI 8, [], 0),
  (109, .iload_n 2, 0, 0, 0, [], 0),
  (110, .iadd, 0, 0, 0, [], 0),
  (111, .iaload, 0, 0, 0, [], 0),
  (112, .goto 55, 88, 0, 0, [], 0),
  (115, .iload 6, 0, 0, 0, [], 0),
  (117, .bipush 24, 0, 0, nI 24, [], 0),
  (119, .if_icmp .ne 12, 69, 0, 0, [], 0),
  (122, .aload_n 0, 0, 0, 0, [], 0),
  (123, .getfield 7, 12, 1, 0, [], 1181),
  (126, .iconst 0, 0, 0, nI 0, [], 0),
  (127, .iaload, 0, 0, 0, [], 0),
  (128, .goto 39, 88, 0, 0, [], 0),
  (131, .iload 6, 0, 0, 0, [], 0),
  (133, .bipush 25, 0, 0, nI 25, [], 0),
  (135, .if_icmp .ne 15, 79, 0, 0, [], 0),
  (138, .aload_n 0, 0, 0, 0, [], 0),
  (139, .getfield 7, 12, 1, 0, [], 1181),
  (142, .iconst 0, 0, 0, nI 0, [], 0),
  (143, .iaload, 0, 0, 0, [], 0),
  (144, .bipush 60, 0, 0, nI 60, [], 0),
  (146, .idiv, 0, 0, 0, [], 0),
  (147, .goto 20, 88, 0, 0, [], 0),
  (150, .iload 6, 0, 0, 0, [], 0),
  (152, .bipush 26, 0, 0, nI 26, [], 0),
  (154, .if_icmp .ne 7, 84, 0, 0, [], 0),
  (157, .iload_n 2, 0, 0, 0, [], 0),
  (158, .goto 9, 88, 0, 0, [], 0),
  (161, .aload_n 0, 0, 0, 0, [], 0),
  (162, .getfield 108, 12, 44, 0, [], 1224),
  (165, .iload_n 2, 0, 0, 0, [], 0),
  (166, .iaload, 0, 0, 0, [], 0),
  (167, .istore 7, 0, 0, 0, [], 0),
  (169, .aload_n 0, 0, 0, 0, [], 0),
  (170, .dup, 0, 0, 0, [], 0),
  (171, .getfield 199, 12, 41, 0, [], 1221),
  (174, .iconst 1, 0, 0, nI 1, [], 0),
  (175, .iadd, 0, 0, 0, [], 0),
  (176, .putfield 199, 12, 41, 0, [], 1221),
  (179, .iload_n 3, 0, 0, 0, [], 0),
  (180, .iload 4, 0, 0, 0, [], 0),
  (182, .iload 7, 0, 0, 0, [], 0),
  (184, .imul, 0, 0, 0, [], 0),
  (185, .iadd, 0, 0, 0, [], 0),
  (186, .istore_n 3, 0, 0, 0, [], 0),
  (187, .aload_n 0, 0, 0, 0, [], 0),
  (188, .iload_n 1, 0, 0, 0, [], 0),
  (189, .invokevirtual 202, 53, 0, 0, [], 1468),
  (192, .bipush 10, 0, 0, nI 10, [], 0),
  (194, .if_icmp .eq 13, 111, 0, 0, [], 0),
  (197, .aload_n 0, 0, 0, 0, [], 0),
  (198, .iload_n 1, 0, 0, 0, [], 0),
  (199, .invokevirtual 202, 53, 0, 0, [], 1468),
  (202, .bipush 11, 0, 0, nI 11, [], 0),
  (204, .if_icmp .ne 7, 113, 0, 0, [], 0),
  (207, .iconst 1, 0, 0, nI 1, [], 0),
  (208, .goto 4, 114, 0, 0, [], 0),
  (211, .iconst 0, 0, 0, nI 0, [], 0),
  (212, .istore 5, 0, 0, 0, [], 0),
  (214, .aload_n 0, 0, 0, 0, [], 0),
  (215, .iload_n 1, 0, 0, 0, [], 0),
  (216, .invokevirtual 202, 53, 0, 0, [], 1468),
  (219, .bipush 10, 0, 0, nI 10, [], 0),
  (221, .if_icmp .ne 7, 122, 0, 0, [], 0),
  (224, .iconst 1, 0, 0, nI 1, [], 0),
  (225, .goto 4, 123, 0, 0, [], 0),
  (228, .iconst (-1), 0, 0, (-1), [], 0),
  (229, .istore 4, 0, 0, 0, [], 0),
  (231, .aload_n 0, 0, 0, 0, [], 0),
  (232, .dup, 0, 0, 0, [], 0),
  (233, .getfield 199, 12, 41, 0, [], 1221),
  (236, .iload 5, 0, 0, 0, [], 0),
  (238, .ifCond .eq 7, 131, 0, 0, [], 0),
  (241, .iconst 1, 0, 0, nI 1, [], 0),
  (242, .goto 4, 132, 0, 0, [], 0),
  (245, .iconst 0, 0, 0, nI 0, [], 0),
  (246, .iadd, 0, 0, 0, [], 0),
  (247, .putfield 199, 12, 41, 0, [], 1221),
  (250, .goto (-242), 6, 0, 0, [], 0),
  (253, .iload_n 3, 0, 0, 0, [], 0),
  (254, .ireturn, 0, 0, 0, [], 0)]
/-- BikeTownModel.rides(I)V -/
def cd156 : List Ent := [(0, .aload_n 0, 0, 0, 0, [], 0),
  (1, .getfield 7, 12, 1, 0, [], 1181),
  (4, .iconst 0, 0, 0, nI 0, [], 0),
  (5, .iaload, 0, 0, 0, [], 0),
  (6, .istore_n 2, 0, 0, 0, [], 0),
  (7, .aload_n 0, 0, 0, 0, [], 0),
  (8, .getfield 7, 12, 1, 0, [], 1181),
  (11, .sipush 2932, 0, 0, nI 2932, [], 0),
  (14, .iload_n 1, 0, 0, 0, [], 0),
  (15, .iadd, 0, 0, 0, [], 0),
  (16, .iaload, 0, 0, 0, [], 0),
  (17, .istore_n 3, 0, 0, 0, [], 0),
  (18, .aload_n 0, 0, 0, 0, [], 0),
  (19, .getfield 7, 12, 1, 0, [], 1181),
  (22, .sipush 1732, 0, 0, nI 1732, [], 0),
  (25, .iload_n 1, 0, 0, 0, [], 0),
  (26, .iadd, 0, 0, 0, [], 0),
  (27, .iaload, 0, 0, 0, [], 0),
  (28, .istore 4, 0, 0, 0, [], 0),
  (30, .aload_n 0, 0, 0, 0, [], 0),
  (31, .getfield 7, 12, 1, 0, [], 1181),
  (34, .bipush 20, 0, 0, nI 20, [], 0),
  (36, .iload_n 3, 0, 0, 0, [], 0),
  (37, .iadd, 0, 0, 0, [], 0),
  (38, .iaload, 0, 0, 0, [], 0),
  (39, .iconst 1, 0, 0, nI 1, [], 0),
  (40, .if_icmp .ne 148, 113, 0, 0, [], 0),
  (43, .aload_n 0, 0, 0, 0, [], 0),
  (44, .iload_n 3, 0, 0, 0, [], 0),
  (45, .invokevirtual 161, 111, 0, 0, [], 1350),
  (48, .ifCond .le 140, 113, 0, 0, [], 0),
  (51, .aload_n 0, 0, 0, 0, [], 0),
  (52, .getfield 7, 12, 1, 0, [], 1181),
  (55, .sipush 1232, 0, 0, nI 1232, [], 0),
  (58, .iload 4, 0, 0, 0, [], 0),
  (60, .iadd, 0, 0, 0, [], 0),
  (61, .iconst 0, 0, 0, nI 0, [], 0),
  (62, .iastore, 0, 0, 0, [], 0),
  (63, .aload_n 0, 0, 0, 0, [], 0),
  (64, .getfield 7, 12, 1, 0, [], 1181),
  (67, .sipush 1292, 0, 0, nI 1292, [], 0),
  (70, .iload 4, 0, 0, 0, [], 0),
  (72, .iadd, 0, 0, 0, [], 0),
  (73, .iload_n 3, 0, 0, 0, [], 0),
  (74, .iastore, 0, 0, 0, [], 0),
  (75, .aload_n 0, 0, 0, 0, [], 0),
  (76, .getfield 7, 12, 1, 0, [], 1181),
  (79, .sipush 1352, 0, 0, nI 1352, [], 0),
  (82, .iload 4, 0, 0, 0, [], 0),
  (84, .iadd, 0, 0, 0, [], 0),
  (85, .dup2, 0, 0, 0, [], 0),
  (86, .iaload, 0, 0, 0, [], 0),
  (87, .iload_n 2, 0, 0, 0, [], 0),
  (88, .aload_n 0, 0, 0, 0, [], 0),
  (89, .getfield 7, 12, 1, 0, [], 1181),
  (92, .sipush 1932, 0, 0, nI 1932, [], 0),
  (95, .iload_n 1, 0, 0, 0, [], 0),
  (96, .iadd, 0, 0, 0, [], 0),
  (97, .iaload, 0, 0, 0, [], 0),
  (98, .isub, 0, 0, 0, [], 0),
  (99, .iadd, 0, 0, 0, [], 0),
  (100, .iastore, 0, 0, 0, [], 0),
  (101, .aload_n 0, 0, 0, 0, [], 0),
  (102, .getfield 7, 12, 1, 0, [], 1181),
  (105, .sipush 1412, 0, 0, nI 1412, [], 0),
  (108, .iload 4, 0, 0, 0, [], 0),
  (110, .iadd, 0, 0, 0, [], 0),
  (111, .aload_n 0, 0, 0, 0, [], 0),
  (112, .getfield 7, 12, 1, 0, [], 1181),
  (115, .sipush 1352, 0, 0, nI 1352, [], 0),
  (118, .iload 4, 0, 0, 0, [], 0),
  (120, .iadd, 0, 0, 0, [], 0),
  (121, .iaload, 0, 0, 0, [], 0),
  (122, .aload_n 0, 0, 0, 0, [], 0),
  (123, .getfield 50, 12, 17, 0, [], 1197),
  (126, .if_icmp .lt 7, 78, 0, 0, [], 0),
  (129, .iconst 1, 0, 0, nI 1, [], 0),
  (130, .goto 14, 84, 0, 0, [], 0),
  (133, .aload_n 0, 0, 0, 0, [], 0),
  (134, .getfield 7, 12, 1, 0, [], 1181),
  (137, .sipush 1412, 0, 0, nI 1412, [], 0),
  (140, .iload 4, 0, 0, 0, [], 0),
  (142, .iadd, 0, 0, 0, [], 0),
  (143, .iaload, 0, 0, 0, [], 0),
  (144, .iastore, 0, 0, 0, [], 0),
  (145, .aload_n 0, 0, 0, 0, [], 0),
  (146, .getfield 7, 12, 1, 0, [], 1181),
  (149, .sipush 1532, 0, 0, nI 1532, [], 0),
  (152, .iload_n 1, 0, 0, 0, [], 0),
  (153, .iadd, 0, 0, 0, [], 0),
  (154, .iconst 3, 0, 0, nI 3, [], 0),
  (155, .iastore, 0, 0, 0, [], 0),
  (156, .aload_n 0, 0, 0, 0, [], 0),
  (157, .getfield 7, 12, 1, 0, [], 1181),
  (160, .sipush 2132, 0, 0, nI 2132, [], 0),
  (163, .iload_n 1, 0, 0, 0, [], 0),
  (164, .iadd, 0, 0, 0, [], 0),
  (165, .iload_n 2, 0, 0, 0, [], 0),
  (166, .iastore, 0, 0, 0, [], 0),
  (167, .aload_n 0, 0, 0, 0, [], 0),
  (168, .getfield 7, 12, 1, 0, [], 1181),
  (171, .sipush 2332, 0, 0, nI 2332, [], 0),
  (174, .iload_n 1, 0, 0, 0, [], 0),
  (175, .iadd, 0, 0, 0, [], 0),
  (176, .iload_n 3, 0, 0, 0, [], 0),
  (177, .iastore, 0, 0, 0, [], 0),
  (178, .aload_n 0, 0, 0, 0, [], 0),
  (179, .iconst 2, 0, 0, nI 2, [], 0),
  (180, .iload_n 3, 0, 0, 0, [], 0),
  (181, .iload_n 1, 0, 0, 0, [], 0),
  (182, .iload 4, 0, 0, 0, [], 0),
  (184, .invokevirtual 164, 47, 0, 0, [], 1390),
  (187, .return_, 0, 0, 0, [], 0),
  (188, .iconst (-1), 0, 0, (-1), [], 0),
  (189, .istore 5, 0, 0, 0, [], 0),
  (191, .iconst 0, 0, 0, nI 0, [], 0),
  (192, .istore 6, 0, 0, 0, [], 0),
  (194, .iload 6, 0, 0, 0, [], 0),
  (196, .aload_n 0, 0, 0, 0, [], 0),
  (197, .getfield 139, 12, 3, 0, [], 1183),
  (200, .if_icmp .ge 82, 160, 0, 0, [], 0),
  (203, .iload 6, 0, 0, 0, [], 0),
  (205, .iload_n 3, 0, 0, 0, [], 0),
  (206, .if_icmp .eq 30, 138, 0, 0, [], 0),
  (209, .aload_n 0, 0, 0, 0, [], 0),
  (210, .getfield 7, 12, 1, 0, [], 1181),
  (213, .bipush 20, 0, 0, nI 20, [], 0),
  (215, .iload 6, 0, 0, 0, [], 0),
  (217, .iadd, 0, 0, 0, [], 0),
  (218, .iaload, 0, 0, 0, [], 0),
  (219, .iconst 1, 0, 0, nI 1, [], 0),
  (220, .if_icmp .ne 16, 138, 0, 0, [], 0),
  (223, .aload_n 0, 0, 0, 0, [], 0),
  (224, .iload 6, 0, 0, 0, [], 0),
  (226, .invokevirtual 161, 111, 0, 0, [], 1350),
  (229, .ifCond .le 7, 138, 0, 0, [], 0),
  (232, .iconst 1, 0, 0, nI 1, [], 0),
  (233, .goto 4, 139, 0, 0, [], 0),
  (236, .iconst 0, 0, 0, nI 0, [], 0),
  (237, .istore 7, 0, 0, 0, [], 0),
  (239, .iload 7, 0, 0, 0, [], 0),
  (241, .ifCond .eq 31, 156, 0, 0, [], 0),
  (244, .iload 5, 0, 0, 0, [], 0),
  (246, .iconst (-1), 0, 0, (-1), [], 0),
  (247, .if_icmp .eq 20, 154, 0, 0, [], 0),
  (250, .aload_n 0, 0, 0, 0, [], 0),
  (251, .iload_n 3, 0, 0, 0, [], 0),
  (252, .iload 6, 0, 0, 0, [], 0),
  (254, .invokevirtual 220, 118, 0, 0, [], 1457),
  (257, .aload_n 0, 0, 0, 0, [], 0),
  (258, .iload_n 3, 0, 0, 0, [], 0),
  (259, .iload 5, 0, 0, 0, [], 0),
  (261, .invokevirtual 220, 118, 0, 0, [], 1457),
  (264, .if_icmp .ge 8, 156, 0, 0, [], 0),
  (267, .iload 6, 0, 0, 0, [], 0),
  (269, .goto 5, 157, 0, 0, [], 0),
  (272, .iload 5, 0, 0, 0, [], 0),
  (274, .istore 5, 0, 0, 0, [], 0),
  (276, .iinc 6 1, 0, 0, nI 1, [], 0),
  (279, .goto (-85), 117, 0, 0, [], 0),
  (282, .iload 5, 0, 0, 0, [], 0),
  (284, .iconst (-1), 0, 0, (-1), [], 0),
  (285, .if_icmp .ne 19, 173, 0, 0, [], 0),
  (288, .aload_n 0, 0, 0, 0, [], 0),
  (289, .getfield 7, 12, 1, 0, [], 1181),
  (292, .sipush 2732, 0, 0, nI 2732, [], 0),
  (295, .iload_n 1, 0, 0, 0, [], 0),
  (296, .iadd, 0, 0, 0, [], 0),
  (297, .iload_n 2, 0, 0, 0, [], 0),
  (298, .iconst 1, 0, 0, nI 1, [], 0),
  (299, .iadd, 0, 0, 0, [], 0),
  (300, .iastore, 0, 0, 0, [], 0),
  (301, .goto 47, 199, 0, 0, [], 0),
  (304, .aload_n 0, 0, 0, 0, [], 0),
  (305, .getfield 7, 12, 1, 0, [], 1181),
  (308, .sipush 2732, 0, 0, nI 2732, [], 0),
  (311, .iload_n 1, 0, 0, 0, [], 0),
  (312, .iadd, 0, 0, 0, [], 0),
  (313, .iload_n 2, 0, 0, 0, [], 0),
  (314, .aload_n 0, 0, 0, 0, [], 0),
  (315, .iload_n 3, 0, 0, 0, [], 0),
  (316, .iload 5, 0, 0, 0, [], 0),
  (318, .invokevirtual 220, 118, 0, 0, [], 1457),
  (321, .iadd, 0, 0, 0, [], 0),
  (322, .iastore, 0, 0, 0, [], 0),
  (323, .aload_n 0, 0, 0, 0, [], 0),
  (324, .getfield 7, 12, 1, 0, [], 1181),
  (327, .sipush 2932, 0, 0, nI 2932, [], 0),
  (330, .iload_n 1, 0, 0, 0, [], 0),
  (331, .iadd, 0, 0, 0, [], 0),
  (332, .iload 5, 0, 0, 0, [], 0),
  (334, .iastore, 0, 0, 0, [], 0),
  (335, .aload_n 0, 0, 0, 0, [], 0),
  (336, .getfield 7, 12, 1, 0, [], 1181),
  (339, .sipush 1292, 0, 0, nI 1292, [], 0),
  (342, .iload 4, 0, 0, 0, [], 0),
  (344, .iadd, 0, 0, 0, [], 0),
  (345, .iload 5, 0, 0, 0, [], 0),
  (347, .iastore, 0, 0, 0, [], 0),
  (348, .return_, 0, 0, 0, [], 0)]
/-- BikeTownModel.stops()V -/
def cd157 : List Ent := [(0, .aload_n 0, 0, 0, 0, [], 0),
  (1, .getfield 7, 12, 1, 0, [], 1181),
  (4, .sipush 3144, 0, 0, nI 3144, [], 0),
  (7, .iaload, 0, 0, 0, [], 0),
  (8, .istore_n 1, 0, 0, 0, [], 0),
  (9, .aload_n 0, 0, 0, 0, [], 0),
  (10, .getfield 7, 12, 1, 0, [], 1181),
  (13, .sipush 3164, 0, 0, nI 3164, [], 0),
  (16, .iaload, 0, 0, 0, [], 0),
  (17, .istore_n 2, 0, 0, 0, [], 0),
  (18, .aload_n 0, 0, 0, 0, [], 0),
  (19, .getfield 7, 12, 1, 0, [], 1181),
  (22, .iconst 2, 0, 0, nI 2, [], 0),
  (23, .iload_n 1, 0, 0, 0, [], 0),
  (24, .iastore, 0, 0, 0, [], 0),
  (25, .iconst 0, 0, 0, nI 0, [], 0),
  (26, .istore_n 3, 0, 0, 0, [], 0),
  (27, .iload_n 3, 0, 0, 0, [], 0),
  (28, .iload_n 2, 0, 0, 0, [], 0),
  (29, .if_icmp .ge 81, 66, 0, 0, [], 0),
  (32, .aload_n 0, 0, 0, 0, [], 0),
  (33, .getfield 7, 12, 1, 0, [], 1181),
  (36, .iconst 3, 0, 0, nI 3, [], 0),
  (37, .iaload, 0, 0, 0, [], 0),
  (38, .bipush 12, 0, 0, nI 12, [], 0),
  (40, .if_icmp .ge 70, 66, 0, 0, [], 0),
  (43, .aload_n 0, 0, 0, 0, [], 0),
  (44, .iload_n 1, 0, 0, 0, [], 0),
  (45, .invokevirtual 223, 57, 0, 0, [], 1499),
  (48, .istore 4, 0, 0, 0, [], 0),
  (50, .iload 4, 0, 0, 0, [], 0),
  (52, .iconst (-1), 0, 0, (-1), [], 0),
  (53, .if_icmp .eq 51, 64, 0, 0, [], 0),
  (56, .aload_n 0, 0, 0, 0, [], 0),
  (57, .getfield 7, 12, 1, 0, [], 1181),
  (60, .sipush 1232, 0, 0, nI 1232, [], 0),
  (63, .iload 4, 0, 0, 0, [], 0),
  (65, .iadd, 0, 0, 0, [], 0),
  (66, .iconst 2, 0, 0, nI 2, [], 0),
  (67, .iastore, 0, 0, 0, [], 0),
  (68, .aload_n 0, 0, 0, 0, [], 0),
  (69, .getfield 7, 12, 1, 0, [], 1181),
  (72, .sipush 3132, 0, 0, nI 3132, [], 0),
  (75, .aload_n 0, 0, 0, 0, [], 0),
  (76, .getfield 7, 12, 1, 0, [], 1181),
  (79, .iconst 3, 0, 0, nI 3, [], 0),
  (80, .iaload, 0, 0, 0, [], 0),
  (81, .iadd, 0, 0, 0, [], 0),
  (82, .iload 4, 0, 0, 0, [], 0),
  (84, .iastore, 0, 0, 0, [], 0),
  (85, .aload_n 0, 0, 0, 0, [], 0),
  (86, .getfield 7, 12, 1, 0, [], 1181),
  (89, .iconst 3, 0, 0, nI 3, [], 0),
  (90, .dup2, 0, 0, 0, [], 0),
  (91, .iaload, 0, 0, 0, [], 0),
  (92, .iconst 1, 0, 0, nI 1, [], 0),
  (93, .iadd, 0, 0, 0, [], 0),
  (94, .iastore, 0, 0, 0, [], 0),
  (95, .aload_n 0, 0, 0, 0, [], 0),
  (96, .iconst 5, 0, 0, nI 5, [], 0),
  (97, .iload_n 1, 0, 0, 0, [], 0),
  (98, .iconst (-1), 0, 0, (-1), [], 0),
  (99, .iload 4, 0, 0, 0, [], 0),
  (101, .invokevirtual 164, 47, 0, 0, [], 1390),
  (104, .iinc 3 1, 0, 0, nI 1, [], 0),
  (107, .goto (-80), 17, 0, 0, [], 0),
  (110, .iconst 0, 0, 0, nI 0, [], 0),
  (111, .istore_n 3, 0, 0, 0, [], 0),
  (112, .iload_n 3, 0, 0, 0, [], 0),
  (113, .iload_n 2, 0, 0, 0, [], 0),
  (114, .ineg, 0, 0, 0, [], 0),
  (115, .if_icmp .ge 124, 140, 0, 0, [], 0),
  (118, .aload_n 0, 0, 0, 0, [], 0),
  (119, .getfield 7, 12, 1, 0, [], 1181),
  (122, .iconst 3, 0, 0, nI 3, [], 0),
  (123, .iaload, 0, 0, 0, [], 0),
  (124, .ifCond .le 115, 140, 0, 0, [], 0),
  (127, .aload_n 0, 0, 0, 0, [], 0),
  (128, .iload_n 1, 0, 0, 0, [], 0),
  (129, .invokevirtual 161, 111, 0, 0, [], 1350),
  (132, .ifCond .le 107, 140, 0, 0, [], 0),
  (135, .aload_n 0, 0, 0, 0, [], 0),
  (136, .getfield 7, 12, 1, 0, [], 1181),
  (139, .sipush 3132, 0, 0, nI 3132, [], 0),
  (142, .iaload, 0, 0, 0, [], 0),
  (143, .istore 4, 0, 0, 0, [], 0),
  (145, .aload_n 0, 0, 0, 0, [], 0),
  (146, .getfield 7, 12, 1, 0, [], 1181),
  (149, .iconst 3, 0, 0, nI 3, [], 0),
  (150, .dup2, 0, 0, 0, [], 0),
  (151, .iaload, 0, 0, 0, [], 0),
  (152, .iconst 1, 0, 0, nI 1, [], 0),
  (153, .isub, 0, 0, 0, [], 0),
  (154, .iastore, 0, 0, 0, [], 0),
  (155, .iconst 0, 0, 0, nI 0, [], 0),
  (156, .istore 5, 0, 0, 0, [], 0),
  (158, .iload 5, 0, 0, 0, [], 0),
  (160, .aload_n 0, 0, 0, 0, [], 0),
  (161, .getfield 7, 12, 1, 0, [], 1181),
  (164, .iconst 3, 0, 0, nI 3, [], 0),
  (165, .iaload, 0, 0, 0, [], 0),
  (166, .if_icmp .ge 33, 118, 0, 0, [], 0),
  (169, .aload_n 0, 0, 0, 0, [], 0),
  (170, .getfield 7, 12, 1, 0, [], 1181),
  (173, .sipush 3132, 0, 0, nI 3132, [], 0),
  (176, .iload 5, 0, 0, 0, [], 0),
  (178, .iadd, 0, 0, 0, [], 0),
  (179, .aload_n 0, 0, 0, 0, [], 0),
  (180, .getfield 7, 12, 1, 0, [], 1181),
  (183, .sipush 3132, 0, 0, nI 3132, [], 0),
  (186, .iload 5, 0, 0, 0, [], 0),
  (188, .iadd, 0, 0, 0, [], 0),
  (189, .iconst 1, 0, 0, nI 1, [], 0),
  (190, .iadd, 0, 0, 0, [], 0),
  (191, .iaload, 0, 0, 0, [], 0),
  (192, .iastore, 0, 0, 0, [], 0),
  (193, .iinc 5 1, 0, 0, nI 1, [], 0),
  (196, .goto (-38), 96, 0, 0, [], 0),
  (199, .aload_n 0, 0, 0, 0, [], 0),
  (200, .getfield 7, 12, 1, 0, [], 1181),
  (203, .sipush 1232, 0, 0, nI 1232, [], 0),
  (206, .iload 4, 0, 0, 0, [], 0),
  (208, .iadd, 0, 0, 0, [], 0),
  (209, .iconst 0, 0, 0, nI 0, [], 0),
  (210, .iastore, 0, 0, 0, [], 0),
  (211, .aload_n 0, 0, 0, 0, [], 0),
  (212, .getfield 7, 12, 1, 0, [], 1181),
  (215, .sipush 1292, 0, 0, nI 1292, [], 0),
  (218, .iload 4, 0, 0, 0, [], 0),
  (220, .iadd, 0, 0, 0, [], 0),
  (221, .iload_n 1, 0, 0, 0, [], 0),
  (222, .iastore, 0, 0, 0, [], 0),
  (223, .aload_n 0, 0, 0, 0, [], 0),
  (224, .bipush 6, 0, 0, nI 6, [], 0),
  (226, .iload_n 1, 0, 0, 0, [], 0),
  (227, .iconst (-1), 0, 0, (-1), [], 0),
  (228, .iload 4, 0, 0, 0, [], 0),
  (230, .invokevirtual 164, 47, 0, 0, [], 1390),
  (233, .iinc 3 1, 0, 0, nI 1, [], 0),
  (236, .goto (-124), 68, 0, 0, [], 0),
  (239, .aload_n 0, 0, 0, 0, [], 0),
  (240, .getfield 7, 12, 1, 0, [], 1181),
  (243, .bipush 6, 0, 0, nI 6, [], 0),
  (245, .dup2, 0, 0, 0, [], 0),
  (246, .iaload, 0, 0, 0, [], 0),
  (247, .iconst 1, 0, 0, nI 1, [], 0),
  (248, .isub, 0, 0, 0, [], 0),
  (249, .iastore, 0, 0, 0, [], 0),
  (250, .iconst 0, 0, 0, nI 0, [], 0),
  (251, .istore_n 3, 0, 0, 0, [], 0),
  (252, .iload_n 3, 0, 0, 0, [], 0),
  (253, .aload_n 0, 0, 0, 0, [], 0),
  (254, .getfield 7, 12, 1, 0, [], 1181),
  (257, .bipush 6, 0, 0, nI 6, [], 0),
  (259, .iaload, 0, 0, 0, [], 0),
  (260, .if_icmp .ge 53, 186, 0, 0, [], 0),
  (263, .aload_n 0, 0, 0, 0, [], 0),
  (264, .getfield 7, 12, 1, 0, [], 1181),
  (267, .sipush 3144, 0, 0, nI 3144, [], 0),
  (270, .iload_n 3, 0, 0, 0, [], 0),
  (271, .iadd, 0, 0, 0, [], 0),
  (272, .aload_n 0, 0, 0, 0, [], 0),
  (273, .getfield 7, 12, 1, 0, [], 1181),
  (276, .sipush 3144, 0, 0, nI 3144, [], 0),
  (279, .iload_n 3, 0, 0, 0, [], 0),
  (280, .iadd, 0, 0, 0, [], 0),
  (281, .iconst 1, 0, 0, nI 1, [], 0),
  (282, .iadd, 0, 0, 0, [], 0),
  (283, .iaload, 0, 0, 0, [], 0),
  (284, .iastore, 0, 0, 0, [], 0),
  (285, .aload_n 0, 0, 0, 0, [], 0),
  (286, .getfield 7, 12, 1, 0, [], 1181),
  (289, .sipush 3164, 0, 0, nI 3164, [], 0),
  (292, .iload_n 3, 0, 0, 0, [], 0),
  (293, .iadd, 0, 0, 0, [], 0),
  (294, .aload_n 0, 0, 0, 0, [], 0),
  (295, .getfield 7, 12, 1, 0, [], 1181),
  (298, .sipush 3164, 0, 0, nI 3164, [], 0),
  (301, .iload_n 3, 0, 0, 0, [], 0),
  (302, .iadd, 0, 0, 0, [], 0),
  (303, .iconst 1, 0, 0, nI 1, [], 0),
  (304, .iadd, 0, 0, 0, [], 0),
  (305, .iaload, 0, 0, 0, [], 0),
  (306, .iastore, 0, 0, 0, [], 0),
  (307, .iinc 3 1, 0, 0, nI 1, [], 0),
  (310, .goto (-58), 150, 0, 0, [], 0),
  (313, .return_, 0, 0, 0, [], 0)]
/-- BikeTownModel.comes(I)V -/
def cd158 : List Ent := [(0, .aload_n 0, 0, 0, 0, [], 0),
  (1, .getfield 7, 12, 1, 0, [], 1181),
  (4, .iconst 0, 0, 0, nI 0, [], 0),
  (5, .iaload, 0, 0, 0, [], 0),
  (6, .istore_n 2, 0, 0, 0, [], 0),
  (7, .aload_n 0, 0, 0, 0, [], 0),
  (8, .getfield 31, 12, 11, 0, [], 1191),
  (11, .iload_n 1, 0, 0, 0, [], 0),
  (12, .iaload, 0, 0, 0, [], 0),
  (13, .istore_n 3, 0, 0, 0, [], 0),
  (14, .aload_n 0, 0, 0, 0, [], 0),
  (15, .getfield 7, 12, 1, 0, [], 1181),
  (18, .sipush 1532, 0, 0, nI 1532, [], 0),
  (21, .iload_n 1, 0, 0, 0, [], 0),
  (22, .iadd, 0, 0, 0, [], 0),
  (23, .iaload, 0, 0, 0, [], 0),
  (24, .ifCond .ne 7, 19, 0, 0, [], 0),
  (27, .iconst 1, 0, 0, nI 1, [], 0),
  (28, .goto 4, 20, 0, 0, [], 0),
  (31, .iconst 0, 0, 0, nI 0, [], 0),
  (32, .istore 4, 0, 0, 0, [], 0),
  (34, .iload_n 2, 0, 0, 0, [], 0),
  (35, .aload_n 0, 0, 0, 0, [], 0),
  (36, .getfield 28, 12, 10, 0, [], 1190),
  (39, .iload_n 1, 0, 0, 0, [], 0),
  (40, .iaload, 0, 0, 0, [], 0),
  (41, .isub, 0, 0, 0, [], 0),
  (42, .aload_n 0, 0, 0, 0, [], 0),
  (43, .getfield 43, 12, 15, 0, [], 1195),
  (46, .aload_n 0, 0, 0, 0, [], 0),
  (47, .getfield 37, 12, 13, 0, [], 1193),
  (50, .iload_n 1, 0, 0, 0, [], 0),
  (51, .iaload, 0, 0, 0, [], 0),
  (52, .iaload, 0, 0, 0, [], 0),
  (53, .if_icmp .lt 7, 37, 0, 0, [], 0),
  (56, .iconst 1, 0, 0, nI 1, [], 0),
  (57, .goto 4, 38, 0, 0, [], 0),
  (60, .iconst 0, 0, 0, nI 0, [], 0),
  (61, .istore 5, 0, 0, 0, [], 0),
  (63, .aload_n 0, 0, 0, 0, [], 0),
  (64, .getfield 7, 12, 1, 0, [], 1181),
  (67, .bipush 20, 0, 0, nI 20, [], 0),
  (69, .iload_n 3, 0, 0, 0, [], 0),
  (70, .iadd, 0, 0, 0, [], 0),
  (71, .iaload, 0, 0, 0, [], 0),
  (72, .ifCond .eq 26, 60, 0, 0, [], 0),
  (75, .aload_n 0, 0, 0, 0, [], 0),
  (76, .getfield 7, 12, 1, 0, [], 1181),
  (79, .bipush 8, 0, 0, nI 8, [], 0),
  (81, .iload_n 3, 0, 0, 0, [], 0),
  (82, .iadd, 0, 0, 0, [], 0),
  (83, .iaload, 0, 0, 0, [], 0),
  (84, .aload_n 0, 0, 0, 0, [], 0),
  (85, .getfield 40, 12, 14, 0, [], 1194),
  (88, .aload_n 0, 0, 0, 0, [], 0),
  (89, .getfield 37, 12, 13, 0, [], 1193),
  (92, .iload_n 1, 0, 0, 0, [], 0),
  (93, .iaload, 0, 0, 0, [], 0),
  (94, .iaload, 0, 0, 0, [], 0),
  (95, .if_icmp .le 29, 74, 0, 0, [], 0),
  (98, .iload 4, 0, 0, 0, [], 0),
  (100, .ifCond .eq 12, 67, 0, 0, [], 0),
  (103, .aload_n 0, 0, 0, 0, [], 0),
  (104, .iload_n 1, 0, 0, 0, [], 0),
  (105, .iconst 4, 0, 0, nI 4, [], 0),
  (106, .invokevirtual 229, 119, 0, 0, [], 1507),
  (109, .goto 14, 73, 0, 0, [], 0),
  (112, .iload 5, 0, 0, 0, [], 0),
  (114, .ifCond .eq 9, 73, 0, 0, [], 0),
  (117, .aload_n 0, 0, 0, 0, [], 0),
  (118, .iload_n 1, 0, 0, 0, [], 0),
  (119, .iconst 5, 0, 0, nI 5, [], 0),
  (120, .invokevirtual 229, 119, 0, 0, [], 1507),
  (123, .return_, 0, 0, 0, [], 0),
  (124, .aload_n 0, 0, 0, 0, [], 0),
  (125, .iload_n 3, 0, 0, 0, [], 0),
  (126, .invokevirtual 223, 57, 0, 0, [], 1499),
  (129, .istore 6, 0, 0, 0, [], 0),
  (131, .iload 6, 0, 0, 0, [], 0),
  (133, .iconst (-1), 0, 0, (-1), [], 0),
  (134, .if_icmp .ne 26, 95, 0, 0, [], 0),
  (137, .aload_n 0, 0, 0, 0, [], 0),
  (138, .getfield 7, 12, 1, 0, [], 1181),
  (141, .sipush 1532, 0, 0, nI 1532, [], 0),
  (144, .iload_n 1, 0, 0, 0, [], 0),
  (145, .iadd, 0, 0, 0, [], 0),
  (146, .iconst 1, 0, 0, nI 1, [], 0),
  (147, .iastore, 0, 0, 0, [], 0),
  (148, .iload 5, 0, 0, 0, [], 0),
  (150, .ifCond .eq 9, 94, 0, 0, [], 0),
  (153, .aload_n 0, 0, 0, 0, [], 0),
  (154, .iload_n 1, 0, 0, 0, [], 0),
  (155, .iconst 5, 0, 0, nI 5, [], 0),
  (156, .invokevirtual 229, 119, 0, 0, [], 1507),
  (159, .return_, 0, 0, 0, [], 0),
  (160, .aload_n 0, 0, 0, 0, [], 0),
  (161, .getfield 7, 12, 1, 0, [], 1181),
  (164, .sipush 1532, 0, 0, nI 1532, [], 0),
  (167, .iload_n 1, 0, 0, 0, [], 0),
  (168, .iadd, 0, 0, 0, [], 0),
  (169, .iconst 2, 0, 0, nI 2, [], 0),
  (170, .iastore, 0, 0, 0, [], 0),
  (171, .aload_n 0, 0, 0, 0, [], 0),
  (172, .getfield 7, 12, 1, 0, [], 1181),
  (175, .sipush 1732, 0, 0, nI 1732, [], 0),
  (178, .iload_n 1, 0, 0, 0, [], 0),
  (179, .iadd, 0, 0, 0, [], 0),
  (180, .iload 6, 0, 0, 0, [], 0),
  (182, .iastore, 0, 0, 0, [], 0),
  (183, .aload_n 0, 0, 0, 0, [], 0),
  (184, .getfield 7, 12, 1, 0, [], 1181),
  (187, .sipush 1932, 0, 0, nI 1932, [], 0),
  (190, .iload_n 1, 0, 0, 0, [], 0),
  (191, .iadd, 0, 0, 0, [], 0),
  (192, .iload_n 2, 0, 0, 0, [], 0),
  (193, .iastore, 0, 0, 0, [], 0),
  (194, .aload_n 0, 0, 0, 0, [], 0),
  (195, .getfield 7, 12, 1, 0, [], 1181),
  (198, .sipush 2532, 0, 0, nI 2532, [], 0),
  (201, .iload_n 1, 0, 0, 0, [], 0),
  (202, .iadd, 0, 0, 0, [], 0),
  (203, .aload_n 0, 0, 0, 0, [], 0),
  (204, .getfield 7, 12, 1, 0, [], 1181),
  (207, .bipush 8, 0, 0, nI 8, [], 0),
  (209, .iload_n 3, 0, 0, 0, [], 0),
  (210, .iadd, 0, 0, 0, [], 0),
  (211, .iaload, 0, 0, 0, [], 0),
  (212, .iastore, 0, 0, 0, [], 0),
  (213, .aload_n 0, 0, 0, 0, [], 0),
  (214, .getfield 7, 12, 1, 0, [], 1181),
  (217, .iconst 1, 0, 0, nI 1, [], 0),
  (218, .dup2, 0, 0, 0, [], 0),
  (219, .iaload, 0, 0, 0, [], 0),
  (220, .aload_n 0, 0, 0, 0, [], 0),
  (221, .getfield 7, 12, 1, 0, [], 1181),
  (224, .bipush 8, 0, 0, nI 8, [], 0),
  (226, .iload_n 3, 0, 0, 0, [], 0),
  (227, .iadd, 0, 0, 0, [], 0),
  (228, .iaload, 0, 0, 0, [], 0),
  (229, .iadd, 0, 0, 0, [], 0),
  (230, .iastore, 0, 0, 0, [], 0),
  (231, .aload_n 0, 0, 0, 0, [], 0),
  (232, .getfield 7, 12, 1, 0, [], 1181),
  (235, .sipush 2732, 0, 0, nI 2732, [], 0),
  (238, .iload_n 1, 0, 0, 0, [], 0),
  (239, .iadd, 0, 0, 0, [], 0),
  (240, .iload_n 2, 0, 0, 0, [], 0),
  (241, .aload_n 0, 0, 0, 0, [], 0),
  (242, .iload_n 3, 0, 0, 0, [], 0),
  (243, .aload_n 0, 0, 0, 0, [], 0),
  (244, .getfield 34, 12, 12, 0, [], 1192),
  (247, .iload_n 1, 0, 0, 0, [], 0),
  (248, .iaload, 0, 0, 0, [], 0),
  (249, .invokevirtual 220, 118, 0, 0, [], 1457),
  (252, .iadd, 0, 0, 0, [], 0),
  (253, .iastore, 0, 0, 0, [], 0),
  (254, .aload_n 0, 0, 0, 0, [], 0),
  (255, .getfield 7, 12, 1, 0, [], 1181),
  (258, .sipush 2932, 0, 0, nI 2932, [], 0),
  (261, .iload_n 1, 0, 0, 0, [], 0),
  (262, .iadd, 0, 0, 0, [], 0),
  (263, .aload_n 0, 0, 0, 0, [], 0),
  (264, .getfield 34, 12, 12, 0, [], 1192),
  (267, .iload_n 1, 0, 0, 0, [], 0),
  (268, .iaload, 0, 0, 0, [], 0),
  (269, .iastore, 0, 0, 0, [], 0),
  (270, .aload_n 0, 0, 0, 0, [], 0),
  (271, .getfield 7, 12, 1, 0, [], 1181),
  (274, .sipush 1232, 0, 0, nI 1232, [], 0),
  (277, .iload 6, 0, 0, 0, [], 0),
  (279, .iadd, 0, 0, 0, [], 0),
  (280, .iconst 1, 0, 0, nI 1, [], 0),
  (281, .iastore, 0, 0, 0, [], 0),
  (282, .aload_n 0, 0, 0, 0, [], 0),
  (283, .getfield 7, 12, 1, 0, [], 1181),
  (286, .sipush 1292, 0, 0, nI 1292, [], 0),
  (289, .iload 6, 0, 0, 0, [], 0),
  (291, .iadd, 0, 0, 0, [], 0),
  (292, .aload_n 0, 0, 0, 0, [], 0),
  (293, .getfield 34, 12, 12, 0, [], 1192),
  (296, .iload_n 1, 0, 0, 0, [], 0),
  (297, .iaload, 0, 0, 0, [], 0),
  (298, .iastore, 0, 0, 0, [], 0),
  (299, .aload_n 0, 0, 0, 0, [], 0),
  (300, .getfield 7, 12, 1, 0, [], 1181),
  (303, .bipush 32, 0, 0, nI 32, [], 0),
  (305, .iload_n 3, 0, 0, 0, [], 0),
  (306, .iadd, 0, 0, 0, [], 0),
  (307, .dup2, 0, 0, 0, [], 0),
  (308, .iaload, 0, 0, 0, [], 0),
  (309, .iconst 1, 0, 0, nI 1, [], 0),
  (310, .iadd, 0, 0, 0, [], 0),
  (311, .iastore, 0, 0, 0, [], 0),
  (312, .aload_n 0, 0, 0, 0, [], 0),
  (313, .getfield 7, 12, 1, 0, [], 1181),
  (316, .bipush 68, 0, 0, nI 68, [], 0),
  (318, .iload_n 3, 0, 0, 0, [], 0),
  (319, .iadd, 0, 0, 0, [], 0),
  (320, .dup2, 0, 0, 0, [], 0),
  (321, .iaload, 0, 0, 0, [], 0),
  (322, .iconst 1, 0, 0, nI 1, [], 0),
  (323, .iadd, 0, 0, 0, [], 0),
  (324, .iastore, 0, 0, 0, [], 0),
  (325, .aload_n 0, 0, 0, 0, [], 0),
  (326, .getfield 7, 12, 1, 0, [], 1181),
  (329, .bipush 80, 0, 0, nI 80, [], 0),
  (331, .bipush 24, 0, 0, nI 24, [], 0),
  (333, .iload_n 3, 0, 0, 0, [], 0),
  (334, .imul, 0, 0, 0, [], 0),
  (335, .iadd, 0, 0, 0, [], 0),
  (336, .iload_n 2, 0, 0, 0, [], 0),
  (337, .bipush 60, 0, 0, nI 60, [], 0),
  (339, .idiv, 0, 0, 0, [], 0),
  (340, .iadd, 0, 0, 0, [], 0),
  (341, .dup2, 0, 0, 0, [], 0),
  (342, .iaload, 0, 0, 0, [], 0),
  (343, .iconst 1, 0, 0, nI 1, [], 0),
  (344, .iadd, 0, 0, 0, [], 0),
  (345, .iastore, 0, 0, 0, [], 0),
  (346, .aload_n 0, 0, 0, 0, [], 0),
  (347, .iconst 1, 0, 0, nI 1, [], 0),
  (348, .iload_n 3, 0, 0, 0, [], 0),
  (349, .iload_n 1, 0, 0, 0, [], 0),
  (350, .iload 6, 0, 0, 0, [], 0),
  (352, .invokevirtual 164, 47, 0, 0, [], 1390),
  (355, .return_, 0, 0, 0, [], 0)]
/-- BikeTownModel.endDay(I)I -/
def cd159 : List Ent := [(0, .aload_n 0, 0, 0, 0, [], 0),
  (1, .iconst 0, 0, 0, nI 0, [], 0),
  (2, .putfield 126, 12, 0, 0, [], 1180),
  (5, .iload_n 1, 0, 0, 0, [], 0),
  (6, .iconst 0, 0, 0, nI 0, [], 0),
  (7, .bipush 6, 0, 0, nI 6, [], 0),
  (9, .invokestatic 142, 45, 0, 0, [], 1335),
  (12, .ifCond .ne 6, 10, 0, 0, [], 0),
  (15, .bipush (-2), 0, 0, (-2), [], 0),
  (17, .ireturn, 0, 0, 0, [], 0),
  (18, .aload_n 0, 0, 0, 0, [], 0),
  (19, .getfield 7, 12, 1, 0, [], 1181),
  (22, .iconst 0, 0, 0, nI 0, [], 0),
  (23, .iaload, 0, 0, 0, [], 0),
  (24, .ifCond .ne 6, 17, 0, 0, [], 0),
  (27, .bipush (-3), 0, 0, (-3), [], 0),
  (29, .ireturn, 0, 0, 0, [], 0),
  (30, .aload_n 0, 0, 0, 0, [], 0),
  (31, .getfield 252, 12, 26, 0, [], 1206),
  (34, .bipush 20, 0, 0, nI 20, [], 0),
  (36, .if_icmp .ne 6, 23, 0, 0, [], 0),
  (39, .bipush (-4), 0, 0, (-4), [], 0),
  (41, .ireturn, 0, 0, 0, [], 0),
  (42, .aload_n 0, 0, 0, 0, [], 0),
  (43, .getfield 69, 12, 27, 0, [], 1207),
  (46, .aload_n 0, 0, 0, 0, [], 0),
  (47, .getfield 252, 12, 26, 0, [], 1206),
  (50, .iload_n 1, 0, 0, 0, [], 0),
  (51, .iastore, 0, 0, 0, [], 0),
  (52, .iconst 0, 0, 0, nI 0, [], 0),
  (53, .istore_n 2, 0, 0, 0, [], 0),
  (54, .iload_n 2, 0, 0, 0, [], 0),
  (55, .sipush 288, 0, 0, nI 288, [], 0),
  (58, .if_icmp .ge 33, 51, 0, 0, [], 0),
  (61, .aload_n 0, 0, 0, 0, [], 0),
  (62, .getfield 72, 12, 28, 0, [], 1208),
  (65, .sipush 288, 0, 0, nI 288, [], 0),
  (68, .aload_n 0, 0, 0, 0, [], 0),
  (69, .getfield 252, 12, 26, 0, [], 1206),
  (72, .imul, 0, 0, 0, [], 0),
  (73, .iload_n 2, 0, 0, 0, [], 0),
  (74, .iadd, 0, 0, 0, [], 0),
  (75, .aload_n 0, 0, 0, 0, [], 0),
  (76, .getfield 7, 12, 1, 0, [], 1181),
  (79, .bipush 80, 0, 0, nI 80, [], 0),
  (81, .iload_n 2, 0, 0, 0, [], 0),
  (82, .iadd, 0, 0, 0, [], 0),
  (83, .iaload, 0, 0, 0, [], 0),
  (84, .iastore, 0, 0, 0, [], 0),
  (85, .iinc 2 1, 0, 0, nI 1, [], 0),
  (88, .goto (-34), 31, 0, 0, [], 0),
  (91, .aload_n 0, 0, 0, 0, [], 0),
  (92, .dup, 0, 0, 0, [], 0),
  (93, .getfield 252, 12, 26, 0, [], 1206),
  (96, .iconst 1, 0, 0, nI 1, [], 0),
  (97, .iadd, 0, 0, 0, [], 0),
  (98, .putfield 252, 12, 26, 0, [], 1206),
  (101, .aload_n 0, 0, 0, 0, [], 0),
  (102, .iconst 0, 0, 0, nI 0, [], 0),
  (103, .putfield 146, 12, 18, 0, [], 1198),
  (106, .aload_n 0, 0, 0, 0, [], 0),
  (107, .invokevirtual 123, 107, 0, 0, [], 1172),
  (110, .aload_n 0, 0, 0, 0, [], 0),
  (111, .getfield 252, 12, 26, 0, [], 1206),
  (114, .ireturn, 0, 0, 0, [], 0)]
/-- BikeTownModel.bikeAt(II)I -/
def cd160 : List Ent := [(0, .aload_n 0, 0, 0, 0, [], 0),
  (1, .iconst 0, 0, 0, nI 0, [], 0),
  (2, .putfield 126, 12, 0, 0, [], 1180),
  (5, .aload_n 0, 0, 0, 0, [], 0),
  (6, .iload_n 1, 0, 0, 0, [], 0),
  (7, .invokevirtual 182, 109, 0, 0, [], 1402),
  (10, .ifCond .eq 12, 12, 0, 0, [], 0),
  (13, .iload_n 2, 0, 0, 0, [], 0),
  (14, .iconst 0, 0, 0, nI 0, [], 0),
  (15, .iconst 3, 0, 0, nI 3, [], 0),
  (16, .invokestatic 142, 45, 0, 0, [], 1335),
  (19, .ifCond .ne 6, 14, 0, 0, [], 0),
  (22, .bipush (-2), 0, 0, (-2), [], 0),
  (24, .ireturn, 0, 0, 0, [], 0),
  (25, .aload_n 0, 0, 0, 0, [], 0),
  (26, .getfield 7, 12, 1, 0, [], 1181),
  (29, .sipush 1232, 0, 0, nI 1232, [], 0),
  (32, .iload_n 1, 0, 0, 0, [], 0),
  (33, .iadd, 0, 0, 0, [], 0),
  (34, .iaload, 0, 0, 0, [], 0),
  (35, .istore_n 3, 0, 0, 0, [], 0),
  (36, .iload_n 2, 0, 0, 0, [], 0),
  (37, .ifCond .ne 7, 25, 0, 0, [], 0),
  (40, .iload_n 3, 0, 0, 0, [], 0),
  (41, .goto 58, 56, 0, 0, [], 0),
  (44, .iload_n 2, 0, 0, 0, [], 0),
  (45, .iconst 1, 0, 0, nI 1, [], 0),
  (46, .if_icmp .ne 25, 40, 0, 0, [], 0),
  (49, .iload_n 3, 0, 0, 0, [], 0),
  (50, .iconst 2, 0, 0, nI 2, [], 0),
  (51, .if_icmp .ne 7, 33, 0, 0, [], 0),
  (54, .iconst (-1), 0, 0, (-1), [], 0),
  (55, .goto 44, 56, 0, 0, [], 0),
  (58, .aload_n 0, 0, 0, 0, [], 0),
  (59, .getfield 7, 12, 1, 0, [], 1181),
  (62, .sipush 1292, 0, 0, nI 1292, [], 0),
  (65, .iload_n 1, 0, 0, 0, [], 0),
  (66, .iadd, 0, 0, 0, [], 0),
  (67, .iaload, 0, 0, 0, [], 0),
  (68, .goto 31, 56, 0, 0, [], 0),
  (71, .iload_n 2, 0, 0, 0, [], 0),
  (72, .iconst 2, 0, 0, nI 2, [], 0),
  (73, .if_icmp .ne 16, 50, 0, 0, [], 0),
  (76, .aload_n 0, 0, 0, 0, [], 0),
  (77, .getfield 7, 12, 1, 0, [], 1181),
  (80, .sipush 1352, 0, 0, nI 1352, [], 0),
  (83, .iload_n 1, 0, 0, 0, [], 0),
  (84, .iadd, 0, 0, 0, [], 0),
  (85, .iaload, 0, 0, 0, [], 0),
  (86, .goto 13, 56, 0, 0, [], 0),
  (89, .aload_n 0, 0, 0, 0, [], 0),
  (90, .getfield 7, 12, 1, 0, [], 1181),
  (93, .sipush 1412, 0, 0, nI 1412, [], 0),
  (96, .iload_n 1, 0, 0, 0, [], 0),
  (97, .iadd, 0, 0, 0, [], 0),
  (98, .iaload, 0, 0, 0, [], 0),
  (99, .ireturn, 0, 0, 0, [], 0)]
/-- BikeTownModel.postAt(II)I -/
def cd161 : List Ent := [(0, .aload_n 0, 0, 0, 0, [], 0),
  (1, .iconst 0, 0, 0, nI 0, [], 0),
  (2, .putfield 126, 12, 0, 0, [], 1180),
  (5, .aload_n 0, 0, 0, 0, [], 0),
  (6, .iload_n 1, 0, 0, 0, [], 0),
  (7, .invokevirtual 157, 108, 0, 0, [], 1346),
  (10, .ifCond .ne 6, 9, 0, 0, [], 0),
  (13, .bipush (-2), 0, 0, (-2), [], 0),
  (15, .ireturn, 0, 0, 0, [], 0),
  (16, .iconst 0, 0, 0, nI 0, [], 0),
  (17, .istore_n 3, 0, 0, 0, [], 0),
  (18, .iload_n 2, 0, 0, 0, [], 0),
  (19, .tableswitch 171 0 8 #[49, 55, 61, 67, 77, 87, 141, 151, 161], 90, 0, 0, [(nI 0, 13), (nI 1, 17), (nI 2, 21), (nI 3, 25), (nI 4, 32), (nI 5, 39), (nI 6, 69), (nI 7, 76), (nI 8, 83)], 0),
  (68, .aload_n 0, 0, 0, 0, [], 0),
  (69, .iload_n 1, 0, 0, 0, [], 0),
  (70, .invokevirtual 153, 49, 0, 0, [], 1354),
  (73, .ireturn, 0, 0, 0, [], 0),
  (74, .aload_n 0, 0, 0, 0, [], 0),
  (75, .iload_n 1, 0, 0, 0, [], 0),
  (76, .invokevirtual 205, 50, 0, 0, [], 1483),
  (79, .ireturn, 0, 0, 0, [], 0),
  (80, .aload_n 0, 0, 0, 0, [], 0),
  (81, .iload_n 1, 0, 0, 0, [], 0),
  (82, .invokevirtual 161, 111, 0, 0, [], 1350),
  (85, .ireturn, 0, 0, 0, [], 0),
  (86, .aload_n 0, 0, 0, 0, [], 0),
  (87, .getfield 7, 12, 1, 0, [], 1181),
  (90, .bipush 8, 0, 0, nI 8, [], 0),
  (92, .iload_n 1, 0, 0, 0, [], 0),
  (93, .iadd, 0, 0, 0, [], 0),
  (94, .iaload, 0, 0, 0, [], 0),
  (95, .ireturn, 0, 0, 0, [], 0),
  (96, .aload_n 0, 0, 0, 0, [], 0),
  (97, .getfield 7, 12, 1, 0, [], 1181),
  (100, .bipush 20, 0, 0, nI 20, [], 0),
  (102, .iload_n 1, 0, 0, 0, [], 0),
  (103, .iadd, 0, 0, 0, [], 0),
  (104, .iaload, 0, 0, 0, [], 0),
  (105, .ireturn, 0, 0, 0, [], 0),
  (106, .iconst 0, 0, 0, nI 0, [], 0),
  (107, .istore 4, 0, 0, 0, [], 0),
  (109, .iload 4, 0, 0, 0, [], 0),
  (111, .aload_n 0, 0, 0, 0, [], 0),
  (112, .getfield 132, 12, 9, 0, [], 1189),
  (115, .if_icmp .ge 43, 67, 0, 0, [], 0),
  (118, .iload_n 3, 0, 0, 0, [], 0),
  (119, .aload_n 0, 0, 0, 0, [], 0),
  (120, .getfield 7, 12, 1, 0, [], 1181),
  (123, .sipush 1532, 0, 0, nI 1532, [], 0),
  (126, .iload 4, 0, 0, 0, [], 0),
  (128, .iadd, 0, 0, 0, [], 0),
  (129, .iaload, 0, 0, 0, [], 0),
  (130, .iconst 1, 0, 0, nI 1, [], 0),
  (131, .if_icmp .ne 18, 62, 0, 0, [], 0),
  (134, .aload_n 0, 0, 0, 0, [], 0),
  (135, .getfield 31, 12, 11, 0, [], 1191),
  (138, .iload 4, 0, 0, 0, [], 0),
  (140, .iaload, 0, 0, 0, [], 0),
  (141, .iload_n 1, 0, 0, 0, [], 0),
  (142, .if_icmp .ne 7, 62, 0, 0, [], 0),
  (145, .iconst 1, 0, 0, nI 1, [], 0),
  (146, .goto 4, 63, 0, 0, [], 0),
  (149, .iconst 0, 0, 0, nI 0, [], 0),
  (150, .iadd, 0, 0, 0, [], 0),
  (151, .istore_n 3, 0, 0, 0, [], 0),
  (152, .iinc 4 1, 0, 0, nI 1, [], 0),
  (155, .goto (-46), 41, 0, 0, [], 0),
  (158, .iload_n 3, 0, 0, 0, [], 0),
  (159, .ireturn, 0, 0, 0, [], 0),
  (160, .aload_n 0, 0, 0, 0, [], 0),
  (161, .getfield 7, 12, 1, 0, [], 1181),
  (164, .bipush 32, 0, 0, nI 32, [], 0),
  (166, .iload_n 1, 0, 0, 0, [], 0),
  (167, .iadd, 0, 0, 0, [], 0),
  (168, .iaload, 0, 0, 0, [], 0),
  (169, .ireturn, 0, 0, 0, [], 0),
  (170, .aload_n 0, 0, 0, 0, [], 0),
  (171, .getfield 7, 12, 1, 0, [], 1181),
  (174, .bipush 44, 0, 0, nI 44, [], 0),
  (176, .iload_n 1, 0, 0, 0, [], 0),
  (177, .iadd, 0, 0, 0, [], 0),
  (178, .iaload, 0, 0, 0, [], 0),
  (179, .ireturn, 0, 0, 0, [], 0),
  (180, .aload_n 0, 0, 0, 0, [], 0),
  (181, .getfield 7, 12, 1, 0, [], 1181),
  (184, .bipush 56, 0, 0, nI 56, [], 0),
  (186, .iload_n 1, 0, 0, 0, [], 0),
  (187, .iadd, 0, 0, 0, [], 0),
  (188, .iaload, 0, 0, 0, [], 0),
  (189, .ireturn, 0, 0, 0, [], 0),
  (190, .bipush (-2), 0, 0, (-2), [], 0),
  (192, .ireturn, 0, 0, 0, [], 0)]
/-- BikeTownModel.way(II)I -/
def cd162 : List Ent := [(0, .aload_n 0, 0, 0, 0, [], 0),
  (1, .iconst 0, 0, 0, nI 0, [], 0),
  (2, .putfield 126, 12, 0, 0, [], 1180),
  (5, .aload_n 0, 0, 0, 0, [], 0),
  (6, .iload_n 1, 0, 0, 0, [], 0),
  (7, .invokevirtual 157, 108, 0, 0, [], 1346),
  (10, .ifCond .eq 20, 16, 0, 0, [], 0),
  (13, .aload_n 0, 0, 0, 0, [], 0),
  (14, .iload_n 2, 0, 0, 0, [], 0),
  (15, .invokevirtual 157, 108, 0, 0, [], 1346),
  (18, .ifCond .eq 12, 16, 0, 0, [], 0),
  (21, .aload_n 0, 0, 0, 0, [], 0),
  (22, .iload_n 1, 0, 0, 0, [], 0),
  (23, .iload_n 2, 0, 0, 0, [], 0),
  (24, .invokevirtual 220, 118, 0, 0, [], 1457),
  (27, .goto 5, 17, 0, 0, [], 0),
  (30, .bipush (-2), 0, 0, (-2), [], 0),
  (32, .ireturn, 0, 0, 0, [], 0)]
/-- BikeTownModel.asOf(II)I -/
def cd163 : List Ent := [(0, .aload_n 0, 0, 0, 0, [], 0),
  (1, .iconst 0, 0, 0, nI 0, [], 0),
  (2, .putfield 126, 12, 0, 0, [], 1180),
  (5, .aload_n 0, 0, 0, 0, [], 0),
  (6, .iload_n 1, 0, 0, 0, [], 0),
  (7, .invokevirtual 157, 108, 0, 0, [], 1346),
  (10, .ifCond .eq 17, 15, 0, 0, [], 0),
  (13, .iload_n 2, 0, 0, 0, [], 0),
  (14, .iconst 0, 0, 0, nI 0, [], 0),
  (15, .aload_n 0, 0, 0, 0, [], 0),
  (16, .getfield 7, 12, 1, 0, [], 1181),
  (19, .iconst 0, 0, 0, nI 0, [], 0),
  (20, .iaload, 0, 0, 0, [], 0),
  (21, .invokestatic 142, 45, 0, 0, [], 1335),
  (24, .ifCond .ne 6, 17, 0, 0, [], 0),
  (27, .bipush (-2), 0, 0, (-2), [], 0),
  (29, .ireturn, 0, 0, 0, [], 0),
  (30, .iconst 0, 0, 0, nI 0, [], 0),
  (31, .istore_n 3, 0, 0, 0, [], 0),
  (32, .iconst 0, 0, 0, nI 0, [], 0),
  (33, .istore 4, 0, 0, 0, [], 0),
  (35, .iload 4, 0, 0, 0, [], 0),
  (37, .aload_n 0, 0, 0, 0, [], 0),
  (38, .getfield 129, 12, 7, 0, [], 1187),
  (41, .if_icmp .ge 28, 39, 0, 0, [], 0),
  (44, .iload_n 3, 0, 0, 0, [], 0),
  (45, .aload_n 0, 0, 0, 0, [], 0),
  (46, .getfield 25, 12, 8, 0, [], 1188),
  (49, .iload 4, 0, 0, 0, [], 0),
  (51, .iaload, 0, 0, 0, [], 0),
  (52, .iload_n 1, 0, 0, 0, [], 0),
  (53, .if_icmp .ne 7, 34, 0, 0, [], 0),
  (56, .iconst 1, 0, 0, nI 1, [], 0),
  (57, .goto 4, 35, 0, 0, [], 0),
  (60, .iconst 0, 0, 0, nI 0, [], 0),
  (61, .iadd, 0, 0, 0, [], 0),
  (62, .istore_n 3, 0, 0, 0, [], 0),
  (63, .iinc 4 1, 0, 0, nI 1, [], 0),
  (66, .goto (-31), 21, 0, 0, [], 0),
  (69, .iconst 0, 0, 0, nI 0, [], 0),
  (70, .istore 4, 0, 0, 0, [], 0),
  (72, .iload 4, 0, 0, 0, [], 0),
  (74, .aload_n 0, 0, 0, 0, [], 0),
  (75, .getfield 7, 12, 1, 0, [], 1181),
  (78, .bipush 7, 0, 0, nI 7, [], 0),
  (80, .iaload, 0, 0, 0, [], 0),
  (81, .if_icmp .ge 135, 116, 0, 0, [], 0),
  (84, .sipush 3184, 0, 0, nI 3184, [], 0),
  (87, .iconst 5, 0, 0, nI 5, [], 0),
  (88, .iload 4, 0, 0, 0, [], 0),
  (90, .imul, 0, 0, 0, [], 0),
  (91, .iadd, 0, 0, 0, [], 0),
  (92, .istore 5, 0, 0, 0, [], 0),
  (94, .aload_n 0, 0, 0, 0, [], 0),
  (95, .getfield 7, 12, 1, 0, [], 1181),
  (98, .iload 5, 0, 0, 0, [], 0),
  (100, .iaload, 0, 0, 0, [], 0),
  (101, .istore 6, 0, 0, 0, [], 0),
  (103, .aload_n 0, 0, 0, 0, [], 0),
  (104, .getfield 7, 12, 1, 0, [], 1181),
  (107, .iload 5, 0, 0, 0, [], 0),
  (109, .iconst 1, 0, 0, nI 1, [], 0),
  (110, .iadd, 0, 0, 0, [], 0),
  (111, .iaload, 0, 0, 0, [], 0),
  (112, .iload_n 2, 0, 0, 0, [], 0),
  (113, .if_icmp .ge 20, 76, 0, 0, [], 0),
  (116, .aload_n 0, 0, 0, 0, [], 0),
  (117, .getfield 7, 12, 1, 0, [], 1181),
  (120, .iload 5, 0, 0, 0, [], 0),
  (122, .iconst 2, 0, 0, nI 2, [], 0),
  (123, .iadd, 0, 0, 0, [], 0),
  (124, .iaload, 0, 0, 0, [], 0),
  (125, .iload_n 1, 0, 0, 0, [], 0),
  (126, .if_icmp .ne 7, 76, 0, 0, [], 0),
  (129, .iconst 1, 0, 0, nI 1, [], 0),
  (130, .goto 4, 77, 0, 0, [], 0),
  (133, .iconst 0, 0, 0, nI 0, [], 0),
  (134, .istore 7, 0, 0, 0, [], 0),
  (136, .iload_n 3, 0, 0, 0, [], 0),
  (137, .iload 7, 0, 0, 0, [], 0),
  (139, .ifCond .ne 7, 83, 0, 0, [], 0),
  (142, .iconst 0, 0, 0, nI 0, [], 0),
  (143, .goto 65, 112, 0, 0, [], 0),
  (146, .iload 6, 0, 0, 0, [], 0),
  (148, .iconst 1, 0, 0, nI 1, [], 0),
  (149, .if_icmp .eq 23, 95, 0, 0, [], 0),
  (152, .iload 6, 0, 0, 0, [], 0),
  (154, .iconst 5, 0, 0, nI 5, [], 0),
  (155, .if_icmp .eq 17, 95, 0, 0, [], 0),
  (158, .iload 6, 0, 0, 0, [], 0),
  (160, .bipush 7, 0, 0, nI 7, [], 0),
  (162, .if_icmp .eq 10, 95, 0, 0, [], 0),
  (165, .iload 6, 0, 0, 0, [], 0),
  (167, .bipush 9, 0, 0, nI 9, [], 0),
  (169, .if_icmp .ne 7, 97, 0, 0, [], 0),
  (172, .iconst (-1), 0, 0, (-1), [], 0),
  (173, .goto 35, 112, 0, 0, [], 0),
  (176, .iload 6, 0, 0, 0, [], 0),
  (178, .iconst 2, 0, 0, nI 2, [], 0),
  (179, .if_icmp .eq 24, 109, 0, 0, [], 0),
  (182, .iload 6, 0, 0, 0, [], 0),
  (184, .bipush 6, 0, 0, nI 6, [], 0),
  (186, .if_icmp .eq 17, 109, 0, 0, [], 0),
  (189, .iload 6, 0, 0, 0, [], 0),
  (191, .bipush 8, 0, 0, nI 8, [], 0),
  (193, .if_icmp .eq 10, 109, 0, 0, [], 0),
  (196, .iload 6, 0, 0, 0, [], 0),
  (198, .bipush 10, 0, 0, nI 10, [], 0),
  (200, .if_icmp .ne 7, 111, 0, 0, [], 0),
  (203, .iconst 1, 0, 0, nI 1, [], 0),
  (204, .goto 4, 112, 0, 0, [], 0),
  (207, .iconst 0, 0, 0, nI 0, [], 0),
  (208, .iadd, 0, 0, 0, [], 0),
  (209, .istore_n 3, 0, 0, 0, [], 0),
  (210, .iinc 4 1, 0, 0, nI 1, [], 0),
  (213, .goto (-141), 41, 0, 0, [], 0),
  (216, .iload_n 3, 0, 0, 0, [], 0),
  (217, .ireturn, 0, 0, 0, [], 0)]
/-- BikeTownModel.ends(III)I -/
def cd164 : List Ent := [(0, .aload_n 0, 0, 0, 0, [], 0),
  (1, .iconst 0, 0, 0, nI 0, [], 0),
  (2, .putfield 126, 12, 0, 0, [], 1180),
  (5, .aload_n 0, 0, 0, 0, [], 0),
  (6, .iload_n 1, 0, 0, 0, [], 0),
  (7, .invokevirtual 157, 108, 0, 0, [], 1346),
  (10, .ifCond .eq 22, 17, 0, 0, [], 0),
  (13, .iload_n 2, 0, 0, 0, [], 0),
  (14, .iconst 0, 0, 0, nI 0, [], 0),
  (15, .bipush 23, 0, 0, nI 23, [], 0),
  (17, .invokestatic 142, 45, 0, 0, [], 1335),
  (20, .ifCond .eq 12, 17, 0, 0, [], 0),
  (23, .iload_n 3, 0, 0, 0, [], 0),
  (24, .iconst 0, 0, 0, nI 0, [], 0),
  (25, .iconst 1, 0, 0, nI 1, [], 0),
  (26, .invokestatic 142, 45, 0, 0, [], 1335),
  (29, .ifCond .ne 6, 19, 0, 0, [], 0),
  (32, .bipush (-2), 0, 0, (-2), [], 0),
  (34, .ireturn, 0, 0, 0, [], 0),
  (35, .bipush 24, 0, 0, nI 24, [], 0),
  (37, .iload_n 1, 0, 0, 0, [], 0),
  (38, .imul, 0, 0, 0, [], 0),
  (39, .iload_n 2, 0, 0, 0, [], 0),
  (40, .iadd, 0, 0, 0, [], 0),
  (41, .istore 4, 0, 0, 0, [], 0),
  (43, .aload_n 0, 0, 0, 0, [], 0),
  (44, .getfield 7, 12, 1, 0, [], 1181),
  (47, .bipush 80, 0, 0, nI 80, [], 0),
  (49, .iload 4, 0, 0, 0, [], 0),
  (51, .iadd, 0, 0, 0, [], 0),
  (52, .iaload, 0, 0, 0, [], 0),
  (53, .aload_n 0, 0, 0, 0, [], 0),
  (54, .getfield 7, 12, 1, 0, [], 1181),
  (57, .sipush 368, 0, 0, nI 368, [], 0),
  (60, .iload 4, 0, 0, 0, [], 0),
  (62, .iadd, 0, 0, 0, [], 0),
  (63, .iaload, 0, 0, 0, [], 0),
  (64, .iadd, 0, 0, 0, [], 0),
  (65, .istore 5, 0, 0, 0, [], 0),
  (67, .aload_n 0, 0, 0, 0, [], 0),
  (68, .getfield 7, 12, 1, 0, [], 1181),
  (71, .sipush 944, 0, 0, nI 944, [], 0),
  (74, .iload 4, 0, 0, 0, [], 0),
  (76, .iadd, 0, 0, 0, [], 0),
  (77, .iaload, 0, 0, 0, [], 0),
  (78, .ifCond .ne 7, 48, 0, 0, [], 0),
  (81, .iconst 1, 0, 0, nI 1, [], 0),
  (82, .goto 14, 54, 0, 0, [], 0),
  (85, .aload_n 0, 0, 0, 0, [], 0),
  (86, .getfield 7, 12, 1, 0, [], 1181),
  (89, .sipush 944, 0, 0, nI 944, [], 0),
  (92, .iload 4, 0, 0, 0, [], 0),
  (94, .iadd, 0, 0, 0, [], 0),
  (95, .iaload, 0, 0, 0, [], 0),
  (96, .istore 6, 0, 0, 0, [], 0),
  (98, .iload_n 3, 0, 0, 0, [], 0),
  (99, .ifCond .ne 8, 59, 0, 0, [], 0),
  (102, .iload 5, 0, 0, 0, [], 0),
  (104, .goto 20, 69, 0, 0, [], 0),
  (107, .iload 5, 0, 0, 0, [], 0),
  (109, .aload_n 0, 0, 0, 0, [], 0),
  (110, .getfield 7, 12, 1, 0, [], 1181),
  (113, .sipush 656, 0, 0, nI 656, [], 0),
  (116, .iload 4, 0, 0, 0, [], 0),
  (118, .iadd, 0, 0, 0, [], 0),
  (119, .iaload, 0, 0, 0, [], 0),
  (120, .iload 6, 0, 0, 0, [], 0),
  (122, .imul, 0, 0, 0, [], 0),
  (123, .iadd, 0, 0, 0, [], 0),
  (124, .ireturn, 0, 0, 0, [], 0)]
/-- BikeTownModel.forecast(IIII)I -/
def cd165 : List Ent := [(0, .aload_n 0, 0, 0, 0, [], 0),
  (1, .iconst 0, 0, 0, nI 0, [], 0),
  (2, .putfield 126, 12, 0, 0, [], 1180),
  (5, .iload_n 1, 0, 0, 0, [], 0),
  (6, .iconst 0, 0, 0, nI 0, [], 0),
  (7, .bipush 6, 0, 0, nI 6, [], 0),
  (9, .invokestatic 142, 45, 0, 0, [], 1335),
  (12, .ifCond .eq 31, 22, 0, 0, [], 0),
  (15, .aload_n 0, 0, 0, 0, [], 0),
  (16, .iload_n 2, 0, 0, 0, [], 0),
  (17, .invokevirtual 157, 108, 0, 0, [], 1346),
  (20, .ifCond .eq 23, 22, 0, 0, [], 0),
  (23, .iload_n 3, 0, 0, 0, [], 0),
  (24, .iconst 0, 0, 0, nI 0, [], 0),
  (25, .bipush 23, 0, 0, nI 23, [], 0),
  (27, .invokestatic 142, 45, 0, 0, [], 1335),
  (30, .ifCond .eq 13, 22, 0, 0, [], 0),
  (33, .iload 4, 0, 0, 0, [], 0),
  (35, .iconst 0, 0, 0, nI 0, [], 0),
  (36, .iconst 1, 0, 0, nI 1, [], 0),
  (37, .invokestatic 142, 45, 0, 0, [], 1335),
  (40, .ifCond .ne 6, 24, 0, 0, [], 0),
  (43, .bipush (-2), 0, 0, (-2), [], 0),
  (45, .ireturn, 0, 0, 0, [], 0),
  (46, .iconst 0, 0, 0, nI 0, [], 0),
  (47, .istore 5, 0, 0, 0, [], 0),
  (49, .iconst 0, 0, 0, nI 0, [], 0),
  (50, .istore 6, 0, 0, 0, [], 0),
  (52, .iload 6, 0, 0, 0, [], 0),
  (54, .aload_n 0, 0, 0, 0, [], 0),
  (55, .getfield 252, 12, 26, 0, [], 1206),
  (58, .if_icmp .ge 30, 46, 0, 0, [], 0),
  (61, .iload 5, 0, 0, 0, [], 0),
  (63, .aload_n 0, 0, 0, 0, [], 0),
  (64, .getfield 69, 12, 27, 0, [], 1207),
  (67, .iload 6, 0, 0, 0, [], 0),
  (69, .iaload, 0, 0, 0, [], 0),
  (70, .iload_n 1, 0, 0, 0, [], 0),
  (71, .if_icmp .ne 7, 41, 0, 0, [], 0),
  (74, .iconst 1, 0, 0, nI 1, [], 0),
  (75, .goto 4, 42, 0, 0, [], 0),
  (78, .iconst 0, 0, 0, nI 0, [], 0),
  (79, .iadd, 0, 0, 0, [], 0),
  (80, .istore 5, 0, 0, 0, [], 0),
  (82, .iinc 6 1, 0, 0, nI 1, [], 0),
  (85, .goto (-33), 28, 0, 0, [], 0),
  (88, .iconst 0, 0, 0, nI 0, [], 0),
  (89, .istore 6, 0, 0, 0, [], 0),
  (91, .iconst 0, 0, 0, nI 0, [], 0),
  (92, .istore 7, 0, 0, 0, [], 0),
  (94, .iconst 0, 0, 0, nI 0, [], 0),
  (95, .istore 8, 0, 0, 0, [], 0),
  (97, .iload 8, 0, 0, 0, [], 0),
  (99, .aload_n 0, 0, 0, 0, [], 0),
  (100, .getfield 252, 12, 26, 0, [], 1206),
  (103, .if_icmp .ge 52, 83, 0, 0, [], 0),
  (106, .iload 5, 0, 0, 0, [], 0),
  (108, .iconst 2, 0, 0, nI 2, [], 0),
  (109, .if_icmp .lt 14, 65, 0, 0, [], 0),
  (112, .aload_n 0, 0, 0, 0, [], 0),
  (113, .getfield 69, 12, 27, 0, [], 1207),
  (116, .iload 8, 0, 0, 0, [], 0),
  (118, .iaload, 0, 0, 0, [], 0),
  (119, .iload_n 1, 0, 0, 0, [], 0),
  (120, .if_icmp .ne 29, 81, 0, 0, [], 0),
  (123, .iload 6, 0, 0, 0, [], 0),
  (125, .aload_n 0, 0, 0, 0, [], 0),
  (126, .getfield 72, 12, 28, 0, [], 1208),
  (129, .sipush 288, 0, 0, nI 288, [], 0),
  (132, .iload 8, 0, 0, 0, [], 0),
  (134, .imul, 0, 0, 0, [], 0),
  (135, .bipush 24, 0, 0, nI 24, [], 0),
  (137, .iload_n 2, 0, 0, 0, [], 0),
  (138, .imul, 0, 0, 0, [], 0),
  (139, .iadd, 0, 0, 0, [], 0),
  (140, .iload_n 3, 0, 0, 0, [], 0),
  (141, .iadd, 0, 0, 0, [], 0),
  (142, .iaload, 0, 0, 0, [], 0),
  (143, .iadd, 0, 0, 0, [], 0),
  (144, .istore 6, 0, 0, 0, [], 0),
  (146, .iinc 7 1, 0, 0, nI 1, [], 0),
  (149, .iinc 8 1, 0, 0, nI 1, [], 0),
  (152, .goto (-55), 52, 0, 0, [], 0),
  (155, .iload 4, 0, 0, 0, [], 0),
  (157, .ifCond .ne 8, 87, 0, 0, [], 0),
  (160, .iload 6, 0, 0, 0, [], 0),
  (162, .goto 5, 88, 0, 0, [], 0),
  (165, .iload 7, 0, 0, 0, [], 0),
  (167, .ireturn, 0, 0, 0, [], 0)]
/-- BikeTownModel.want(II)I -/
def cd166 : List Ent := [(0, .aload_n 0, 0, 0, 0, [], 0),
  (1, .iconst 0, 0, 0, nI 0, [], 0),
  (2, .putfield 126, 12, 0, 0, [], 1180),
  (5, .aload_n 0, 0, 0, 0, [], 0),
  (6, .iload_n 1, 0, 0, 0, [], 0),
  (7, .invokevirtual 157, 108, 0, 0, [], 1346),
  (10, .ifCond .eq 14, 12, 0, 0, [], 0),
  (13, .iload_n 2, 0, 0, 0, [], 0),
  (14, .bipush (-12), 0, 0, (-12), [], 0),
  (16, .bipush 12, 0, 0, nI 12, [], 0),
  (18, .invokestatic 142, 45, 0, 0, [], 1335),
  (21, .ifCond .ne 6, 14, 0, 0, [], 0),
  (24, .bipush (-100), 0, 0, (-100), [], 0),
  (26, .ireturn, 0, 0, 0, [], 0),
  (27, .aload_n 0, 0, 0, 0, [], 0),
  (28, .getfield 75, 12, 29, 0, [], 1209),
  (31, .iload_n 1, 0, 0, 0, [], 0),
  (32, .iaload, 0, 0, 0, [], 0),
  (33, .istore_n 3, 0, 0, 0, [], 0),
  (34, .aload_n 0, 0, 0, 0, [], 0),
  (35, .getfield 75, 12, 29, 0, [], 1209),
  (38, .iload_n 1, 0, 0, 0, [], 0),
  (39, .iload_n 2, 0, 0, 0, [], 0),
  (40, .iastore, 0, 0, 0, [], 0),
  (41, .iload_n 3, 0, 0, 0, [], 0),
  (42, .ireturn, 0, 0, 0, [], 0)]
/-- BikeTownModel.roundWay(II)I -/
def cd167 : List Ent := [(0, .iload_n 1, 0, 0, 0, [], 0),
  (1, .iload_n 2, 0, 0, 0, [], 0),
  (2, .if_icmp .ne 7, 5, 0, 0, [], 0),
  (5, .iconst 0, 0, 0, nI 0, [], 0),
  (6, .goto 9, 9, 0, 0, [], 0),
  (9, .aload_n 0, 0, 0, 0, [], 0),
  (10, .iload_n 1, 0, 0, 0, [], 0),
  (11, .iload_n 2, 0, 0, 0, [], 0),
  (12, .invokevirtual 220, 118, 0, 0, [], 1457),
  (15, .ireturn, 0, 0, 0, [], 0)]
/-- BikeTownModel.gain(IIII)I -/
def cd168 : List Ent := [(0, .aload_n 0, 0, 0, 0, [], 0),
  (1, .iconst 0, 0, 0, nI 0, [], 0),
  (2, .putfield 126, 12, 0, 0, [], 1180),
  (5, .iload_n 1, 0, 0, 0, [], 0),
  (6, .iconst 0, 0, 0, nI 0, [], 0),
  (7, .iconst 1, 0, 0, nI 1, [], 0),
  (8, .invokestatic 142, 45, 0, 0, [], 1335),
  (11, .ifCond .eq 31, 19, 0, 0, [], 0),
  (14, .iload_n 2, 0, 0, 0, [], 0),
  (15, .invokestatic 265, 122, 0, 0, [], 1580),
  (18, .ifCond .eq 24, 19, 0, 0, [], 0),
  (21, .iload_n 3, 0, 0, 0, [], 0),
  (22, .invokestatic 265, 122, 0, 0, [], 1580),
  (25, .ifCond .eq 17, 19, 0, 0, [], 0),
  (28, .iload 4, 0, 0, 0, [], 0),
  (30, .sipush (-10000), 0, 0, (-10000), [], 0),
  (33, .sipush 10000, 0, 0, nI 10000, [], 0),
  (36, .invokestatic 142, 45, 0, 0, [], 1335),
  (39, .ifCond .ne 7, 21, 0, 0, [], 0),
  (42, .ldc_w 268, 0, 0, (-100000), [], 1583),
  (45, .ireturn, 0, 0, 0, [], 0),
  (46, .bipush 25, 0, 0, nI 25, [], 0),
  (48, .iload_n 1, 0, 0, 0, [], 0),
  (49, .imul, 0, 0, 0, [], 0),
  (50, .iconst 5, 0, 0, nI 5, [], 0),
  (51, .iload_n 2, 0, 0, 0, [], 0),
  (52, .imul, 0, 0, 0, [], 0),
  (53, .iadd, 0, 0, 0, [], 0),
  (54, .iload_n 3, 0, 0, 0, [], 0),
  (55, .iadd, 0, 0, 0, [], 0),
  (56, .istore 5, 0, 0, 0, [], 0),
  (58, .aload_n 0, 0, 0, 0, [], 0),
  (59, .getfield 78, 12, 30, 0, [], 1210),
  (62, .iload 5, 0, 0, 0, [], 0),
  (64, .iaload, 0, 0, 0, [], 0),
  (65, .istore 6, 0, 0, 0, [], 0),
  (67, .aload_n 0, 0, 0, 0, [], 0),
  (68, .getfield 78, 12, 30, 0, [], 1210),
  (71, .iload 5, 0, 0, 0, [], 0),
  (73, .iload 4, 0, 0, 0, [], 0),
  (75, .iastore, 0, 0, 0, [], 0),
  (76, .iload 6, 0, 0, 0, [], 0),
  (78, .ireturn, 0, 0, 0, [], 0)]
/-- BikeTownModel.still()I -/
def cd169 : List Ent := [(0, .aload_n 0, 0, 0, 0, [], 0),
  (1, .iconst 0, 0, 0, nI 0, [], 0),
  (2, .putfield 126, 12, 0, 0, [], 1180),
  (5, .iconst 0, 0, 0, nI 0, [], 0),
  (6, .istore_n 1, 0, 0, 0, [], 0),
  (7, .iconst 0, 0, 0, nI 0, [], 0),
  (8, .istore_n 2, 0, 0, 0, [], 0),
  (9, .iload_n 2, 0, 0, 0, [], 0),
  (10, .bipush 25, 0, 0, nI 25, [], 0),
  (12, .if_icmp .ge 30, 27, 0, 0, [], 0),
  (15, .iload_n 1, 0, 0, 0, [], 0),
  (16, .aload_n 0, 0, 0, 0, [], 0),
  (17, .iload_n 2, 0, 0, 0, [], 0),
  (18, .iconst 5, 0, 0, nI 5, [], 0),
  (19, .idiv, 0, 0, 0, [], 0),
  (20, .iload_n 2, 0, 0, 0, [], 0),
  (21, .iconst 5, 0, 0, nI 5, [], 0),
  (22, .irem, 0, 0, 0, [], 0),
  (23, .invokevirtual 272, 123, 0, 0, [], 1588),
  (26, .ifCond .eq 7, 22, 0, 0, [], 0),
  (29, .iconst 1, 0, 0, nI 1, [], 0),
  (30, .goto 4, 23, 0, 0, [], 0),
  (33, .iconst 0, 0, 0, nI 0, [], 0),
  (34, .iadd, 0, 0, 0, [], 0),
  (35, .istore_n 1, 0, 0, 0, [], 0),
  (36, .iinc 2 1, 0, 0, nI 1, [], 0),
  (39, .goto (-30), 7, 0, 0, [], 0),
  (42, .iload_n 1, 0, 0, 0, [], 0),
  (43, .ireturn, 0, 0, 0, [], 0)]
/-- BikeTownModel.stillAt(I)I -/
def cd170 : List Ent := [(0, .aload_n 0, 0, 0, 0, [], 0),
  (1, .iconst 0, 0, 0, nI 0, [], 0),
  (2, .putfield 126, 12, 0, 0, [], 1180),
  (5, .iload_n 1, 0, 0, 0, [], 0),
  (6, .ifCond .ge 6, 7, 0, 0, [], 0),
  (9, .bipush (-2), 0, 0, (-2), [], 0),
  (11, .ireturn, 0, 0, 0, [], 0),
  (12, .iconst 0, 0, 0, nI 0, [], 0),
  (13, .istore_n 2, 0, 0, 0, [], 0),
  (14, .iconst 0, 0, 0, nI 0, [], 0),
  (15, .istore_n 3, 0, 0, 0, [], 0),
  (16, .iload_n 3, 0, 0, 0, [], 0),
  (17, .bipush 25, 0, 0, nI 25, [], 0),
  (19, .if_icmp .ge 41, 39, 0, 0, [], 0),
  (22, .aload_n 0, 0, 0, 0, [], 0),
  (23, .iload_n 3, 0, 0, 0, [], 0),
  (24, .iconst 5, 0, 0, nI 5, [], 0),
  (25, .idiv, 0, 0, 0, [], 0),
  (26, .iload_n 3, 0, 0, 0, [], 0),
  (27, .iconst 5, 0, 0, nI 5, [], 0),
  (28, .irem, 0, 0, 0, [], 0),
  (29, .invokevirtual 272, 123, 0, 0, [], 1588),
  (32, .ifCond .eq 22, 37, 0, 0, [], 0),
  (35, .iload_n 2, 0, 0, 0, [], 0),
  (36, .iload_n 1, 0, 0, 0, [], 0),
  (37, .if_icmp .ne 14, 36, 0, 0, [], 0),
  (40, .bipush 10, 0, 0, nI 10, [], 0),
  (42, .iload_n 3, 0, 0, 0, [], 0),
  (43, .iconst 5, 0, 0, nI 5, [], 0),
  (44, .idiv, 0, 0, 0, [], 0),
  (45, .imul, 0, 0, 0, [], 0),
  (46, .iload_n 3, 0, 0, 0, [], 0),
  (47, .iconst 5, 0, 0, nI 5, [], 0),
  (48, .irem, 0, 0, 0, [], 0),
  (49, .iadd, 0, 0, 0, [], 0),
  (50, .ireturn, 0, 0, 0, [], 0),
  (51, .iinc 2 1, 0, 0, nI 1, [], 0),
  (54, .iinc 3 1, 0, 0, nI 1, [], 0),
  (57, .goto (-41), 11, 0, 0, [], 0),
  (60, .iconst (-1), 0, 0, (-1), [], 0),
  (61, .ireturn, 0, 0, 0, [], 0)]
/-- BikeTownModel.answers(II)I -/
def cd171 : List Ent := [(0, .aload_n 0, 0, 0, 0, [], 0),
  (1, .iconst 0, 0, 0, nI 0, [], 0),
  (2, .putfield 126, 12, 0, 0, [], 1180),
  (5, .iload_n 1, 0, 0, 0, [], 0),
  (6, .invokestatic 265, 122, 0, 0, [], 1580),
  (9, .ifCond .eq 10, 9, 0, 0, [], 0),
  (12, .iload_n 2, 0, 0, 0, [], 0),
  (13, .invokestatic 265, 122, 0, 0, [], 1580),
  (16, .ifCond .ne 6, 11, 0, 0, [], 0),
  (19, .bipush (-2), 0, 0, (-2), [], 0),
  (21, .ireturn, 0, 0, 0, [], 0),
  (22, .iconst 0, 0, 0, nI 0, [], 0),
  (23, .istore_n 3, 0, 0, 0, [], 0),
  (24, .iload_n 3, 0, 0, 0, [], 0),
  (25, .bipush 50, 0, 0, nI 50, [], 0),
  (27, .if_icmp .ge 16, 23, 0, 0, [], 0),
  (30, .aload_n 0, 0, 0, 0, [], 0),
  (31, .getfield 117, 12, 47, 0, [], 1227),
  (34, .iload_n 3, 0, 0, 0, [], 0),
  (35, .iconst 0, 0, 0, nI 0, [], 0),
  (36, .bastore, 0, 0, 0, [], 0),
  (37, .iinc 3 1, 0, 0, nI 1, [], 0),
  (40, .goto (-16), 13, 0, 0, [], 0),
  (43, .iload_n 1, 0, 0, 0, [], 0),
  (44, .istore_n 3, 0, 0, 0, [], 0),
  (45, .iload_n 2, 0, 0, 0, [], 0),
  (46, .istore 4, 0, 0, 0, [], 0),
  (48, .iconst 0, 0, 0, nI 0, [], 0),
  (49, .istore 5, 0, 0, 0, [], 0),
  (51, .aload_n 0, 0, 0, 0, [], 0),
  (52, .iload_n 3, 0, 0, 0, [], 0),
  (53, .iload 4, 0, 0, 0, [], 0),
  (55, .invokevirtual 272, 123, 0, 0, [], 1588),
  (58, .ifCond .ne 91, 83, 0, 0, [], 0),
  (61, .iload 5, 0, 0, 0, [], 0),
  (63, .iconst 2, 0, 0, nI 2, [], 0),
  (64, .irem, 0, 0, 0, [], 0),
  (65, .istore 6, 0, 0, 0, [], 0),
  (67, .bipush 25, 0, 0, nI 25, [], 0),
  (69, .iload 6, 0, 0, 0, [], 0),
  (71, .imul, 0, 0, 0, [], 0),
  (72, .iconst 5, 0, 0, nI 5, [], 0),
  (73, .iload_n 3, 0, 0, 0, [], 0),
  (74, .imul, 0, 0, 0, [], 0),
  (75, .iadd, 0, 0, 0, [], 0),
  (76, .iload 4, 0, 0, 0, [], 0),
  (78, .iadd, 0, 0, 0, [], 0),
  (79, .istore 7, 0, 0, 0, [], 0),
  (81, .aload_n 0, 0, 0, 0, [], 0),
  (82, .getfield 117, 12, 47, 0, [], 1227),
  (85, .iload 7, 0, 0, 0, [], 0),
  (87, .baload, 0, 0, 0, [], 0),
  (88, .ifCond .eq 9, 57, 0, 0, [], 0),
  (91, .bipush (-10), 0, 0, (-10), [], 0),
  (93, .iload 5, 0, 0, 0, [], 0),
  (95, .isub, 0, 0, 0, [], 0),
  (96, .ireturn, 0, 0, 0, [], 0),
  (97, .aload_n 0, 0, 0, 0, [], 0),
  (98, .getfield 117, 12, 47, 0, [], 1227),
  (101, .iload 7, 0, 0, 0, [], 0),
  (103, .iconst 1, 0, 0, nI 1, [], 0),
  (104, .bastore, 0, 0, 0, [], 0),
  (105, .aload_n 0, 0, 0, 0, [], 0),
  (106, .iload 6, 0, 0, 0, [], 0),
  (108, .iload_n 3, 0, 0, 0, [], 0),
  (109, .iload 4, 0, 0, 0, [], 0),
  (111, .invokevirtual 269, 59, 0, 0, [], 1592),
  (114, .istore 8, 0, 0, 0, [], 0),
  (116, .iload 6, 0, 0, 0, [], 0),
  (118, .ifCond .ne 8, 72, 0, 0, [], 0),
  (121, .iload 8, 0, 0, 0, [], 0),
  (123, .goto 4, 73, 0, 0, [], 0),
  (126, .iload_n 3, 0, 0, 0, [], 0),
  (127, .istore_n 3, 0, 0, 0, [], 0),
  (128, .iload 6, 0, 0, 0, [], 0),
  (130, .iconst 1, 0, 0, nI 1, [], 0),
  (131, .if_icmp .ne 8, 79, 0, 0, [], 0),
  (134, .iload 8, 0, 0, 0, [], 0),
  (136, .goto 5, 80, 0, 0, [], 0),
  (139, .iload 4, 0, 0, 0, [], 0),
  (141, .istore 4, 0, 0, 0, [], 0),
  (143, .iinc 5 1, 0, 0, nI 1, [], 0),
  (146, .goto (-95), 29, 0, 0, [], 0),
  (149, .iload 5, 0, 0, 0, [], 0),
  (151, .ireturn, 0, 0, 0, [], 0)]
/-- BikeTownModel.sites(II)I -/
def cd172 : List Ent := [(0, .aload_n 0, 0, 0, 0, [], 0),
  (1, .iconst 0, 0, 0, nI 0, [], 0),
  (2, .putfield 126, 12, 0, 0, [], 1180),
  (5, .iload_n 1, 0, 0, 0, [], 0),
  (6, .iconst 1, 0, 0, nI 1, [], 0),
  (7, .iconst 4, 0, 0, nI 4, [], 0),
  (8, .invokestatic 142, 45, 0, 0, [], 1335),
  (11, .ifCond .eq 20, 17, 0, 0, [], 0),
  (14, .iload_n 1, 0, 0, 0, [], 0),
  (15, .aload_n 0, 0, 0, 0, [], 0),
  (16, .getfield 275, 12, 31, 0, [], 1211),
  (19, .if_icmp .gt 12, 17, 0, 0, [], 0),
  (22, .iload_n 2, 0, 0, 0, [], 0),
  (23, .iconst 0, 0, 0, nI 0, [], 0),
  (24, .iconst 1, 0, 0, nI 1, [], 0),
  (25, .invokestatic 142, 45, 0, 0, [], 1335),
  (28, .ifCond .ne 6, 19, 0, 0, [], 0),
  (31, .bipush (-2), 0, 0, (-2), [], 0),
  (33, .ireturn, 0, 0, 0, [], 0),
  (34, .iconst (-1), 0, 0, (-1), [], 0),
  (35, .istore_n 3, 0, 0, 0, [], 0),
  (36, .iconst 0, 0, 0, nI 0, [], 0),
  (37, .istore 4, 0, 0, 0, [], 0),
  (39, .iconst 0, 0, 0, nI 0, [], 0),
  (40, .istore 5, 0, 0, 0, [], 0),
  (42, .iload 5, 0, 0, 0, [], 0),
  (44, .iconst 1, 0, 0, nI 1, [], 0),
  (45, .aload_n 0, 0, 0, 0, [], 0),
  (46, .getfield 275, 12, 31, 0, [], 1211),
  (49, .ishl, 0, 0, 0, [], 0),
  (50, .if_icmp .ge 109, 86, 0, 0, [], 0),
  (53, .iconst 0, 0, 0, nI 0, [], 0),
  (54, .istore 6, 0, 0, 0, [], 0),
  (56, .iconst 0, 0, 0, nI 0, [], 0),
  (57, .istore 7, 0, 0, 0, [], 0),
  (59, .iload 7, 0, 0, 0, [], 0),
  (61, .aload_n 0, 0, 0, 0, [], 0),
  (62, .getfield 275, 12, 31, 0, [], 1211),
  (65, .if_icmp .ge 21, 49, 0, 0, [], 0),
  (68, .iload 6, 0, 0, 0, [], 0),
  (70, .iload 5, 0, 0, 0, [], 0),
  (72, .iload 7, 0, 0, 0, [], 0),
  (74, .ishr, 0, 0, 0, [], 0),
  (75, .iconst 1, 0, 0, nI 1, [], 0),
  (76, .iand, 0, 0, 0, [], 0),
  (77, .iadd, 0, 0, 0, [], 0),
  (78, .istore 6, 0, 0, 0, [], 0),
  (80, .iinc 7 1, 0, 0, nI 1, [], 0),
  (83, .goto (-24), 35, 0, 0, [], 0),
  (86, .iload 6, 0, 0, 0, [], 0),
  (88, .iload_n 1, 0, 0, 0, [], 0),
  (89, .if_icmp .ne 64, 84, 0, 0, [], 0),
  (92, .iconst 0, 0, 0, nI 0, [], 0),
  (93, .istore 7, 0, 0, 0, [], 0),
  (95, .iconst 0, 0, 0, nI 0, [], 0),
  (96, .istore 8, 0, 0, 0, [], 0),
  (98, .iload 8, 0, 0, 0, [], 0),
  (100, .aload_n 0, 0, 0, 0, [], 0),
  (101, .getfield 278, 12, 34, 0, [], 1214),
  (104, .if_icmp .ge 30, 74, 0, 0, [], 0),
  (107, .iload 7, 0, 0, 0, [], 0),
  (109, .aload_n 0, 0, 0, 0, [], 0),
  (110, .getfield 93, 12, 37, 0, [], 1217),
  (113, .iload 8, 0, 0, 0, [], 0),
  (115, .iaload, 0, 0, 0, [], 0),
  (116, .aload_n 0, 0, 0, 0, [], 0),
  (117, .iload 8, 0, 0, 0, [], 0),
  (119, .iload 5, 0, 0, 0, [], 0),
  (121, .invokevirtual 281, 126, 0, 0, [], 1616),
  (124, .imul, 0, 0, 0, [], 0),
  (125, .iadd, 0, 0, 0, [], 0),
  (126, .istore 7, 0, 0, 0, [], 0),
  (128, .iinc 8 1, 0, 0, nI 1, [], 0),
  (131, .goto (-33), 56, 0, 0, [], 0),
  (134, .iload_n 3, 0, 0, 0, [], 0),
  (135, .iconst (-1), 0, 0, (-1), [], 0),
  (136, .if_icmp .eq 10, 80, 0, 0, [], 0),
  (139, .iload 7, 0, 0, 0, [], 0),
  (141, .iload 4, 0, 0, 0, [], 0),
  (143, .if_icmp .ge 10, 84, 0, 0, [], 0),
  (146, .iload 5, 0, 0, 0, [], 0),
  (148, .istore_n 3, 0, 0, 0, [], 0),
  (149, .iload 7, 0, 0, 0, [], 0),
  (151, .istore 4, 0, 0, 0, [], 0),
  (153, .iinc 5 1, 0, 0, nI 1, [], 0),
  (156, .goto (-114), 25, 0, 0, [], 0),
  (159, .iload_n 2, 0, 0, 0, [], 0),
  (160, .ifCond .ne 7, 90, 0, 0, [], 0),
  (163, .iload_n 3, 0, 0, 0, [], 0),
  (164, .goto 5, 91, 0, 0, [], 0),
  (167, .iload 4, 0, 0, 0, [], 0),
  (169, .ireturn, 0, 0, 0, [], 0)]
/-- BikeTown$Day.begin(I)V -/
def cd173 : List Ent := [(0, .aload_n 0, 0, 0, 0, [], 0),
  (1, .iconst 0, 0, 0, nI 0, [], 0),
  (2, .putfield 75, 0, 4, 0, [], 361),
  (5, .aload_n 0, 0, 0, 0, [], 0),
  (6, .iload_n 1, 0, 0, 0, [], 0),
  (7, .putfield 18, 0, 5, 0, [], 363),
  (10, .iconst 0, 0, 0, nI 0, [], 0),
  (11, .istore_n 2, 0, 0, 0, [], 0),
  (12, .iload_n 2, 0, 0, 0, [], 0),
  (13, .aload_n 0, 0, 0, 0, [], 0),
  (14, .getfield 58, 0, 0, 0, [], 355),
  (17, .getfield 78, 8, 0, 0, [], 113),
  (20, .if_icmp .ge 14, 18, 0, 0, [], 0),
  (23, .aload_n 0, 0, 0, 0, [], 0),
  (24, .iload_n 2, 0, 0, 0, [], 0),
  (25, .invokevirtual 83, 0, 0, 0, [], 884),
  (28, .iinc 2 1, 0, 0, nI 1, [], 0),
  (31, .goto (-19), 8, 0, 0, [], 0),
  (34, .iconst 0, 0, 0, nI 0, [], 0),
  (35, .istore_n 2, 0, 0, 0, [], 0),
  (36, .iload_n 2, 0, 0, 0, [], 0),
  (37, .aload_n 0, 0, 0, 0, [], 0),
  (38, .getfield 58, 0, 0, 0, [], 355),
  (41, .getfield 86, 8, 1, 0, [], 116),
  (44, .if_icmp .ge 14, 30, 0, 0, [], 0),
  (47, .aload_n 0, 0, 0, 0, [], 0),
  (48, .iload_n 2, 0, 0, 0, [], 0),
  (49, .invokevirtual 89, 64, 0, 0, [], 885),
  (52, .iinc 2 1, 0, 0, nI 1, [], 0),
  (55, .goto (-19), 20, 0, 0, [], 0),
  (58, .iconst 0, 0, 0, nI 0, [], 0),
  (59, .istore_n 2, 0, 0, 0, [], 0),
  (60, .iload_n 2, 0, 0, 0, [], 0),
  (61, .aload_n 0, 0, 0, 0, [], 0),
  (62, .getfield 58, 0, 0, 0, [], 355),
  (65, .getfield 92, 8, 2, 0, [], 119),
  (68, .if_icmp .ge 14, 42, 0, 0, [], 0),
  (71, .aload_n 0, 0, 0, 0, [], 0),
  (72, .iload_n 2, 0, 0, 0, [], 0),
  (73, .invokevirtual 95, 1, 0, 0, [], 886),
  (76, .iinc 2 1, 0, 0, nI 1, [], 0),
  (79, .goto (-19), 32, 0, 0, [], 0),
  (82, .aload_n 0, 0, 0, 0, [], 0),
  (83, .getfield 12, 0, 3, 0, [], 359),
  (86, .invokevirtual 98, 33, 0, 0, [], 887),
  (89, .aload_n 0, 0, 0, 0, [], 0),
  (90, .getfield 71, 0, 2, 0, [], 357),
  (93, .invokevirtual 101, 134, 0, 0, [], 891),
  (96, .return_, 0, 0, 0, [], 0)]
/-- BikeTown$Day.redo(LBikeTown$Hands;I)I -/
def cd174 : List Ent := [(0, .iload_n 2, 0, 0, 0, [], 0),
  (1, .istore_n 3, 0, 0, 0, [], 0),
  (2, .iload_n 3, 0, 0, 0, [], 0),
  (3, .aload_n 1, 0, 0, 0, [], 0),
  (4, .getfield 111, 3, 0, 0, [], 238),
  (7, .if_icmp .ge 69, 41, 0, 0, [], 0),
  (10, .aload_n 1, 0, 0, 0, [], 0),
  (11, .getfield 116, 3, 1, 0, [], 241),
  (14, .iload_n 3, 0, 0, 0, [], 0),
  (15, .iaload, 0, 0, 0, [], 0),
  (16, .aload_n 0, 0, 0, 0, [], 0),
  (17, .getfield 75, 0, 4, 0, [], 361),
  (20, .if_icmp .gt 56, 41, 0, 0, [], 0),
  (23, .aload_n 1, 0, 0, 0, [], 0),
  (24, .getfield 118, 3, 2, 0, [], 243),
  (27, .iload_n 3, 0, 0, 0, [], 0),
  (28, .iaload, 0, 0, 0, [], 0),
  (29, .istore 4, 0, 0, 0, [], 0),
  (31, .aload_n 1, 0, 0, 0, [], 0),
  (32, .getfield 121, 3, 3, 0, [], 245),
  (35, .iload_n 3, 0, 0, 0, [], 0),
  (36, .iaload, 0, 0, 0, [], 0),
  (37, .istore 5, 0, 0, 0, [], 0),
  (39, .aload_n 1, 0, 0, 0, [], 0),
  (40, .getfield 124, 3, 4, 0, [], 247),
  (43, .iload_n 3, 0, 0, 0, [], 0),
  (44, .iaload, 0, 0, 0, [], 0),
  (45, .istore 6, 0, 0, 0, [], 0),
  (47, .aload_n 0, 0, 0, 0, [], 0),
  (48, .iload 4, 0, 0, 0, [], 0),
  (50, .iload 5, 0, 0, 0, [], 0),
  (52, .iload 6, 0, 0, 0, [], 0),
  (54, .invokevirtual 127, 72, 0, 0, [], 972),
  (57, .ifCond .eq 13, 39, 0, 0, [], 0),
  (60, .aload_n 0, 0, 0, 0, [], 0),
  (61, .iload 4, 0, 0, 0, [], 0),
  (63, .iload 5, 0, 0, 0, [], 0),
  (65, .iload 6, 0, 0, 0, [], 0),
  (67, .invokevirtual 131, 129, 0, 0, [], 973),
  (70, .iinc 3 1, 0, 0, nI 1, [], 0),
  (73, .goto (-71), 2, 0, 0, [], 0),
  (76, .iload_n 3, 0, 0, 0, [], 0),
  (77, .ireturn, 0, 0, 0, [], 0)]
/-- BikeTown$Day.endRide(I)V -/
def cd175 : List Ent := [(0, .aload_n 0, 0, 0, 0, [], 0),
  (1, .getfield 47, 0, 13, 0, [], 374),
  (4, .iconst 1, 0, 0, nI 1, [], 0),
  (5, .aaload, 0, 0, 0, [], 0),
  (6, .iload_n 1, 0, 0, 0, [], 0),
  (7, .iaload, 0, 0, 0, [], 0),
  (8, .istore_n 2, 0, 0, 0, [], 0),
  (9, .aload_n 0, 0, 0, 0, [], 0),
  (10, .getfield 58, 0, 0, 0, [], 355),
  (13, .iload_n 2, 0, 0, 0, [], 0),
  (14, .invokevirtual 207, 26, 0, 0, [], 742),
  (17, .ifCond .eq 14, 19, 0, 0, [], 0),
  (20, .aload_n 0, 0, 0, 0, [], 0),
  (21, .getfield 41, 0, 11, 0, [], 371),
  (24, .iconst 1, 0, 0, nI 1, [], 0),
  (25, .aaload, 0, 0, 0, [], 0),
  (26, .iload_n 2, 0, 0, 0, [], 0),
  (27, .iaload, 0, 0, 0, [], 0),
  (28, .goto 4, 20, 0, 0, [], 0),
  (31, .iconst (-1), 0, 0, (-1), [], 0),
  (32, .istore_n 3, 0, 0, 0, [], 0),
  (33, .aload_n 0, 0, 0, 0, [], 0),
  (34, .getfield 58, 0, 0, 0, [], 355),
  (37, .iload_n 3, 0, 0, 0, [], 0),
  (38, .invokevirtual 142, 25, 0, 0, [], 644),
  (41, .ifCond .ne 4, 27, 0, 0, [], 0),
  (44, .return_, 0, 0, 0, [], 0),
  (45, .aload_n 0, 0, 0, 0, [], 0),
  (46, .iload_n 3, 0, 0, 0, [], 0),
  (47, .invokevirtual 210, 65, 0, 0, [], 743),
  (50, .ifCond .eq 11, 37, 0, 0, [], 0),
  (53, .aload_n 0, 0, 0, 0, [], 0),
  (54, .iload_n 1, 0, 0, 0, [], 0),
  (55, .iload_n 2, 0, 0, 0, [], 0),
  (56, .iload_n 3, 0, 0, 0, [], 0),
  (57, .invokevirtual 213, 73, 0, 0, [], 747),
  (60, .return_, 0, 0, 0, [], 0),
  (61, .aload_n 0, 0, 0, 0, [], 0),
  (62, .iload_n 3, 0, 0, 0, [], 0),
  (63, .invokevirtual 216, 130, 0, 0, [], 751),
  (66, .istore 4, 0, 0, 0, [], 0),
  (68, .aload_n 0, 0, 0, 0, [], 0),
  (69, .getfield 50, 0, 14, 0, [], 376),
  (72, .iload_n 1, 0, 0, 0, [], 0),
  (73, .aload_n 0, 0, 0, 0, [], 0),
  (74, .getfield 75, 0, 4, 0, [], 361),
  (77, .iload 4, 0, 0, 0, [], 0),
  (79, .iconst (-1), 0, 0, (-1), [], 0),
  (80, .if_icmp .ne 7, 51, 0, 0, [], 0),
  (83, .iconst 1, 0, 0, nI 1, [], 0),
  (84, .goto 13, 56, 0, 0, [], 0),
  (87, .aload_n 0, 0, 0, 0, [], 0),
  (88, .getfield 58, 0, 0, 0, [], 355),
  (91, .iload_n 3, 0, 0, 0, [], 0),
  (92, .iload 4, 0, 0, 0, [], 0),
  (94, .invokevirtual 219, 89, 0, 0, [], 755),
  (97, .iadd, 0, 0, 0, [], 0),
  (98, .iastore, 0, 0, 0, [], 0),
  (99, .iload 4, 0, 0, 0, [], 0),
  (101, .iconst (-1), 0, 0, (-1), [], 0),
  (102, .if_icmp .eq 13, 68, 0, 0, [], 0),
  (105, .aload_n 0, 0, 0, 0, [], 0),
  (106, .getfield 41, 0, 11, 0, [], 371),
  (109, .iconst 1, 0, 0, nI 1, [], 0),
  (110, .aaload, 0, 0, 0, [], 0),
  (111, .iload_n 2, 0, 0, 0, [], 0),
  (112, .iload 4, 0, 0, 0, [], 0),
  (114, .iastore, 0, 0, 0, [], 0),
  (115, .return_, 0, 0, 0, [], 0)]
/-- BikeTown$Day.followRule(II)V -/
def cd176 : List Ent := [(0, .aload_n 0, 0, 0, 0, [], 0),
  (1, .iload_n 2, 0, 0, 0, [], 0),
  (2, .invokevirtual 233, 75, 0, 0, [], 774),
  (5, .aload_n 0, 0, 0, 0, [], 0),
  (6, .getfield 62, 0, 1, 0, [], 356),
  (9, .iload_n 1, 0, 0, 0, [], 0),
  (10, .aload_n 0, 0, 0, 0, [], 0),
  (11, .getfield 55, 0, 15, 0, [], 377),
  (14, .invokevirtual 236, 139, 0, 0, [], 782),
  (17, .ifCond .ne 4, 11, 0, 0, [], 0),
  (20, .return_, 0, 0, 0, [], 0),
  (21, .aload_n 0, 0, 0, 0, [], 0),
  (22, .getfield 62, 0, 1, 0, [], 356),
  (25, .iload_n 1, 0, 0, 0, [], 0),
  (26, .invokevirtual 240, 22, 0, 0, [], 798),
  (29, .lookupswitch 74 #[(23, 35), (28, 56), (29, 65)], 37, 0, 0, [(nI 23, 16), (nI 28, 27), (nI 29, 32)], 0),
  (64, .aload_n 0, 0, 0, 0, [], 0),
  (65, .getfield 22, 0, 6, 0, [], 364),
  (68, .iload_n 2, 0, 0, 0, [], 0),
  (69, .aload_n 0, 0, 0, 0, [], 0),
  (70, .getfield 62, 0, 1, 0, [], 356),
  (73, .iload_n 1, 0, 0, 0, [], 0),
  (74, .aload_n 0, 0, 0, 0, [], 0),
  (75, .getfield 55, 0, 15, 0, [], 377),
  (78, .invokevirtual 243, 87, 0, 0, [], 802),
  (81, .iastore, 0, 0, 0, [], 0),
  (82, .goto 30, 42, 0, 0, [], 0),
  (85, .aload_n 0, 0, 0, 0, [], 0),
  (86, .iload_n 2, 0, 0, 0, [], 0),
  (87, .iconst 0, 0, 0, nI 0, [], 0),
  (88, .invokevirtual 170, 70, 0, 0, [], 632),
  (91, .goto 21, 42, 0, 0, [], 0),
  (94, .aload_n 0, 0, 0, 0, [], 0),
  (95, .iload_n 2, 0, 0, 0, [], 0),
  (96, .iconst 1, 0, 0, nI 1, [], 0),
  (97, .invokevirtual 170, 70, 0, 0, [], 632),
  (100, .goto 12, 42, 0, 0, [], 0),
  (103, .aload_n 0, 0, 0, 0, [], 0),
  (104, .aload_n 0, 0, 0, 0, [], 0),
  (105, .iload_n 2, 0, 0, 0, [], 0),
  (106, .invokevirtual 247, 69, 0, 0, [], 808),
  (109, .invokevirtual 250, 131, 0, 0, [], 812),
  (112, .return_, 0, 0, 0, [], 0)]
/-- BikeTown$Day.doStop(II)V -/
def cd177 : List Ent := [(0, .iconst 0, 0, 0, nI 0, [], 0),
  (1, .istore_n 3, 0, 0, 0, [], 0),
  (2, .iload_n 3, 0, 0, 0, [], 0),
  (3, .iload_n 2, 0, 0, 0, [], 0),
  (4, .if_icmp .ge 14, 10, 0, 0, [], 0),
  (7, .aload_n 0, 0, 0, 0, [], 0),
  (8, .iload_n 1, 0, 0, 0, [], 0),
  (9, .invokevirtual 278, 132, 0, 0, [], 824),
  (12, .iinc 3 1, 0, 0, nI 1, [], 0),
  (15, .goto (-13), 2, 0, 0, [], 0),
  (18, .iconst 0, 0, 0, nI 0, [], 0),
  (19, .istore_n 3, 0, 0, 0, [], 0),
  (20, .iload_n 3, 0, 0, 0, [], 0),
  (21, .iload_n 2, 0, 0, 0, [], 0),
  (22, .ineg, 0, 0, 0, [], 0),
  (23, .if_icmp .ge 14, 21, 0, 0, [], 0),
  (26, .aload_n 0, 0, 0, 0, [], 0),
  (27, .iload_n 1, 0, 0, 0, [], 0),
  (28, .invokevirtual 281, 76, 0, 0, [], 836),
  (31, .iinc 3 1, 0, 0, nI 1, [], 0),
  (34, .goto (-14), 12, 0, 0, [], 0),
  (37, .return_, 0, 0, 0, [], 0)]
/-- BikeTown$Day.lookAtRider(I)V -/
def cd178 : List Ent := [(0, .aload_n 0, 0, 0, 0, [], 0),
  (1, .getfield 58, 0, 0, 0, [], 355),
  (4, .getfield 300, 8, 10, 0, [], 139),
  (7, .iload_n 1, 0, 0, 0, [], 0),
  (8, .iaload, 0, 0, 0, [], 0),
  (9, .istore_n 2, 0, 0, 0, [], 0),
  (10, .aload_n 0, 0, 0, 0, [], 0),
  (11, .getfield 58, 0, 0, 0, [], 355),
  (14, .getfield 303, 8, 12, 0, [], 143),
  (17, .iload_n 1, 0, 0, 0, [], 0),
  (18, .iaload, 0, 0, 0, [], 0),
  (19, .istore_n 3, 0, 0, 0, [], 0),
  (20, .aload_n 0, 0, 0, 0, [], 0),
  (21, .getfield 26, 0, 7, 0, [], 366),
  (24, .iload_n 2, 0, 0, 0, [], 0),
  (25, .baload, 0, 0, 0, [], 0),
  (26, .ifCond .eq 21, 27, 0, 0, [], 0),
  (29, .aload_n 0, 0, 0, 0, [], 0),
  (30, .getfield 22, 0, 6, 0, [], 364),
  (33, .iload_n 2, 0, 0, 0, [], 0),
  (34, .iaload, 0, 0, 0, [], 0),
  (35, .aload_n 0, 0, 0, 0, [], 0),
  (36, .getfield 58, 0, 0, 0, [], 355),
  (39, .getfield 306, 8, 13, 0, [], 146),
  (42, .iload_n 3, 0, 0, 0, [], 0),
  (43, .iaload, 0, 0, 0, [], 0),
  (44, .if_icmp .le 7, 29, 0, 0, [], 0),
  (47, .iconst 1, 0, 0, nI 1, [], 0),
  (48, .goto 4, 30, 0, 0, [], 0),
  (51, .iconst 0, 0, 0, nI 0, [], 0),
  (52, .istore 4, 0, 0, 0, [], 0),
  (54, .iload 4, 0, 0, 0, [], 0),
  (56, .ifCond .eq 7, 35, 0, 0, [], 0),
  (59, .iconst (-1), 0, 0, (-1), [], 0),
  (60, .goto 8, 38, 0, 0, [], 0),
  (63, .aload_n 0, 0, 0, 0, [], 0),
  (64, .iload_n 2, 0, 0, 0, [], 0),
  (65, .invokevirtual 287, 67, 0, 0, [], 828),
  (68, .istore 5, 0, 0, 0, [], 0),
  (70, .aload_n 0, 0, 0, 0, [], 0),
  (71, .getfield 47, 0, 13, 0, [], 374),
  (74, .iconst 0, 0, 0, nI 0, [], 0),
  (75, .aaload, 0, 0, 0, [], 0),
  (76, .iload_n 1, 0, 0, 0, [], 0),
  (77, .iaload, 0, 0, 0, [], 0),
  (78, .iconst 1, 0, 0, nI 1, [], 0),
  (79, .if_icmp .ne 7, 49, 0, 0, [], 0),
  (82, .iconst 1, 0, 0, nI 1, [], 0),
  (83, .goto 4, 50, 0, 0, [], 0),
  (86, .iconst 0, 0, 0, nI 0, [], 0),
  (87, .istore 6, 0, 0, 0, [], 0),
  (89, .iload 6, 0, 0, 0, [], 0),
  (91, .ifCond .eq 13, 61, 0, 0, [], 0),
  (94, .aload_n 0, 0, 0, 0, [], 0),
  (95, .getfield 36, 0, 10, 0, [], 370),
  (98, .iload_n 2, 0, 0, 0, [], 0),
  (99, .dup2, 0, 0, 0, [], 0),
  (100, .iaload, 0, 0, 0, [], 0),
  (101, .iconst 1, 0, 0, nI 1, [], 0),
  (102, .isub, 0, 0, 0, [], 0),
  (103, .iastore, 0, 0, 0, [], 0),
  (104, .iload 4, 0, 0, 0, [], 0),
  (106, .ifCond .eq 18, 71, 0, 0, [], 0),
  (109, .iload 6, 0, 0, 0, [], 0),
  (111, .ifCond .ne 13, 71, 0, 0, [], 0),
  (114, .aload_n 0, 0, 0, 0, [], 0),
  (115, .iload_n 1, 0, 0, 0, [], 0),
  (116, .iload_n 2, 0, 0, 0, [], 0),
  (117, .iconst 4, 0, 0, nI 4, [], 0),
  (118, .invokevirtual 309, 77, 0, 0, [], 856),
  (121, .goto 75, 115, 0, 0, [], 0),
  (124, .iload 5, 0, 0, 0, [], 0),
  (126, .iconst (-1), 0, 0, (-1), [], 0),
  (127, .if_icmp .eq 14, 80, 0, 0, [], 0),
  (130, .aload_n 0, 0, 0, 0, [], 0),
  (131, .iload_n 1, 0, 0, 0, [], 0),
  (132, .iload 5, 0, 0, 0, [], 0),
  (134, .iload_n 2, 0, 0, 0, [], 0),
  (135, .invokevirtual 312, 133, 0, 0, [], 860),
  (138, .goto 58, 115, 0, 0, [], 0),
  (141, .aload_n 0, 0, 0, 0, [], 0),
  (142, .getfield 75, 0, 4, 0, [], 361),
  (145, .aload_n 0, 0, 0, 0, [], 0),
  (146, .getfield 58, 0, 0, 0, [], 355),
  (149, .getfield 296, 8, 9, 0, [], 137),
  (152, .iload_n 1, 0, 0, 0, [], 0),
  (153, .iaload, 0, 0, 0, [], 0),
  (154, .isub, 0, 0, 0, [], 0),
  (155, .aload_n 0, 0, 0, 0, [], 0),
  (156, .getfield 58, 0, 0, 0, [], 355),
  (159, .getfield 315, 8, 14, 0, [], 149),
  (162, .iload_n 3, 0, 0, 0, [], 0),
  (163, .iaload, 0, 0, 0, [], 0),
  (164, .if_icmp .lt 13, 100, 0, 0, [], 0),
  (167, .aload_n 0, 0, 0, 0, [], 0),
  (168, .iload_n 1, 0, 0, 0, [], 0),
  (169, .iload_n 2, 0, 0, 0, [], 0),
  (170, .iconst 5, 0, 0, nI 5, [], 0),
  (171, .invokevirtual 309, 77, 0, 0, [], 856),
  (174, .goto 22, 115, 0, 0, [], 0),
  (177, .aload_n 0, 0, 0, 0, [], 0),
  (178, .getfield 47, 0, 13, 0, [], 374),
  (181, .iconst 0, 0, 0, nI 0, [], 0),
  (182, .aaload, 0, 0, 0, [], 0),
  (183, .iload_n 1, 0, 0, 0, [], 0),
  (184, .iconst 1, 0, 0, nI 1, [], 0),
  (185, .iastore, 0, 0, 0, [], 0),
  (186, .aload_n 0, 0, 0, 0, [], 0),
  (187, .getfield 36, 0, 10, 0, [], 370),
  (190, .iload_n 2, 0, 0, 0, [], 0),
  (191, .dup2, 0, 0, 0, [], 0),
  (192, .iaload, 0, 0, 0, [], 0),
  (193, .iconst 1, 0, 0, nI 1, [], 0),
  (194, .iadd, 0, 0, 0, [], 0),
  (195, .iastore, 0, 0, 0, [], 0),
  (196, .return_, 0, 0, 0, [], 0)]
/-- BikeTown$Houses.isStill(II)Z -/
def cd179 : List Ent := [(0, .aload_n 0, 0, 0, 0, [], 0),
  (1, .iconst 0, 0, 0, nI 0, [], 0),
  (2, .iload_n 1, 0, 0, 0, [], 0),
  (3, .iload_n 2, 0, 0, 0, [], 0),
  (4, .invokevirtual 28, 135, 0, 0, [], 1060),
  (7, .iload_n 1, 0, 0, 0, [], 0),
  (8, .if_icmp .ne 18, 16, 0, 0, [], 0),
  (11, .aload_n 0, 0, 0, 0, [], 0),
  (12, .iconst 1, 0, 0, nI 1, [], 0),
  (13, .iload_n 1, 0, 0, 0, [], 0),
  (14, .iload_n 2, 0, 0, 0, [], 0),
  (15, .invokevirtual 28, 135, 0, 0, [], 1060),
  (18, .iload_n 2, 0, 0, 0, [], 0),
  (19, .if_icmp .ne 7, 16, 0, 0, [], 0),
  (22, .iconst 1, 0, 0, nI 1, [], 0),
  (23, .goto 4, 17, 0, 0, [], 0),
  (26, .iconst 0, 0, 0, nI 0, [], 0),
  (27, .ireturn, 0, 0, 0, [], 0)]
/-- BikeTown$Houses.turnsFrom(II)I -/
def cd180 : List Ent := [(0, .iload_n 1, 0, 0, 0, [], 0),
  (1, .istore_n 3, 0, 0, 0, [], 0),
  (2, .iload_n 2, 0, 0, 0, [], 0),
  (3, .istore 4, 0, 0, 0, [], 0),
  (5, .iconst 0, 0, 0, nI 0, [], 0),
  (6, .istore 5, 0, 0, 0, [], 0),
  (8, .iconst 0, 0, 0, nI 0, [], 0),
  (9, .istore 6, 0, 0, 0, [], 0),
  (11, .iconst 0, 0, 0, nI 0, [], 0),
  (12, .istore 7, 0, 0, 0, [], 0),
  (14, .iload 7, 0, 0, 0, [], 0),
  (16, .aload_n 0, 0, 0, 0, [], 0),
  (17, .getfield 16, 4, 1, 0, [], 461),
  (20, .arraylength, 0, 0, 0, [], 0),
  (21, .if_icmp .ge 17, 22, 0, 0, [], 0),
  (24, .aload_n 0, 0, 0, 0, [], 0),
  (25, .getfield 16, 4, 1, 0, [], 461),
  (28, .iload 7, 0, 0, 0, [], 0),
  (30, .iconst 0, 0, 0, nI 0, [], 0),
  (31, .bastore, 0, 0, 0, [], 0),
  (32, .iinc 7 1, 0, 0, nI 1, [], 0),
  (35, .goto (-21), 10, 0, 0, [], 0),
  (38, .iconst 0, 0, 0, nI 0, [], 0),
  (39, .istore 7, 0, 0, 0, [], 0),
  (41, .iload 7, 0, 0, 0, [], 0),
  (43, .aload_n 0, 0, 0, 0, [], 0),
  (44, .getfield 16, 4, 1, 0, [], 461),
  (47, .arraylength, 0, 0, 0, [], 0),
  (48, .if_icmp .gt 115, 90, 0, 0, [], 0),
  (51, .iconst 2, 0, 0, nI 2, [], 0),
  (52, .iload_n 3, 0, 0, 0, [], 0),
  (53, .iload 4, 0, 0, 0, [], 0),
  (55, .invokestatic 20, 13, 0, 0, [], 1068),
  (58, .imul, 0, 0, 0, [], 0),
  (59, .iload 5, 0, 0, 0, [], 0),
  (61, .iadd, 0, 0, 0, [], 0),
  (62, .istore 8, 0, 0, 0, [], 0),
  (64, .aload_n 0, 0, 0, 0, [], 0),
  (65, .getfield 16, 4, 1, 0, [], 461),
  (68, .iload 8, 0, 0, 0, [], 0),
  (70, .baload, 0, 0, 0, [], 0),
  (71, .ifCond .eq 9, 46, 0, 0, [], 0),
  (74, .bipush (-10), 0, 0, (-10), [], 0),
  (76, .iload 7, 0, 0, 0, [], 0),
  (78, .isub, 0, 0, 0, [], 0),
  (79, .ireturn, 0, 0, 0, [], 0),
  (80, .aload_n 0, 0, 0, 0, [], 0),
  (81, .getfield 16, 4, 1, 0, [], 461),
  (84, .iload 8, 0, 0, 0, [], 0),
  (86, .iconst 1, 0, 0, nI 1, [], 0),
  (87, .bastore, 0, 0, 0, [], 0),
  (88, .aload_n 0, 0, 0, 0, [], 0),
  (89, .iload 5, 0, 0, 0, [], 0),
  (91, .iload_n 3, 0, 0, 0, [], 0),
  (92, .iload 4, 0, 0, 0, [], 0),
  (94, .invokevirtual 28, 135, 0, 0, [], 1060),
  (97, .istore 9, 0, 0, 0, [], 0),
  (99, .iload 9, 0, 0, 0, [], 0),
  (101, .iload 5, 0, 0, 0, [], 0),
  (103, .ifCond .ne 7, 62, 0, 0, [], 0),
  (106, .iload_n 3, 0, 0, 0, [], 0),
  (107, .goto 5, 63, 0, 0, [], 0),
  (110, .iload 4, 0, 0, 0, [], 0),
  (112, .if_icmp .ne 10, 68, 0, 0, [], 0),
  (115, .iload 6, 0, 0, 0, [], 0),
  (117, .iconst 1, 0, 0, nI 1, [], 0),
  (118, .iadd, 0, 0, 0, [], 0),
  (119, .goto 4, 69, 0, 0, [], 0),
  (122, .iconst 0, 0, 0, nI 0, [], 0),
  (123, .istore 6, 0, 0, 0, [], 0),
  (125, .iload 6, 0, 0, 0, [], 0),
  (127, .iconst 2, 0, 0, nI 2, [], 0),
  (128, .if_icmp .ne 8, 77, 0, 0, [], 0),
  (131, .iload 7, 0, 0, 0, [], 0),
  (133, .iconst 1, 0, 0, nI 1, [], 0),
  (134, .isub, 0, 0, 0, [], 0),
  (135, .ireturn, 0, 0, 0, [], 0),
  (136, .iload 5, 0, 0, 0, [], 0),
  (138, .ifCond .ne 9, 82, 0, 0, [], 0),
  (141, .iload 9, 0, 0, 0, [], 0),
  (143, .istore_n 3, 0, 0, 0, [], 0),
  (144, .goto 7, 84, 0, 0, [], 0),
  (147, .iload 9, 0, 0, 0, [], 0),
  (149, .istore 4, 0, 0, 0, [], 0),
  (151, .iconst 1, 0, 0, nI 1, [], 0),
  (152, .iload 5, 0, 0, 0, [], 0),
  (154, .isub, 0, 0, 0, [], 0),
  (155, .istore 5, 0, 0, 0, [], 0),
  (157, .iinc 7 1, 0, 0, nI 1, [], 0),
  (160, .goto (-119), 24, 0, 0, [], 0),
  (163, .iconst (-1), 0, 0, (-1), [], 0),
  (164, .ireturn, 0, 0, 0, [], 0)]
/-- BikeTown$Round.waysFrom(LBikeTown$Told;III)I -/
def cd181 : List Ent := [(0, .aload_n 0, 0, 0, 0, [], 0),
  (1, .getfield 18, 5, 3, 0, [], 439),
  (4, .iload_n 2, 0, 0, 0, [], 0),
  (5, .iaload, 0, 0, 0, [], 0),
  (6, .ifCond .lt 14, 11, 0, 0, [], 0),
  (9, .aload_n 0, 0, 0, 0, [], 0),
  (10, .getfield 18, 5, 3, 0, [], 439),
  (13, .iload_n 2, 0, 0, 0, [], 0),
  (14, .iaload, 0, 0, 0, [], 0),
  (15, .bipush 12, 0, 0, nI 12, [], 0),
  (17, .if_icmp .le 6, 13, 0, 0, [], 0),
  (20, .ldc 55, 0, 0, nI 1000000, [], 1010),
  (22, .ireturn, 0, 0, 0, [], 0),
  (23, .iload_n 2, 0, 0, 0, [], 0),
  (24, .iload 4, 0, 0, 0, [], 0),
  (26, .if_icmp .ne 5, 18, 0, 0, [], 0),
  (29, .iconst 0, 0, 0, nI 0, [], 0),
  (30, .ireturn, 0, 0, 0, [], 0),
  (31, .ldc 55, 0, 0, nI 1000000, [], 1010),
  (33, .istore 5, 0, 0, 0, [], 0),
  (35, .iconst 0, 0, 0, nI 0, [], 0),
  (36, .istore 6, 0, 0, 0, [], 0),
  (38, .iload 6, 0, 0, 0, [], 0),
  (40, .aload_n 0, 0, 0, 0, [], 0),
  (41, .getfield 27, 5, 2, 0, [], 438),
  (44, .if_icmp .ge 34, 43, 0, 0, [], 0),
  (47, .iload_n 2, 0, 0, 0, [], 0),
  (48, .iload 6, 0, 0, 0, [], 0),
  (50, .ishr, 0, 0, 0, [], 0),
  (51, .iconst 1, 0, 0, nI 1, [], 0),
  (52, .iand, 0, 0, 0, [], 0),
  (53, .ifCond .ne 19, 41, 0, 0, [], 0),
  (56, .iload 5, 0, 0, 0, [], 0),
  (58, .aload_n 0, 0, 0, 0, [], 0),
  (59, .aload_n 1, 0, 0, 0, [], 0),
  (60, .iload_n 2, 0, 0, 0, [], 0),
  (61, .iload_n 3, 0, 0, 0, [], 0),
  (62, .iload 6, 0, 0, 0, [], 0),
  (64, .invokevirtual 56, 136, 0, 0, [], 1011),
  (67, .invokestatic 59, 0, 3, 0, [], 1016),
  (70, .istore 5, 0, 0, 0, [], 0),
  (72, .iinc 6 1, 0, 0, nI 1, [], 0),
  (75, .goto (-37), 22, 0, 0, [], 0),
  (78, .iload 5, 0, 0, 0, [], 0),
  (80, .ireturn, 0, 0, 0, [], 0)]
/-- BikeTown$Round.firstOfBest(LBikeTown$Told;LBikeTown$Van;)I -/
def cd182 : List Ent := [(0, .iconst (-1), 0, 0, (-1), [], 0),
  (1, .istore_n 3, 0, 0, 0, [], 0),
  (2, .ldc 55, 0, 0, nI 1000000, [], 1010),
  (4, .istore 4, 0, 0, 0, [], 0),
  (6, .iconst 0, 0, 0, nI 0, [], 0),
  (7, .istore 5, 0, 0, 0, [], 0),
  (9, .iload 5, 0, 0, 0, [], 0),
  (11, .aload_n 0, 0, 0, 0, [], 0),
  (12, .getfield 27, 5, 2, 0, [], 438),
  (15, .if_icmp .ge 33, 25, 0, 0, [], 0),
  (18, .aload_n 0, 0, 0, 0, [], 0),
  (19, .aload_n 1, 0, 0, 0, [], 0),
  (20, .aload_n 2, 0, 0, 0, [], 0),
  (21, .iload 5, 0, 0, 0, [], 0),
  (23, .invokevirtual 51, 137, 0, 0, [], 1021),
  (26, .istore 6, 0, 0, 0, [], 0),
  (28, .iload 6, 0, 0, 0, [], 0),
  (30, .iload 4, 0, 0, 0, [], 0),
  (32, .if_icmp .ge 10, 23, 0, 0, [], 0),
  (35, .iload 5, 0, 0, 0, [], 0),
  (37, .istore_n 3, 0, 0, 0, [], 0),
  (38, .iload 6, 0, 0, 0, [], 0),
  (40, .istore 4, 0, 0, 0, [], 0),
  (42, .iinc 5 1, 0, 0, nI 1, [], 0),
  (45, .goto (-36), 6, 0, 0, [], 0),
  (48, .iload_n 3, 0, 0, 0, [], 0),
  (49, .ireturn, 0, 0, 0, [], 0)]
/-- BikeTown$Round.nextOfBest(LBikeTown$Told;II)I -/
def cd183 : List Ent := [(0, .iconst 0, 0, 0, nI 0, [], 0),
  (1, .istore 4, 0, 0, 0, [], 0),
  (3, .iload 4, 0, 0, 0, [], 0),
  (5, .aload_n 0, 0, 0, 0, [], 0),
  (6, .getfield 27, 5, 2, 0, [], 438),
  (9, .if_icmp .ge 43, 29, 0, 0, [], 0),
  (12, .iload_n 2, 0, 0, 0, [], 0),
  (13, .iload 4, 0, 0, 0, [], 0),
  (15, .ishr, 0, 0, 0, [], 0),
  (16, .iconst 1, 0, 0, nI 1, [], 0),
  (17, .iand, 0, 0, 0, [], 0),
  (18, .ifCond .ne 28, 27, 0, 0, [], 0),
  (21, .aload_n 0, 0, 0, 0, [], 0),
  (22, .aload_n 1, 0, 0, 0, [], 0),
  (23, .iload_n 2, 0, 0, 0, [], 0),
  (24, .iload_n 3, 0, 0, 0, [], 0),
  (25, .iload 4, 0, 0, 0, [], 0),
  (27, .invokevirtual 56, 136, 0, 0, [], 1011),
  (30, .aload_n 0, 0, 0, 0, [], 0),
  (31, .getfield 21, 5, 4, 0, [], 440),
  (34, .iload_n 2, 0, 0, 0, [], 0),
  (35, .iload_n 3, 0, 0, 0, [], 0),
  (36, .invokestatic 39, 14, 0, 0, [], 1003),
  (39, .iaload, 0, 0, 0, [], 0),
  (40, .if_icmp .ne 6, 27, 0, 0, [], 0),
  (43, .iload 4, 0, 0, 0, [], 0),
  (45, .ireturn, 0, 0, 0, [], 0),
  (46, .iinc 4 1, 0, 0, nI 1, [], 0),
  (49, .goto (-46), 2, 0, 0, [], 0),
  (52, .iconst (-1), 0, 0, (-1), [], 0),
  (53, .ireturn, 0, 0, 0, [], 0)]
/-- BikeTown$Sites.bestSet(I)I -/
def cd184 : List Ent := [(0, .iconst 0, 0, 0, nI 0, [], 0),
  (1, .istore_n 2, 0, 0, 0, [], 0),
  (2, .iconst 0, 0, 0, nI 0, [], 0),
  (3, .istore_n 3, 0, 0, 0, [], 0),
  (4, .iconst 1, 0, 0, nI 1, [], 0),
  (5, .istore 4, 0, 0, 0, [], 0),
  (7, .iload 4, 0, 0, 0, [], 0),
  (9, .iconst 1, 0, 0, nI 1, [], 0),
  (10, .aload_n 0, 0, 0, 0, [], 0),
  (11, .getfield 28, 7, 0, 0, [], 473),
  (14, .ishl, 0, 0, 0, [], 0),
  (15, .if_icmp .ge 45, 32, 0, 0, [], 0),
  (18, .iload 4, 0, 0, 0, [], 0),
  (20, .invokestatic 60, 62, 0, 0, [], 1119),
  (23, .iload_n 1, 0, 0, 0, [], 0),
  (24, .if_icmp .eq 6, 17, 0, 0, [], 0),
  (27, .goto 27, 30, 0, 0, [], 0),
  (30, .aload_n 0, 0, 0, 0, [], 0),
  (31, .iload 4, 0, 0, 0, [], 0),
  (33, .invokevirtual 65, 141, 0, 0, [], 1125),
  (36, .istore 5, 0, 0, 0, [], 0),
  (38, .iload_n 2, 0, 0, 0, [], 0),
  (39, .ifCond .eq 9, 26, 0, 0, [], 0),
  (42, .iload 5, 0, 0, 0, [], 0),
  (44, .iload_n 3, 0, 0, 0, [], 0),
  (45, .if_icmp .ge 9, 30, 0, 0, [], 0),
  (48, .iload 4, 0, 0, 0, [], 0),
  (50, .istore_n 2, 0, 0, 0, [], 0),
  (51, .iload 5, 0, 0, 0, [], 0),
  (53, .istore_n 3, 0, 0, 0, [], 0),
  (54, .iinc 4 1, 0, 0, nI 1, [], 0),
  (57, .goto (-50), 6, 0, 0, [], 0),
  (60, .iload_n 2, 0, 0, 0, [], 0),
  (61, .ireturn, 0, 0, 0, [], 0)]
/-- BikeTown.byHand(III)I -/
def cd185 : List Ent := [(0, .aload_n 0, 0, 0, 0, [], 0),
  (1, .getfield 35, 11, 3, 0, [], 520),
  (4, .iload_n 1, 0, 0, 0, [], 0),
  (5, .iload_n 2, 0, 0, 0, [], 0),
  (6, .iload_n 3, 0, 0, 0, [], 0),
  (7, .invokevirtual 165, 72, 0, 0, [], 619),
  (10, .ifCond .ne 6, 9, 0, 0, [], 0),
  (13, .bipush (-3), 0, 0, (-3), [], 0),
  (15, .ireturn, 0, 0, 0, [], 0),
  (16, .aload_n 0, 0, 0, 0, [], 0),
  (17, .getfield 26, 11, 2, 0, [], 519),
  (20, .getfield 140, 3, 0, 0, [], 239),
  (23, .sipush 200, 0, 0, nI 200, [], 0),
  (26, .if_icmp .lt 6, 16, 0, 0, [], 0),
  (29, .bipush (-4), 0, 0, (-4), [], 0),
  (31, .ireturn, 0, 0, 0, [], 0),
  (32, .aload_n 0, 0, 0, 0, [], 0),
  (33, .getfield 26, 11, 2, 0, [], 519),
  (36, .aload_n 0, 0, 0, 0, [], 0),
  (37, .getfield 35, 11, 3, 0, [], 520),
  (40, .getfield 121, 0, 4, 0, [], 362),
  (43, .iload_n 1, 0, 0, 0, [], 0),
  (44, .iload_n 2, 0, 0, 0, [], 0),
  (45, .iload_n 3, 0, 0, 0, [], 0),
  (46, .invokevirtual 168, 11, 0, 0, [], 624),
  (49, .aload_n 0, 0, 0, 0, [], 0),
  (50, .getfield 35, 11, 3, 0, [], 520),
  (53, .iload_n 1, 0, 0, 0, [], 0),
  (54, .iload_n 2, 0, 0, 0, [], 0),
  (55, .iload_n 3, 0, 0, 0, [], 0),
  (56, .invokevirtual 172, 129, 0, 0, [], 628),
  (59, .iconst 1, 0, 0, nI 1, [], 0),
  (60, .ireturn, 0, 0, 0, [], 0)]
/-- BikeTown.fault()I -/
def cd186 : List Ent := [(0, .aload_n 0, 0, 0, 0, [], 0),
  (1, .getfield 19, 11, 1, 0, [], 518),
  (4, .invokevirtual 182, 138, 0, 0, [], 696),
  (7, .ireturn, 0, 0, 0, [], 0)]
/-- BikeTown.rule()I -/
def cd187 : List Ent := [(0, .aload_n 0, 0, 0, 0, [], 0),
  (1, .getfield 19, 11, 1, 0, [], 518),
  (4, .invokevirtual 182, 138, 0, 0, [], 696),
  (7, .iconst (-1), 0, 0, (-1), [], 0),
  (8, .if_icmp .eq 6, 7, 0, 0, [], 0),
  (11, .bipush (-3), 0, 0, (-3), [], 0),
  (13, .ireturn, 0, 0, 0, [], 0),
  (14, .aload_n 0, 0, 0, 0, [], 0),
  (15, .getfield 19, 11, 1, 0, [], 518),
  (18, .getfield 186, 6, 2, 0, [], 195),
  (21, .bipush 10, 0, 0, nI 10, [], 0),
  (23, .if_icmp .lt 6, 14, 0, 0, [], 0),
  (26, .bipush (-4), 0, 0, (-4), [], 0),
  (28, .ireturn, 0, 0, 0, [], 0),
  (29, .aload_n 0, 0, 0, 0, [], 0),
  (30, .getfield 19, 11, 1, 0, [], 518),
  (33, .invokevirtual 187, 19, 0, 0, [], 710),
  (36, .ireturn, 0, 0, 0, [], 0)]
/-- BikeTownModel.handled(III)I -/
def cd188 : List Ent := [(0, .aload_n 0, 0, 0, 0, [], 0),
  (1, .iload_n 1, 0, 0, 0, [], 0),
  (2, .iload_n 2, 0, 0, 0, [], 0),
  (3, .iload_n 3, 0, 0, 0, [], 0),
  (4, .invokevirtual 172, 151, 0, 0, [], 1378),
  (7, .ifCond .ne 6, 8, 0, 0, [], 0),
  (10, .bipush (-3), 0, 0, (-3), [], 0),
  (12, .ireturn, 0, 0, 0, [], 0),
  (13, .aload_n 0, 0, 0, 0, [], 0),
  (14, .getfield 146, 12, 18, 0, [], 1198),
  (17, .sipush 200, 0, 0, nI 200, [], 0),
  (20, .if_icmp .ne 6, 14, 0, 0, [], 0),
  (23, .bipush (-4), 0, 0, (-4), [], 0),
  (25, .ireturn, 0, 0, 0, [], 0),
  (26, .aload_n 0, 0, 0, 0, [], 0),
  (27, .iload_n 1, 0, 0, 0, [], 0),
  (28, .iload_n 2, 0, 0, 0, [], 0),
  (29, .iload_n 3, 0, 0, 0, [], 0),
  (30, .invokevirtual 175, 152, 0, 0, [], 1382),
  (33, .iconst 1, 0, 0, nI 1, [], 0),
  (34, .ireturn, 0, 0, 0, [], 0)]
/-- BikeTownModel.isSo(II)Z -/
def cd189 : List Ent := [(0, .iconst 0, 0, 0, nI 0, [], 0),
  (1, .istore_n 3, 0, 0, 0, [], 0),
  (2, .iconst 0, 0, 0, nI 0, [], 0),
  (3, .istore 4, 0, 0, 0, [], 0),
  (5, .aload_n 0, 0, 0, 0, [], 0),
  (6, .iconst 0, 0, 0, nI 0, [], 0),
  (7, .putfield 199, 12, 41, 0, [], 1221),
  (10, .aload_n 0, 0, 0, 0, [], 0),
  (11, .iload_n 1, 0, 0, 0, [], 0),
  (12, .invokevirtual 202, 53, 0, 0, [], 1468),
  (15, .bipush 20, 0, 0, nI 20, [], 0),
  (17, .if_icmp .eq 355, 199, 0, 0, [], 0),
  (20, .aload_n 0, 0, 0, 0, [], 0),
  (21, .iload_n 1, 0, 0, 0, [], 0),
  (22, .invokevirtual 202, 53, 0, 0, [], 1468),
  (25, .istore 5, 0, 0, 0, [], 0),
  (27, .iload 5, 0, 0, 0, [], 0),
  (29, .bipush 19, 0, 0, nI 19, [], 0),
  (31, .if_icmp .eq 10, 22, 0, 0, [], 0),
  (34, .iload 5, 0, 0, 0, [], 0),
  (36, .bipush 15, 0, 0, nI 15, [], 0),
  (38, .if_icmp .ne 28, 35, 0, 0, [], 0),
  (41, .aload_n 0, 0, 0, 0, [], 0),
  (42, .getfield 105, 12, 43, 0, [], 1223),
  (45, .iload 4, 0, 0, 0, [], 0),
  (47, .iload 5, 0, 0, 0, [], 0),
  (49, .iastore, 0, 0, 0, [], 0),
  (50, .iinc 4 1, 0, 0, nI 1, [], 0),
  (53, .aload_n 0, 0, 0, 0, [], 0),
  (54, .dup, 0, 0, 0, [], 0),
  (55, .getfield 199, 12, 41, 0, [], 1221),
  (58, .iconst 1, 0, 0, nI 1, [], 0),
  (59, .iadd, 0, 0, 0, [], 0),
  (60, .putfield 199, 12, 41, 0, [], 1221),
  (63, .goto 306, 198, 0, 0, [], 0),
  (66, .iload 5, 0, 0, 0, [], 0),
  (68, .bipush 17, 0, 0, nI 17, [], 0),
  (70, .if_icmp .eq 10, 41, 0, 0, [], 0),
  (73, .iload 5, 0, 0, 0, [], 0),
  (75, .bipush 18, 0, 0, nI 18, [], 0),
  (77, .if_icmp .ne 109, 99, 0, 0, [], 0),
  (80, .iload 4, 0, 0, 0, [], 0),
  (82, .ifCond .le 79, 86, 0, 0, [], 0),
  (85, .aload_n 0, 0, 0, 0, [], 0),
  (86, .getfield 105, 12, 43, 0, [], 1223),
  (89, .iload 4, 0, 0, 0, [], 0),
  (91, .iconst 1, 0, 0, nI 1, [], 0),
  (92, .isub, 0, 0, 0, [], 0),
  (93, .iaload, 0, 0, 0, [], 0),
  (94, .bipush 17, 0, 0, nI 17, [], 0),
  (96, .if_icmp .eq 24, 62, 0, 0, [], 0),
  (99, .iload 5, 0, 0, 0, [], 0),
  (101, .bipush 18, 0, 0, nI 18, [], 0),
  (103, .if_icmp .ne 58, 86, 0, 0, [], 0),
  (106, .aload_n 0, 0, 0, 0, [], 0),
  (107, .getfield 105, 12, 43, 0, [], 1223),
  (110, .iload 4, 0, 0, 0, [], 0),
  (112, .iconst 1, 0, 0, nI 1, [], 0),
  (113, .isub, 0, 0, 0, [], 0),
  (114, .iaload, 0, 0, 0, [], 0),
  (115, .bipush 18, 0, 0, nI 18, [], 0),
  (117, .if_icmp .ne 44, 86, 0, 0, [], 0),
  (120, .iinc 4 (-1), 0, 0, (-1), [], 0),
  (123, .iinc 3 (-1), 0, 0, (-1), [], 0),
  (126, .aload_n 0, 0, 0, 0, [], 0),
  (127, .getfield 102, 12, 42, 0, [], 1222),
  (130, .iload_n 3, 0, 0, 0, [], 0),
  (131, .iconst 1, 0, 0, nI 1, [], 0),
  (132, .isub, 0, 0, 0, [], 0),
  (133, .aload_n 0, 0, 0, 0, [], 0),
  (134, .getfield 105, 12, 43, 0, [], 1223),
  (137, .iload 4, 0, 0, 0, [], 0),
  (139, .iaload, 0, 0, 0, [], 0),
  (140, .aload_n 0, 0, 0, 0, [], 0),
  (141, .getfield 102, 12, 42, 0, [], 1222),
  (144, .iload_n 3, 0, 0, 0, [], 0),
  (145, .iconst 1, 0, 0, nI 1, [], 0),
  (146, .isub, 0, 0, 0, [], 0),
  (147, .iaload, 0, 0, 0, [], 0),
  (148, .aload_n 0, 0, 0, 0, [], 0),
  (149, .getfield 102, 12, 42, 0, [], 1222),
  (152, .iload_n 3, 0, 0, 0, [], 0),
  (153, .iaload, 0, 0, 0, [], 0),
  (154, .invokestatic 208, 54, 0, 0, [], 1472),
  (157, .iastore, 0, 0, 0, [], 0),
  (158, .goto (-78), 41, 0, 0, [], 0),
  (161, .aload_n 0, 0, 0, 0, [], 0),
  (162, .getfield 105, 12, 43, 0, [], 1223),
  (165, .iload 4, 0, 0, 0, [], 0),
  (167, .iload 5, 0, 0, 0, [], 0),
  (169, .iastore, 0, 0, 0, [], 0),
  (170, .iinc 4 1, 0, 0, nI 1, [], 0),
  (173, .aload_n 0, 0, 0, 0, [], 0),
  (174, .dup, 0, 0, 0, [], 0),
  (175, .getfield 199, 12, 41, 0, [], 1221),
  (178, .iconst 1, 0, 0, nI 1, [], 0),
  (179, .iadd, 0, 0, 0, [], 0),
  (180, .putfield 199, 12, 41, 0, [], 1221),
  (183, .goto 186, 198, 0, 0, [], 0),
  (186, .iload 5, 0, 0, 0, [], 0),
  (188, .bipush 16, 0, 0, nI 16, [], 0),
  (190, .if_icmp .ne 82, 148, 0, 0, [], 0),
  (193, .aload_n 0, 0, 0, 0, [], 0),
  (194, .getfield 105, 12, 43, 0, [], 1223),
  (197, .iload 4, 0, 0, 0, [], 0),
  (199, .iconst 1, 0, 0, nI 1, [], 0),
  (200, .isub, 0, 0, 0, [], 0),
  (201, .iaload, 0, 0, 0, [], 0),
  (202, .bipush 15, 0, 0, nI 15, [], 0),
  (204, .if_icmp .eq 44, 134, 0, 0, [], 0),
  (207, .iinc 4 (-1), 0, 0, (-1), [], 0),
  (210, .iinc 3 (-1), 0, 0, (-1), [], 0),
  (213, .aload_n 0, 0, 0, 0, [], 0),
  (214, .getfield 102, 12, 42, 0, [], 1222),
  (217, .iload_n 3, 0, 0, 0, [], 0),
  (218, .iconst 1, 0, 0, nI 1, [], 0),
  (219, .isub, 0, 0, 0, [], 0),
  (220, .aload_n 0, 0, 0, 0, [], 0),
  (221, .getfield 105, 12, 43, 0, [], 1223),
  (224, .iload 4, 0, 0, 0, [], 0),
  (226, .iaload, 0, 0, 0, [], 0),
  (227, .aload_n 0, 0, 0, 0, [], 0),
  (228, .getfield 102, 12, 42, 0, [], 1222),
  (231, .iload_n 3, 0, 0, 0, [], 0),
  (232, .iconst 1, 0, 0, nI 1, [], 0),
  (233, .isub, 0, 0, 0, [], 0),
  (234, .iaload, 0, 0, 0, [], 0),
  (235, .aload_n 0, 0, 0, 0, [], 0),
  (236, .getfield 102, 12, 42, 0, [], 1222),
  (239, .iload_n 3, 0, 0, 0, [], 0),
  (240, .iaload, 0, 0, 0, [], 0),
  (241, .invokestatic 208, 54, 0, 0, [], 1472),
  (244, .iastore, 0, 0, 0, [], 0),
  (245, .goto (-52), 102, 0, 0, [], 0),
  (248, .aload_n 0, 0, 0, 0, [], 0),
  (249, .iload_n 3, 0, 0, 0, [], 0),
  (250, .iload 4, 0, 0, 0, [], 0),
  (252, .iconst 1, 0, 0, nI 1, [], 0),
  (253, .isub, 0, 0, 0, [], 0),
  (254, .invokevirtual 211, 55, 0, 0, [], 1475),
  (257, .istore 4, 0, 0, 0, [], 0),
  (259, .aload_n 0, 0, 0, 0, [], 0),
  (260, .dup, 0, 0, 0, [], 0),
  (261, .getfield 199, 12, 41, 0, [], 1221),
  (264, .iconst 1, 0, 0, nI 1, [], 0),
  (265, .iadd, 0, 0, 0, [], 0),
  (266, .putfield 199, 12, 41, 0, [], 1221),
  (269, .goto 100, 198, 0, 0, [], 0),
  (272, .aload_n 0, 0, 0, 0, [], 0),
  (273, .iload_n 1, 0, 0, 0, [], 0),
  (274, .iload_n 2, 0, 0, 0, [], 0),
  (275, .invokevirtual 214, 155, 0, 0, [], 1479),
  (278, .istore 6, 0, 0, 0, [], 0),
  (280, .aload_n 0, 0, 0, 0, [], 0),
  (281, .iload_n 1, 0, 0, 0, [], 0),
  (282, .invokevirtual 202, 53, 0, 0, [], 1468),
  (285, .istore 7, 0, 0, 0, [], 0),
  (287, .aload_n 0, 0, 0, 0, [], 0),
  (288, .dup, 0, 0, 0, [], 0),
  (289, .getfield 199, 12, 41, 0, [], 1221),
  (292, .iconst 1, 0, 0, nI 1, [], 0),
  (293, .iadd, 0, 0, 0, [], 0),
  (294, .putfield 199, 12, 41, 0, [], 1221),
  (297, .aload_n 0, 0, 0, 0, [], 0),
  (298, .iload_n 1, 0, 0, 0, [], 0),
  (299, .iload_n 2, 0, 0, 0, [], 0),
  (300, .invokevirtual 214, 155, 0, 0, [], 1479),
  (303, .istore 8, 0, 0, 0, [], 0),
  (305, .aload_n 0, 0, 0, 0, [], 0),
  (306, .getfield 102, 12, 42, 0, [], 1222),
  (309, .iload_n 3, 0, 0, 0, [], 0),
  (310, .iload 7, 0, 0, 0, [], 0),
  (312, .bipush 12, 0, 0, nI 12, [], 0),
  (314, .if_icmp .ne 13, 178, 0, 0, [], 0),
  (317, .iload 6, 0, 0, 0, [], 0),
  (319, .iload 8, 0, 0, 0, [], 0),
  (321, .if_icmp .ge 34, 190, 0, 0, [], 0),
  (324, .goto 27, 188, 0, 0, [], 0),
  (327, .iload 7, 0, 0, 0, [], 0),
  (329, .bipush 13, 0, 0, nI 13, [], 0),
  (331, .if_icmp .ne 13, 185, 0, 0, [], 0),
  (334, .iload 6, 0, 0, 0, [], 0),
  (336, .iload 8, 0, 0, 0, [], 0),
  (338, .if_icmp .ne 17, 190, 0, 0, [], 0),
  (341, .goto 10, 188, 0, 0, [], 0),
  (344, .iload 6, 0, 0, 0, [], 0),
  (346, .iload 8, 0, 0, 0, [], 0),
  (348, .if_icmp .le 7, 190, 0, 0, [], 0),
  (351, .iconst 1, 0, 0, nI 1, [], 0),
  (352, .goto 4, 191, 0, 0, [], 0),
  (355, .iconst 0, 0, 0, nI 0, [], 0),
  (356, .iastore, 0, 0, 0, [], 0),
  (357, .iinc 3 1, 0, 0, nI 1, [], 0),
  (360, .aload_n 0, 0, 0, 0, [], 0),
  (361, .iload_n 3, 0, 0, 0, [], 0),
  (362, .iload 4, 0, 0, 0, [], 0),
  (364, .invokevirtual 211, 55, 0, 0, [], 1475),
  (367, .istore 4, 0, 0, 0, [], 0),
  (369, .goto (-359), 7, 0, 0, [], 0),
  (372, .iload 4, 0, 0, 0, [], 0),
  (374, .ifCond .le 44, 225, 0, 0, [], 0),
  (377, .iinc 4 (-1), 0, 0, (-1), [], 0),
  (380, .iinc 3 (-1), 0, 0, (-1), [], 0),
  (383, .aload_n 0, 0, 0, 0, [], 0),
  (384, .getfield 102, 12, 42, 0, [], 1222),
  (387, .iload_n 3, 0, 0, 0, [], 0),
  (388, .iconst 1, 0, 0, nI 1, [], 0),
  (389, .isub, 0, 0, 0, [], 0),
  (390, .aload_n 0, 0, 0, 0, [], 0),
  (391, .getfield 105, 12, 43, 0, [], 1223),
  (394, .iload 4, 0, 0, 0, [], 0),
  (396, .iaload, 0, 0, 0, [], 0),
  (397, .aload_n 0, 0, 0, 0, [], 0),
  (398, .getfield 102, 12, 42, 0, [], 1222),
  (401, .iload_n 3, 0, 0, 0, [], 0),
  (402, .iconst 1, 0, 0, nI 1, [], 0),
  (403, .isub, 0, 0, 0, [], 0),
  (404, .iaload, 0, 0, 0, [], 0),
  (405, .aload_n 0, 0, 0, 0, [], 0),
  (406, .getfield 102, 12, 42, 0, [], 1222),
  (409, .iload_n 3, 0, 0, 0, [], 0),
  (410, .iaload, 0, 0, 0, [], 0),
  (411, .invokestatic 208, 54, 0, 0, [], 1472),
  (414, .iastore, 0, 0, 0, [], 0),
  (415, .goto (-43), 199, 0, 0, [], 0),
  (418, .aload_n 0, 0, 0, 0, [], 0),
  (419, .dup, 0, 0, 0, [], 0),
  (420, .getfield 199, 12, 41, 0, [], 1221),
  (423, .iconst 1, 0, 0, nI 1, [], 0),
  (424, .iadd, 0, 0, 0, [], 0),
  (425, .putfield 199, 12, 41, 0, [], 1221),
  (428, .aload_n 0, 0, 0, 0, [], 0),
  (429, .getfield 102, 12, 42, 0, [], 1222),
  (432, .iconst 0, 0, 0, nI 0, [], 0),
  (433, .iaload, 0, 0, 0, [], 0),
  (434, .iconst 1, 0, 0, nI 1, [], 0),
  (435, .if_icmp .ne 7, 239, 0, 0, [], 0),
  (438, .iconst 1, 0, 0, nI 1, [], 0),
  (439, .goto 4, 240, 0, 0, [], 0),
  (442, .iconst 0, 0, 0, nI 0, [], 0),
  (443, .ireturn, 0, 0, 0, [], 0)]
/-- BikeTownModel.acts(II)V -/
def cd190 : List Ent := [(0, .aload_n 0, 0, 0, 0, [], 0),
  (1, .iload_n 1, 0, 0, 0, [], 0),
  (2, .invokevirtual 202, 53, 0, 0, [], 1468),
  (5, .istore_n 3, 0, 0, 0, [], 0),
  (6, .iload_n 3, 0, 0, 0, [], 0),
  (7, .bipush 23, 0, 0, nI 23, [], 0),
  (9, .if_icmp .ne 56, 35, 0, 0, [], 0),
  (12, .aload_n 0, 0, 0, 0, [], 0),
  (13, .dup, 0, 0, 0, [], 0),
  (14, .getfield 199, 12, 41, 0, [], 1221),
  (17, .iconst 2, 0, 0, nI 2, [], 0),
  (18, .iadd, 0, 0, 0, [], 0),
  (19, .putfield 199, 12, 41, 0, [], 1221),
  (22, .aload_n 0, 0, 0, 0, [], 0),
  (23, .iload_n 1, 0, 0, 0, [], 0),
  (24, .iload_n 2, 0, 0, 0, [], 0),
  (25, .invokevirtual 214, 155, 0, 0, [], 1479),
  (28, .istore 4, 0, 0, 0, [], 0),
  (30, .aload_n 0, 0, 0, 0, [], 0),
  (31, .getfield 7, 12, 1, 0, [], 1181),
  (34, .bipush 8, 0, 0, nI 8, [], 0),
  (36, .iload_n 2, 0, 0, 0, [], 0),
  (37, .iadd, 0, 0, 0, [], 0),
  (38, .iload 4, 0, 0, 0, [], 0),
  (40, .ifCond .ge 7, 27, 0, 0, [], 0),
  (43, .iconst 0, 0, 0, nI 0, [], 0),
  (44, .goto 17, 33, 0, 0, [], 0),
  (47, .iload 4, 0, 0, 0, [], 0),
  (49, .bipush 99, 0, 0, nI 99, [], 0),
  (51, .if_icmp .le 8, 32, 0, 0, [], 0),
  (54, .bipush 99, 0, 0, nI 99, [], 0),
  (56, .goto 5, 33, 0, 0, [], 0),
  (59, .iload 4, 0, 0, 0, [], 0),
  (61, .iastore, 0, 0, 0, [], 0),
  (62, .goto 167, 122, 0, 0, [], 0),
  (65, .iload_n 3, 0, 0, 0, [], 0),
  (66, .bipush 28, 0, 0, nI 28, [], 0),
  (68, .if_icmp .eq 9, 41, 0, 0, [], 0),
  (71, .iload_n 3, 0, 0, 0, [], 0),
  (72, .bipush 29, 0, 0, nI 29, [], 0),
  (74, .if_icmp .ne 41, 62, 0, 0, [], 0),
  (77, .iload_n 3, 0, 0, 0, [], 0),
  (78, .bipush 29, 0, 0, nI 29, [], 0),
  (80, .if_icmp .ne 7, 46, 0, 0, [], 0),
  (83, .iconst 1, 0, 0, nI 1, [], 0),
  (84, .goto 4, 47, 0, 0, [], 0),
  (87, .iconst 0, 0, 0, nI 0, [], 0),
  (88, .istore 4, 0, 0, 0, [], 0),
  (90, .aload_n 0, 0, 0, 0, [], 0),
  (91, .getfield 7, 12, 1, 0, [], 1181),
  (94, .bipush 20, 0, 0, nI 20, [], 0),
  (96, .iload_n 2, 0, 0, 0, [], 0),
  (97, .iadd, 0, 0, 0, [], 0),
  (98, .iaload, 0, 0, 0, [], 0),
  (99, .iload 4, 0, 0, 0, [], 0),
  (101, .if_icmp .eq 11, 61, 0, 0, [], 0),
  (104, .aload_n 0, 0, 0, 0, [], 0),
  (105, .iconst 1, 0, 0, nI 1, [], 0),
  (106, .iload_n 2, 0, 0, 0, [], 0),
  (107, .iload 4, 0, 0, 0, [], 0),
  (109, .invokevirtual 168, 114, 0, 0, [], 1386),
  (112, .goto 117, 122, 0, 0, [], 0),
  (115, .iconst 0, 0, 0, nI 0, [], 0),
  (116, .istore 4, 0, 0, 0, [], 0),
  (118, .iload 4, 0, 0, 0, [], 0),
  (120, .aload_n 0, 0, 0, 0, [], 0),
  (121, .getfield 129, 12, 7, 0, [], 1187),
  (124, .if_icmp .ge 52, 92, 0, 0, [], 0),
  (127, .aload_n 0, 0, 0, 0, [], 0),
  (128, .getfield 7, 12, 1, 0, [], 1181),
  (131, .sipush 1232, 0, 0, nI 1232, [], 0),
  (134, .iload 4, 0, 0, 0, [], 0),
  (136, .iadd, 0, 0, 0, [], 0),
  (137, .iaload, 0, 0, 0, [], 0),
  (138, .ifCond .ne 32, 90, 0, 0, [], 0),
  (141, .aload_n 0, 0, 0, 0, [], 0),
  (142, .getfield 7, 12, 1, 0, [], 1181),
  (145, .sipush 1292, 0, 0, nI 1292, [], 0),
  (148, .iload 4, 0, 0, 0, [], 0),
  (150, .iadd, 0, 0, 0, [], 0),
  (151, .iaload, 0, 0, 0, [], 0),
  (152, .iload_n 2, 0, 0, 0, [], 0),
  (153, .if_icmp .ne 17, 90, 0, 0, [], 0),
  (156, .aload_n 0, 0, 0, 0, [], 0),
  (157, .getfield 7, 12, 1, 0, [], 1181),
  (160, .sipush 1412, 0, 0, nI 1412, [], 0),
  (163, .iload 4, 0, 0, 0, [], 0),
  (165, .iadd, 0, 0, 0, [], 0),
  (166, .iaload, 0, 0, 0, [], 0),
  (167, .ifCond .ne 9, 92, 0, 0, [], 0),
  (170, .iinc 4 1, 0, 0, nI 1, [], 0),
  (173, .goto (-55), 64, 0, 0, [], 0),
  (176, .iload 4, 0, 0, 0, [], 0),
  (178, .aload_n 0, 0, 0, 0, [], 0),
  (179, .getfield 129, 12, 7, 0, [], 1187),
  (182, .if_icmp .ge 47, 122, 0, 0, [], 0),
  (185, .aload_n 0, 0, 0, 0, [], 0),
  (186, .getfield 7, 12, 1, 0, [], 1181),
  (189, .sipush 1232, 0, 0, nI 1232, [], 0),
  (192, .iload 4, 0, 0, 0, [], 0),
  (194, .iadd, 0, 0, 0, [], 0),
  (195, .iconst 3, 0, 0, nI 3, [], 0),
  (196, .iastore, 0, 0, 0, [], 0),
  (197, .aload_n 0, 0, 0, 0, [], 0),
  (198, .getfield 7, 12, 1, 0, [], 1181),
  (201, .sipush 1472, 0, 0, nI 1472, [], 0),
  (204, .iload 4, 0, 0, 0, [], 0),
  (206, .iadd, 0, 0, 0, [], 0),
  (207, .aload_n 0, 0, 0, 0, [], 0),
  (208, .getfield 7, 12, 1, 0, [], 1181),
  (211, .iconst 0, 0, 0, nI 0, [], 0),
  (212, .iaload, 0, 0, 0, [], 0),
  (213, .aload_n 0, 0, 0, 0, [], 0),
  (214, .getfield 46, 12, 16, 0, [], 1196),
  (217, .iadd, 0, 0, 0, [], 0),
  (218, .iastore, 0, 0, 0, [], 0),
  (219, .aload_n 0, 0, 0, 0, [], 0),
  (220, .bipush 7, 0, 0, nI 7, [], 0),
  (222, .iload_n 2, 0, 0, 0, [], 0),
  (223, .iconst (-1), 0, 0, (-1), [], 0),
  (224, .iload 4, 0, 0, 0, [], 0),
  (226, .invokevirtual 164, 47, 0, 0, [], 1390),
  (229, .return_, 0, 0, 0, [], 0)]
/-- BikeTownModel.drives()V -/
def cd191 : List Ent := [(0, .aload_n 0, 0, 0, 0, [], 0),
  (1, .getfield 7, 12, 1, 0, [], 1181),
  (4, .iconst 5, 0, 0, nI 5, [], 0),
  (5, .iaload, 0, 0, 0, [], 0),
  (6, .aload_n 0, 0, 0, 0, [], 0),
  (7, .getfield 7, 12, 1, 0, [], 1181),
  (10, .iconst 0, 0, 0, nI 0, [], 0),
  (11, .iaload, 0, 0, 0, [], 0),
  (12, .if_icmp .ne 14, 16, 0, 0, [], 0),
  (15, .aload_n 0, 0, 0, 0, [], 0),
  (16, .getfield 7, 12, 1, 0, [], 1181),
  (19, .iconst 5, 0, 0, nI 5, [], 0),
  (20, .iconst (-1), 0, 0, (-1), [], 0),
  (21, .iastore, 0, 0, 0, [], 0),
  (22, .aload_n 0, 0, 0, 0, [], 0),
  (23, .invokevirtual 226, 157, 0, 0, [], 1495),
  (26, .aload_n 0, 0, 0, 0, [], 0),
  (27, .getfield 7, 12, 1, 0, [], 1181),
  (30, .iconst 5, 0, 0, nI 5, [], 0),
  (31, .iaload, 0, 0, 0, [], 0),
  (32, .iconst (-1), 0, 0, (-1), [], 0),
  (33, .if_icmp .ne 71, 59, 0, 0, [], 0),
  (36, .aload_n 0, 0, 0, 0, [], 0),
  (37, .getfield 7, 12, 1, 0, [], 1181),
  (40, .bipush 6, 0, 0, nI 6, [], 0),
  (42, .iaload, 0, 0, 0, [], 0),
  (43, .ifCond .le 61, 59, 0, 0, [], 0),
  (46, .aload_n 0, 0, 0, 0, [], 0),
  (47, .getfield 7, 12, 1, 0, [], 1181),
  (50, .sipush 3144, 0, 0, nI 3144, [], 0),
  (53, .iaload, 0, 0, 0, [], 0),
  (54, .aload_n 0, 0, 0, 0, [], 0),
  (55, .getfield 7, 12, 1, 0, [], 1181),
  (58, .iconst 2, 0, 0, nI 2, [], 0),
  (59, .iaload, 0, 0, 0, [], 0),
  (60, .if_icmp .ne 10, 39, 0, 0, [], 0),
  (63, .aload_n 0, 0, 0, 0, [], 0),
  (64, .invokevirtual 226, 157, 0, 0, [], 1495),
  (67, .goto (-41), 16, 0, 0, [], 0),
  (70, .aload_n 0, 0, 0, 0, [], 0),
  (71, .getfield 7, 12, 1, 0, [], 1181),
  (74, .iconst 5, 0, 0, nI 5, [], 0),
  (75, .aload_n 0, 0, 0, 0, [], 0),
  (76, .getfield 7, 12, 1, 0, [], 1181),
  (79, .iconst 0, 0, 0, nI 0, [], 0),
  (80, .iaload, 0, 0, 0, [], 0),
  (81, .aload_n 0, 0, 0, 0, [], 0),
  (82, .aload_n 0, 0, 0, 0, [], 0),
  (83, .getfield 7, 12, 1, 0, [], 1181),
  (86, .iconst 2, 0, 0, nI 2, [], 0),
  (87, .iaload, 0, 0, 0, [], 0),
  (88, .aload_n 0, 0, 0, 0, [], 0),
  (89, .getfield 7, 12, 1, 0, [], 1181),
  (92, .sipush 3144, 0, 0, nI 3144, [], 0),
  (95, .iaload, 0, 0, 0, [], 0),
  (96, .invokevirtual 220, 118, 0, 0, [], 1457),
  (99, .iadd, 0, 0, 0, [], 0),
  (100, .iastore, 0, 0, 0, [], 0),
  (101, .goto (-75), 16, 0, 0, [], 0),
  (104, .return_, 0, 0, 0, [], 0)]
/-- BikeTownModel.rounds()I -/
def cd192 : List Ent := [(0, .aload_n 0, 0, 0, 0, [], 0),
  (1, .iconst 0, 0, 0, nI 0, [], 0),
  (2, .putfield 255, 12, 49, 0, [], 1229),
  (5, .iconst 0, 0, 0, nI 0, [], 0),
  (6, .istore_n 1, 0, 0, 0, [], 0),
  (7, .iload_n 1, 0, 0, 0, [], 0),
  (8, .aload_n 0, 0, 0, 0, [], 0),
  (9, .getfield 139, 12, 3, 0, [], 1183),
  (12, .if_icmp .ge 50, 34, 0, 0, [], 0),
  (15, .aload_n 0, 0, 0, 0, [], 0),
  (16, .getfield 75, 12, 29, 0, [], 1209),
  (19, .iload_n 1, 0, 0, 0, [], 0),
  (20, .iaload, 0, 0, 0, [], 0),
  (21, .ifCond .eq 35, 32, 0, 0, [], 0),
  (24, .aload_n 0, 0, 0, 0, [], 0),
  (25, .getfield 255, 12, 49, 0, [], 1229),
  (28, .bipush 8, 0, 0, nI 8, [], 0),
  (30, .if_icmp .ne 6, 20, 0, 0, [], 0),
  (33, .bipush (-3), 0, 0, (-3), [], 0),
  (35, .ireturn, 0, 0, 0, [], 0),
  (36, .aload_n 0, 0, 0, 0, [], 0),
  (37, .getfield 111, 12, 45, 0, [], 1225),
  (40, .aload_n 0, 0, 0, 0, [], 0),
  (41, .getfield 255, 12, 49, 0, [], 1229),
  (44, .iload_n 1, 0, 0, 0, [], 0),
  (45, .iastore, 0, 0, 0, [], 0),
  (46, .aload_n 0, 0, 0, 0, [], 0),
  (47, .dup, 0, 0, 0, [], 0),
  (48, .getfield 255, 12, 49, 0, [], 1229),
  (51, .iconst 1, 0, 0, nI 1, [], 0),
  (52, .iadd, 0, 0, 0, [], 0),
  (53, .putfield 255, 12, 49, 0, [], 1229),
  (56, .iinc 1 1, 0, 0, nI 1, [], 0),
  (59, .goto (-52), 5, 0, 0, [], 0),
  (62, .iconst 1, 0, 0, nI 1, [], 0),
  (63, .aload_n 0, 0, 0, 0, [], 0),
  (64, .getfield 255, 12, 49, 0, [], 1229),
  (67, .ishl, 0, 0, 0, [], 0),
  (68, .iconst 1, 0, 0, nI 1, [], 0),
  (69, .isub, 0, 0, 0, [], 0),
  (70, .istore_n 1, 0, 0, 0, [], 0),
  (71, .iload_n 1, 0, 0, 0, [], 0),
  (72, .istore_n 2, 0, 0, 0, [], 0),
  (73, .iload_n 2, 0, 0, 0, [], 0),
  (74, .ifCond .lt 228, 166, 0, 0, [], 0),
  (77, .aload_n 0, 0, 0, 0, [], 0),
  (78, .getfield 7, 12, 1, 0, [], 1181),
  (81, .iconst 3, 0, 0, nI 3, [], 0),
  (82, .iaload, 0, 0, 0, [], 0),
  (83, .istore_n 3, 0, 0, 0, [], 0),
  (84, .iconst 0, 0, 0, nI 0, [], 0),
  (85, .istore 4, 0, 0, 0, [], 0),
  (87, .iload 4, 0, 0, 0, [], 0),
  (89, .aload_n 0, 0, 0, 0, [], 0),
  (90, .getfield 255, 12, 49, 0, [], 1229),
  (93, .if_icmp .ge 38, 77, 0, 0, [], 0),
  (96, .iload_n 3, 0, 0, 0, [], 0),
  (97, .iload_n 2, 0, 0, 0, [], 0),
  (98, .iload 4, 0, 0, 0, [], 0),
  (100, .ishr, 0, 0, 0, [], 0),
  (101, .iconst 1, 0, 0, nI 1, [], 0),
  (102, .iand, 0, 0, 0, [], 0),
  (103, .iconst 1, 0, 0, nI 1, [], 0),
  (104, .if_icmp .ne 18, 72, 0, 0, [], 0),
  (107, .aload_n 0, 0, 0, 0, [], 0),
  (108, .getfield 75, 12, 29, 0, [], 1209),
  (111, .aload_n 0, 0, 0, 0, [], 0),
  (112, .getfield 111, 12, 45, 0, [], 1225),
  (115, .iload 4, 0, 0, 0, [], 0),
  (117, .iaload, 0, 0, 0, [], 0),
  (118, .iaload, 0, 0, 0, [], 0),
  (119, .goto 4, 73, 0, 0, [], 0),
  (122, .iconst 0, 0, 0, nI 0, [], 0),
  (123, .iadd, 0, 0, 0, [], 0),
  (124, .istore_n 3, 0, 0, 0, [], 0),
  (125, .iinc 4 1, 0, 0, nI 1, [], 0),
  (128, .goto (-41), 52, 0, 0, [], 0),
  (131, .iconst 0, 0, 0, nI 0, [], 0),
  (132, .istore 4, 0, 0, 0, [], 0),
  (134, .iload 4, 0, 0, 0, [], 0),
  (136, .aload_n 0, 0, 0, 0, [], 0),
  (137, .getfield 255, 12, 49, 0, [], 1229),
  (140, .if_icmp .gt 156, 164, 0, 0, [], 0),
  (143, .iload 4, 0, 0, 0, [], 0),
  (145, .aload_n 0, 0, 0, 0, [], 0),
  (146, .getfield 255, 12, 49, 0, [], 1229),
  (149, .if_icmp .ne 12, 92, 0, 0, [], 0),
  (152, .aload_n 0, 0, 0, 0, [], 0),
  (153, .getfield 7, 12, 1, 0, [], 1181),
  (156, .iconst 2, 0, 0, nI 2, [], 0),
  (157, .iaload, 0, 0, 0, [], 0),
  (158, .goto 10, 96, 0, 0, [], 0),
  (161, .aload_n 0, 0, 0, 0, [], 0),
  (162, .getfield 111, 12, 45, 0, [], 1225),
  (165, .iload 4, 0, 0, 0, [], 0),
  (167, .iaload, 0, 0, 0, [], 0),
  (168, .istore 5, 0, 0, 0, [], 0),
  (170, .iload_n 2, 0, 0, 0, [], 0),
  (171, .iload_n 1, 0, 0, 0, [], 0),
  (172, .if_icmp .ne 7, 102, 0, 0, [], 0),
  (175, .iconst 0, 0, 0, nI 0, [], 0),
  (176, .goto 6, 103, 0, 0, [], 0),
  (179, .ldc_w 258, 0, 0, nI 1000000, [], 1567),
  (182, .istore 6, 0, 0, 0, [], 0),
  (184, .iconst 0, 0, 0, nI 0, [], 0),
  (185, .istore 7, 0, 0, 0, [], 0),
  (187, .iload 7, 0, 0, 0, [], 0),
  (189, .aload_n 0, 0, 0, 0, [], 0),
  (190, .getfield 255, 12, 49, 0, [], 1229),
  (193, .if_icmp .ge 67, 146, 0, 0, [], 0),
  (196, .iload_n 2, 0, 0, 0, [], 0),
  (197, .iload 7, 0, 0, 0, [], 0),
  (199, .ishr, 0, 0, 0, [], 0),
  (200, .iconst 1, 0, 0, nI 1, [], 0),
  (201, .iand, 0, 0, 0, [], 0),
  (202, .ifCond .ne 52, 144, 0, 0, [], 0),
  (205, .aload_n 0, 0, 0, 0, [], 0),
  (206, .getfield 114, 12, 46, 0, [], 1226),
  (209, .bipush 9, 0, 0, nI 9, [], 0),
  (211, .iload_n 2, 0, 0, 0, [], 0),
  (212, .iconst 1, 0, 0, nI 1, [], 0),
  (213, .iload 7, 0, 0, 0, [], 0),
  (215, .ishl, 0, 0, 0, [], 0),
  (216, .ior, 0, 0, 0, [], 0),
  (217, .imul, 0, 0, 0, [], 0),
  (218, .iload 7, 0, 0, 0, [], 0),
  (220, .iadd, 0, 0, 0, [], 0),
  (221, .iaload, 0, 0, 0, [], 0),
  (222, .aload_n 0, 0, 0, 0, [], 0),
  (223, .iload 5, 0, 0, 0, [], 0),
  (225, .aload_n 0, 0, 0, 0, [], 0),
  (226, .getfield 111, 12, 45, 0, [], 1225),
  (229, .iload 7, 0, 0, 0, [], 0),
  (231, .iaload, 0, 0, 0, [], 0),
  (232, .invokevirtual 259, 167, 0, 0, [], 1568),
  (235, .iadd, 0, 0, 0, [], 0),
  (236, .istore 8, 0, 0, 0, [], 0),
  (238, .iload 8, 0, 0, 0, [], 0),
  (240, .iload 6, 0, 0, 0, [], 0),
  (242, .if_icmp .ge 8, 142, 0, 0, [], 0),
  (245, .iload 8, 0, 0, 0, [], 0),
  (247, .goto 5, 143, 0, 0, [], 0),
  (250, .iload 6, 0, 0, 0, [], 0),
  (252, .istore 6, 0, 0, 0, [], 0),
  (254, .iinc 7 1, 0, 0, nI 1, [], 0),
  (257, .goto (-70), 106, 0, 0, [], 0),
  (260, .aload_n 0, 0, 0, 0, [], 0),
  (261, .getfield 114, 12, 46, 0, [], 1226),
  (264, .bipush 9, 0, 0, nI 9, [], 0),
  (266, .iload_n 2, 0, 0, 0, [], 0),
  (267, .imul, 0, 0, 0, [], 0),
  (268, .iload 4, 0, 0, 0, [], 0),
  (270, .iadd, 0, 0, 0, [], 0),
  (271, .iload_n 3, 0, 0, 0, [], 0),
  (272, .iconst 0, 0, 0, nI 0, [], 0),
  (273, .bipush 12, 0, 0, nI 12, [], 0),
  (275, .invokestatic 142, 45, 0, 0, [], 1335),
  (278, .ifCond .eq 8, 160, 0, 0, [], 0),
  (281, .iload 6, 0, 0, 0, [], 0),
  (283, .goto 6, 161, 0, 0, [], 0),
  (286, .ldc_w 258, 0, 0, nI 1000000, [], 1567),
  (289, .iastore, 0, 0, 0, [], 0),
  (290, .iinc 4 1, 0, 0, nI 1, [], 0),
  (293, .goto (-159), 79, 0, 0, [], 0),
  (296, .iinc 2 (-1), 0, 0, (-1), [], 0),
  (299, .goto (-226), 43, 0, 0, [], 0),
  (302, .aload_n 0, 0, 0, 0, [], 0),
  (303, .getfield 114, 12, 46, 0, [], 1226),
  (306, .aload_n 0, 0, 0, 0, [], 0),
  (307, .getfield 255, 12, 49, 0, [], 1229),
  (310, .iaload, 0, 0, 0, [], 0),
  (311, .istore_n 2, 0, 0, 0, [], 0),
  (312, .iload_n 2, 0, 0, 0, [], 0),
  (313, .ldc_w 258, 0, 0, nI 1000000, [], 1567),
  (316, .if_icmp .lt 5, 177, 0, 0, [], 0),
  (319, .iconst (-1), 0, 0, (-1), [], 0),
  (320, .ireturn, 0, 0, 0, [], 0),
  (321, .iconst 0, 0, 0, nI 0, [], 0),
  (322, .istore_n 3, 0, 0, 0, [], 0),
  (323, .aload_n 0, 0, 0, 0, [], 0),
  (324, .getfield 255, 12, 49, 0, [], 1229),
  (327, .istore 4, 0, 0, 0, [], 0),
  (329, .iconst 0, 0, 0, nI 0, [], 0),
  (330, .istore 5, 0, 0, 0, [], 0),
  (332, .iload 5, 0, 0, 0, [], 0),
  (334, .aload_n 0, 0, 0, 0, [], 0),
  (335, .getfield 255, 12, 49, 0, [], 1229),
  (338, .if_icmp .ge 126, 260, 0, 0, [], 0),
  (341, .iload 4, 0, 0, 0, [], 0),
  (343, .aload_n 0, 0, 0, 0, [], 0),
  (344, .getfield 255, 12, 49, 0, [], 1229),
  (347, .if_icmp .ne 12, 197, 0, 0, [], 0),
  (350, .aload_n 0, 0, 0, 0, [], 0),
  (351, .getfield 7, 12, 1, 0, [], 1181),
  (354, .iconst 2, 0, 0, nI 2, [], 0),
  (355, .iaload, 0, 0, 0, [], 0),
  (356, .goto 10, 201, 0, 0, [], 0),
  (359, .aload_n 0, 0, 0, 0, [], 0),
  (360, .getfield 111, 12, 45, 0, [], 1225),
  (363, .iload 4, 0, 0, 0, [], 0),
  (365, .iaload, 0, 0, 0, [], 0),
  (366, .istore 6, 0, 0, 0, [], 0),
  (368, .iconst 0, 0, 0, nI 0, [], 0),
  (369, .istore 7, 0, 0, 0, [], 0),
  (371, .iload_n 3, 0, 0, 0, [], 0),
  (372, .iload 7, 0, 0, 0, [], 0),
  (374, .ishr, 0, 0, 0, [], 0),
  (375, .iconst 1, 0, 0, nI 1, [], 0),
  (376, .iand, 0, 0, 0, [], 0),
  (377, .iconst 1, 0, 0, nI 1, [], 0),
  (378, .if_icmp .eq 49, 240, 0, 0, [], 0),
  (381, .aload_n 0, 0, 0, 0, [], 0),
  (382, .getfield 114, 12, 46, 0, [], 1226),
  (385, .bipush 9, 0, 0, nI 9, [], 0),
  (387, .iload_n 3, 0, 0, 0, [], 0),
  (388, .iconst 1, 0, 0, nI 1, [], 0),
  (389, .iload 7, 0, 0, 0, [], 0),
  (391, .ishl, 0, 0, 0, [], 0),
  (392, .ior, 0, 0, 0, [], 0),
  (393, .imul, 0, 0, 0, [], 0),
  (394, .iload 7, 0, 0, 0, [], 0),
  (396, .iadd, 0, 0, 0, [], 0),
  (397, .iaload, 0, 0, 0, [], 0),
  (398, .aload_n 0, 0, 0, 0, [], 0),
  (399, .iload 6, 0, 0, 0, [], 0),
  (401, .aload_n 0, 0, 0, 0, [], 0),
  (402, .getfield 111, 12, 45, 0, [], 1225),
  (405, .iload 7, 0, 0, 0, [], 0),
  (407, .iaload, 0, 0, 0, [], 0),
  (408, .invokevirtual 259, 167, 0, 0, [], 1568),
  (411, .iadd, 0, 0, 0, [], 0),
  (412, .aload_n 0, 0, 0, 0, [], 0),
  (413, .getfield 114, 12, 46, 0, [], 1226),
  (416, .bipush 9, 0, 0, nI 9, [], 0),
  (418, .iload_n 3, 0, 0, 0, [], 0),
  (419, .imul, 0, 0, 0, [], 0),
  (420, .iload 4, 0, 0, 0, [], 0),
  (422, .iadd, 0, 0, 0, [], 0),
  (423, .iaload, 0, 0, 0, [], 0),
  (424, .if_icmp .eq 9, 242, 0, 0, [], 0),
  (427, .iinc 7 1, 0, 0, nI 1, [], 0),
  (430, .goto (-59), 204, 0, 0, [], 0),
  (433, .aload_n 0, 0, 0, 0, [], 0),
  (434, .getfield 120, 12, 48, 0, [], 1228),
  (437, .iload 5, 0, 0, 0, [], 0),
  (439, .aload_n 0, 0, 0, 0, [], 0),
  (440, .getfield 111, 12, 45, 0, [], 1225),
  (443, .iload 7, 0, 0, 0, [], 0),
  (445, .iaload, 0, 0, 0, [], 0),
  (446, .iastore, 0, 0, 0, [], 0),
  (447, .iload_n 3, 0, 0, 0, [], 0),
  (448, .iconst 1, 0, 0, nI 1, [], 0),
  (449, .iload 7, 0, 0, 0, [], 0),
  (451, .ishl, 0, 0, 0, [], 0),
  (452, .ior, 0, 0, 0, [], 0),
  (453, .istore_n 3, 0, 0, 0, [], 0),
  (454, .iload 7, 0, 0, 0, [], 0),
  (456, .istore 4, 0, 0, 0, [], 0),
  (458, .iinc 5 1, 0, 0, nI 1, [], 0),
  (461, .goto (-129), 184, 0, 0, [], 0),
  (464, .iload_n 2, 0, 0, 0, [], 0),
  (465, .ireturn, 0, 0, 0, [], 0)]
/-- BikeTownModel.digest()J -/
def cd193 : List Ent := [(0, .ldc2_w 291, 0, 0, nI 277, [], 1640),
  (3, .lstore_n 1, 0, 0, 0, [], 0),
  (4, .iconst 0, 0, 0, nI 0, [], 0),
  (5, .istore_n 3, 0, 0, 0, [], 0),
  (6, .iload_n 3, 0, 0, 0, [], 0),
  (7, .bipush 10, 0, 0, nI 10, [], 0),
  (9, .if_icmp .ge 22, 18, 0, 0, [], 0),
  (12, .ldc2_w 293, 0, 0, nI 31, [], 1641),
  (15, .lload_n 1, 0, 0, 0, [], 0),
  (16, .lmul, 0, 0, 0, [], 0),
  (17, .aload_n 0, 0, 0, 0, [], 0),
  (18, .iload_n 3, 0, 0, 0, [], 0),
  (19, .invokevirtual 295, 61, 0, 0, [], 1642),
  (22, .i2l, 0, 0, 0, [], 0),
  (23, .ladd, 0, 0, 0, [], 0),
  (24, .lstore_n 1, 0, 0, 0, [], 0),
  (25, .iinc 3 1, 0, 0, nI 1, [], 0),
  (28, .goto (-22), 4, 0, 0, [], 0),
  (31, .iconst 0, 0, 0, nI 0, [], 0),
  (32, .istore_n 3, 0, 0, 0, [], 0),
  (33, .iload_n 3, 0, 0, 0, [], 0),
  (34, .aload_n 0, 0, 0, 0, [], 0),
  (35, .getfield 139, 12, 3, 0, [], 1183),
  (38, .if_icmp .ge 40, 43, 0, 0, [], 0),
  (41, .iconst 0, 0, 0, nI 0, [], 0),
  (42, .istore 4, 0, 0, 0, [], 0),
  (44, .iload 4, 0, 0, 0, [], 0),
  (46, .bipush 9, 0, 0, nI 9, [], 0),
  (48, .if_icmp .ge 24, 41, 0, 0, [], 0),
  (51, .ldc2_w 293, 0, 0, nI 31, [], 1641),
  (54, .lload_n 1, 0, 0, 0, [], 0),
  (55, .lmul, 0, 0, 0, [], 0),
  (56, .aload_n 0, 0, 0, 0, [], 0),
  (57, .iload_n 3, 0, 0, 0, [], 0),
  (58, .iload 4, 0, 0, 0, [], 0),
  (60, .invokevirtual 298, 161, 0, 0, [], 1643),
  (63, .i2l, 0, 0, 0, [], 0),
  (64, .ladd, 0, 0, 0, [], 0),
  (65, .lstore_n 1, 0, 0, 0, [], 0),
  (66, .iinc 4 1, 0, 0, nI 1, [], 0),
  (69, .goto (-25), 26, 0, 0, [], 0),
  (72, .iinc 3 1, 0, 0, nI 1, [], 0),
  (75, .goto (-42), 20, 0, 0, [], 0),
  (78, .iconst 0, 0, 0, nI 0, [], 0),
  (79, .istore_n 3, 0, 0, 0, [], 0),
  (80, .iload_n 3, 0, 0, 0, [], 0),
  (81, .aload_n 0, 0, 0, 0, [], 0),
  (82, .getfield 129, 12, 7, 0, [], 1187),
  (85, .if_icmp .ge 39, 68, 0, 0, [], 0),
  (88, .iconst 0, 0, 0, nI 0, [], 0),
  (89, .istore 4, 0, 0, 0, [], 0),
  (91, .iload 4, 0, 0, 0, [], 0),
  (93, .iconst 4, 0, 0, nI 4, [], 0),
  (94, .if_icmp .ge 24, 66, 0, 0, [], 0),
  (97, .ldc2_w 293, 0, 0, nI 31, [], 1641),
  (100, .lload_n 1, 0, 0, 0, [], 0),
  (101, .lmul, 0, 0, 0, [], 0),
  (102, .aload_n 0, 0, 0, 0, [], 0),
  (103, .iload_n 3, 0, 0, 0, [], 0),
  (104, .iload 4, 0, 0, 0, [], 0),
  (106, .invokevirtual 301, 160, 0, 0, [], 1644),
  (109, .i2l, 0, 0, 0, [], 0),
  (110, .ladd, 0, 0, 0, [], 0),
  (111, .lstore_n 1, 0, 0, 0, [], 0),
  (112, .iinc 4 1, 0, 0, nI 1, [], 0),
  (115, .goto (-24), 51, 0, 0, [], 0),
  (118, .iinc 3 1, 0, 0, nI 1, [], 0),
  (121, .goto (-41), 45, 0, 0, [], 0),
  (124, .iconst 0, 0, 0, nI 0, [], 0),
  (125, .istore_n 3, 0, 0, 0, [], 0),
  (126, .iload_n 3, 0, 0, 0, [], 0),
  (127, .aload_n 0, 0, 0, 0, [], 0),
  (128, .getfield 132, 12, 9, 0, [], 1189),
  (131, .if_icmp .ge 40, 93, 0, 0, [], 0),
  (134, .iconst 0, 0, 0, nI 0, [], 0),
  (135, .istore 4, 0, 0, 0, [], 0),
  (137, .iload 4, 0, 0, 0, [], 0),
  (139, .bipush 6, 0, 0, nI 6, [], 0),
  (141, .if_icmp .ge 24, 91, 0, 0, [], 0),
  (144, .ldc2_w 293, 0, 0, nI 31, [], 1641),
  (147, .lload_n 1, 0, 0, 0, [], 0),
  (148, .lmul, 0, 0, 0, [], 0),
  (149, .aload_n 0, 0, 0, 0, [], 0),
  (150, .iload_n 3, 0, 0, 0, [], 0),
  (151, .iload 4, 0, 0, 0, [], 0),
  (153, .invokevirtual 304, 120, 0, 0, [], 1645),
  (156, .i2l, 0, 0, 0, [], 0),
  (157, .ladd, 0, 0, 0, [], 0),
  (158, .lstore_n 1, 0, 0, 0, [], 0),
  (159, .iinc 4 1, 0, 0, nI 1, [], 0),
  (162, .goto (-25), 76, 0, 0, [], 0),
  (165, .iinc 3 1, 0, 0, nI 1, [], 0),
  (168, .goto (-42), 70, 0, 0, [], 0),
  (171, .iconst 0, 0, 0, nI 0, [], 0),
  (172, .istore_n 3, 0, 0, 0, [], 0),
  (173, .iload_n 3, 0, 0, 0, [], 0),
  (174, .iconst 4, 0, 0, nI 4, [], 0),
  (175, .if_icmp .ge 22, 109, 0, 0, [], 0),
  (178, .ldc2_w 293, 0, 0, nI 31, [], 1641),
  (181, .lload_n 1, 0, 0, 0, [], 0),
  (182, .lmul, 0, 0, 0, [], 0),
  (183, .aload_n 0, 0, 0, 0, [], 0),
  (184, .iload_n 3, 0, 0, 0, [], 0),
  (185, .invokevirtual 307, 58, 0, 0, [], 1646),
  (188, .i2l, 0, 0, 0, [], 0),
  (189, .ladd, 0, 0, 0, [], 0),
  (190, .lstore_n 1, 0, 0, 0, [], 0),
  (191, .iinc 3 1, 0, 0, nI 1, [], 0),
  (194, .goto (-21), 95, 0, 0, [], 0),
  (197, .iconst 0, 0, 0, nI 0, [], 0),
  (198, .istore_n 3, 0, 0, 0, [], 0),
  (199, .iload_n 3, 0, 0, 0, [], 0),
  (200, .iconst 5, 0, 0, nI 5, [], 0),
  (201, .aload_n 0, 0, 0, 0, [], 0),
  (202, .getfield 7, 12, 1, 0, [], 1181),
  (205, .bipush 7, 0, 0, nI 7, [], 0),
  (207, .iaload, 0, 0, 0, [], 0),
  (208, .imul, 0, 0, 0, [], 0),
  (209, .if_icmp .ge 27, 133, 0, 0, [], 0),
  (212, .ldc2_w 293, 0, 0, nI 31, [], 1641),
  (215, .lload_n 1, 0, 0, 0, [], 0),
  (216, .lmul, 0, 0, 0, [], 0),
  (217, .aload_n 0, 0, 0, 0, [], 0),
  (218, .getfield 7, 12, 1, 0, [], 1181),
  (221, .sipush 3184, 0, 0, nI 3184, [], 0),
  (224, .iload_n 3, 0, 0, 0, [], 0),
  (225, .iadd, 0, 0, 0, [], 0),
  (226, .iaload, 0, 0, 0, [], 0),
  (227, .i2l, 0, 0, 0, [], 0),
  (228, .ladd, 0, 0, 0, [], 0),
  (229, .lstore_n 1, 0, 0, 0, [], 0),
  (230, .iinc 3 1, 0, 0, nI 1, [], 0),
  (233, .goto (-34), 111, 0, 0, [], 0),
  (236, .aload_n 0, 0, 0, 0, [], 0),
  (237, .iconst 0, 0, 0, nI 0, [], 0),
  (238, .putfield 126, 12, 0, 0, [], 1180),
  (241, .lload_n 1, 0, 0, 0, [], 0),
  (242, .lreturn, 0, 0, 0, [], 0)]
/-- BikeTown$Day.endRides()V -/
def cd194 : List Ent := [(0, .iconst 0, 0, 0, nI 0, [], 0),
  (1, .istore_n 1, 0, 0, 0, [], 0),
  (2, .iload_n 1, 0, 0, 0, [], 0),
  (3, .aload_n 0, 0, 0, 0, [], 0),
  (4, .getfield 58, 0, 0, 0, [], 355),
  (7, .getfield 92, 8, 2, 0, [], 119),
  (10, .if_icmp .ge 39, 27, 0, 0, [], 0),
  (13, .aload_n 0, 0, 0, 0, [], 0),
  (14, .getfield 47, 0, 13, 0, [], 374),
  (17, .iconst 0, 0, 0, nI 0, [], 0),
  (18, .aaload, 0, 0, 0, [], 0),
  (19, .iload_n 1, 0, 0, 0, [], 0),
  (20, .iaload, 0, 0, 0, [], 0),
  (21, .iconst 2, 0, 0, nI 2, [], 0),
  (22, .if_icmp .ne 21, 25, 0, 0, [], 0),
  (25, .aload_n 0, 0, 0, 0, [], 0),
  (26, .getfield 50, 0, 14, 0, [], 376),
  (29, .iload_n 1, 0, 0, 0, [], 0),
  (30, .iaload, 0, 0, 0, [], 0),
  (31, .aload_n 0, 0, 0, 0, [], 0),
  (32, .getfield 75, 0, 4, 0, [], 361),
  (35, .if_icmp .ne 8, 25, 0, 0, [], 0),
  (38, .aload_n 0, 0, 0, 0, [], 0),
  (39, .iload_n 1, 0, 0, 0, [], 0),
  (40, .invokevirtual 204, 175, 0, 0, [], 738),
  (43, .iinc 1 1, 0, 0, nI 1, [], 0),
  (46, .goto (-44), 2, 0, 0, [], 0),
  (49, .return_, 0, 0, 0, [], 0)]
/-- BikeTown$Day.followRules()V -/
def cd195 : List Ent := [(0, .iconst 0, 0, 0, nI 0, [], 0),
  (1, .istore_n 1, 0, 0, 0, [], 0),
  (2, .iload_n 1, 0, 0, 0, [], 0),
  (3, .aload_n 0, 0, 0, 0, [], 0),
  (4, .getfield 58, 0, 0, 0, [], 355),
  (7, .getfield 78, 8, 0, 0, [], 113),
  (10, .if_icmp .ge 69, 41, 0, 0, [], 0),
  (13, .iconst 0, 0, 0, nI 0, [], 0),
  (14, .istore_n 2, 0, 0, 0, [], 0),
  (15, .iload_n 2, 0, 0, 0, [], 0),
  (16, .aload_n 0, 0, 0, 0, [], 0),
  (17, .getfield 62, 0, 1, 0, [], 356),
  (20, .getfield 226, 6, 2, 0, [], 196),
  (23, .if_icmp .ge 50, 39, 0, 0, [], 0),
  (26, .aload_n 0, 0, 0, 0, [], 0),
  (27, .getfield 62, 0, 1, 0, [], 356),
  (30, .getfield 227, 6, 6, 0, [], 202),
  (33, .iload_n 2, 0, 0, 0, [], 0),
  (34, .baload, 0, 0, 0, [], 0),
  (35, .iload_n 2, 0, 0, 0, [], 0),
  (36, .aload_n 0, 0, 0, 0, [], 0),
  (37, .getfield 18, 0, 5, 0, [], 363),
  (40, .if_icmp .ne 7, 25, 0, 0, [], 0),
  (43, .iconst 1, 0, 0, nI 1, [], 0),
  (44, .goto 4, 26, 0, 0, [], 0),
  (47, .iconst 0, 0, 0, nI 0, [], 0),
  (48, .if_icmp .eq 7, 29, 0, 0, [], 0),
  (51, .iconst 1, 0, 0, nI 1, [], 0),
  (52, .goto 4, 30, 0, 0, [], 0),
  (55, .iconst 0, 0, 0, nI 0, [], 0),
  (56, .istore_n 3, 0, 0, 0, [], 0),
  (57, .iload_n 3, 0, 0, 0, [], 0),
  (58, .ifCond .ne 9, 37, 0, 0, [], 0),
  (61, .aload_n 0, 0, 0, 0, [], 0),
  (62, .iload_n 2, 0, 0, 0, [], 0),
  (63, .iload_n 1, 0, 0, 0, [], 0),
  (64, .invokevirtual 230, 176, 0, 0, [], 770),
  (67, .iinc 2 1, 0, 0, nI 1, [], 0),
  (70, .goto (-55), 9, 0, 0, [], 0),
  (73, .iinc 1 1, 0, 0, nI 1, [], 0),
  (76, .goto (-74), 2, 0, 0, [], 0),
  (79, .return_, 0, 0, 0, [], 0)]
/-- BikeTown$Day.driveVan()V -/
def cd196 : List Ent := [(0, .aload_n 0, 0, 0, 0, [], 0),
  (1, .getfield 12, 0, 3, 0, [], 359),
  (4, .getfield 260, 10, 3, 0, [], 284),
  (7, .aload_n 0, 0, 0, 0, [], 0),
  (8, .getfield 75, 0, 4, 0, [], 361),
  (11, .if_icmp .le 4, 7, 0, 0, [], 0),
  (14, .return_, 0, 0, 0, [], 0),
  (15, .aload_n 0, 0, 0, 0, [], 0),
  (16, .getfield 12, 0, 3, 0, [], 359),
  (19, .getfield 260, 10, 3, 0, [], 284),
  (22, .iconst (-1), 0, 0, (-1), [], 0),
  (23, .if_icmp .eq 29, 24, 0, 0, [], 0),
  (26, .aload_n 0, 0, 0, 0, [], 0),
  (27, .getfield 12, 0, 3, 0, [], 359),
  (30, .getfield 167, 10, 2, 0, [], 281),
  (33, .ifCond .le 19, 24, 0, 0, [], 0),
  (36, .aload_n 0, 0, 0, 0, [], 0),
  (37, .getfield 12, 0, 3, 0, [], 359),
  (40, .aload_n 0, 0, 0, 0, [], 0),
  (41, .getfield 12, 0, 3, 0, [], 359),
  (44, .getfield 263, 10, 5, 0, [], 287),
  (47, .iconst 0, 0, 0, nI 0, [], 0),
  (48, .iaload, 0, 0, 0, [], 0),
  (49, .putfield 266, 10, 0, 0, [], 274),
  (52, .aload_n 0, 0, 0, 0, [], 0),
  (53, .getfield 12, 0, 3, 0, [], 359),
  (56, .iconst (-1), 0, 0, (-1), [], 0),
  (57, .putfield 260, 10, 3, 0, [], 284),
  (60, .iconst 0, 0, 0, nI 0, [], 0),
  (61, .istore_n 1, 0, 0, 0, [], 0),
  (62, .iload_n 1, 0, 0, 0, [], 0),
  (63, .bipush 20, 0, 0, nI 20, [], 0),
  (65, .if_icmp .ge 65, 61, 0, 0, [], 0),
  (68, .aload_n 0, 0, 0, 0, [], 0),
  (69, .getfield 12, 0, 3, 0, [], 359),
  (72, .getfield 167, 10, 2, 0, [], 281),
  (75, .ifCond .le 55, 61, 0, 0, [], 0),
  (78, .aload_n 0, 0, 0, 0, [], 0),
  (79, .getfield 12, 0, 3, 0, [], 359),
  (82, .getfield 263, 10, 5, 0, [], 287),
  (85, .iconst 0, 0, 0, nI 0, [], 0),
  (86, .iaload, 0, 0, 0, [], 0),
  (87, .aload_n 0, 0, 0, 0, [], 0),
  (88, .getfield 12, 0, 3, 0, [], 359),
  (91, .getfield 266, 10, 0, 0, [], 274),
  (94, .if_icmp .ne 36, 61, 0, 0, [], 0),
  (97, .aload_n 0, 0, 0, 0, [], 0),
  (98, .aload_n 0, 0, 0, 0, [], 0),
  (99, .getfield 12, 0, 3, 0, [], 359),
  (102, .getfield 266, 10, 0, 0, [], 274),
  (105, .aload_n 0, 0, 0, 0, [], 0),
  (106, .getfield 12, 0, 3, 0, [], 359),
  (109, .getfield 269, 10, 6, 0, [], 289),
  (112, .iconst 0, 0, 0, nI 0, [], 0),
  (113, .iaload, 0, 0, 0, [], 0),
  (114, .invokevirtual 272, 177, 0, 0, [], 820),
  (117, .aload_n 0, 0, 0, 0, [], 0),
  (118, .getfield 12, 0, 3, 0, [], 359),
  (121, .invokevirtual 275, 35, 0, 0, [], 844),
  (124, .iinc 1 1, 0, 0, nI 1, [], 0),
  (127, .goto (-65), 30, 0, 0, [], 0),
  (130, .aload_n 0, 0, 0, 0, [], 0),
  (131, .getfield 12, 0, 3, 0, [], 359),
  (134, .getfield 167, 10, 2, 0, [], 281),
  (137, .ifCond .le 38, 82, 0, 0, [], 0),
  (140, .aload_n 0, 0, 0, 0, [], 0),
  (141, .getfield 12, 0, 3, 0, [], 359),
  (144, .aload_n 0, 0, 0, 0, [], 0),
  (145, .getfield 75, 0, 4, 0, [], 361),
  (148, .aload_n 0, 0, 0, 0, [], 0),
  (149, .getfield 58, 0, 0, 0, [], 355),
  (152, .aload_n 0, 0, 0, 0, [], 0),
  (153, .getfield 12, 0, 3, 0, [], 359),
  (156, .getfield 266, 10, 0, 0, [], 274),
  (159, .aload_n 0, 0, 0, 0, [], 0),
  (160, .getfield 12, 0, 3, 0, [], 359),
  (163, .getfield 263, 10, 5, 0, [], 287),
  (166, .iconst 0, 0, 0, nI 0, [], 0),
  (167, .iaload, 0, 0, 0, [], 0),
  (168, .invokevirtual 219, 89, 0, 0, [], 755),
  (171, .iadd, 0, 0, 0, [], 0),
  (172, .putfield 260, 10, 3, 0, [], 284),
  (175, .return_, 0, 0, 0, [], 0)]
/-- BikeTown$Day.lookAtRiders()V -/
def cd197 : List Ent := [(0, .iconst 0, 0, 0, nI 0, [], 0),
  (1, .istore_n 1, 0, 0, 0, [], 0),
  (2, .iload_n 1, 0, 0, 0, [], 0),
  (3, .aload_n 0, 0, 0, 0, [], 0),
  (4, .getfield 58, 0, 0, 0, [], 355),
  (7, .getfield 92, 8, 2, 0, [], 119),
  (10, .if_icmp .ge 48, 32, 0, 0, [], 0),
  (13, .aload_n 0, 0, 0, 0, [], 0),
  (14, .getfield 47, 0, 13, 0, [], 374),
  (17, .iconst 0, 0, 0, nI 0, [], 0),
  (18, .aaload, 0, 0, 0, [], 0),
  (19, .iload_n 1, 0, 0, 0, [], 0),
  (20, .iaload, 0, 0, 0, [], 0),
  (21, .istore_n 2, 0, 0, 0, [], 0),
  (22, .iload_n 2, 0, 0, 0, [], 0),
  (23, .iconst 1, 0, 0, nI 1, [], 0),
  (24, .if_icmp .eq 23, 27, 0, 0, [], 0),
  (27, .iload_n 2, 0, 0, 0, [], 0),
  (28, .ifCond .ne 24, 30, 0, 0, [], 0),
  (31, .aload_n 0, 0, 0, 0, [], 0),
  (32, .getfield 58, 0, 0, 0, [], 355),
  (35, .getfield 296, 8, 9, 0, [], 137),
  (38, .iload_n 1, 0, 0, 0, [], 0),
  (39, .iaload, 0, 0, 0, [], 0),
  (40, .aload_n 0, 0, 0, 0, [], 0),
  (41, .getfield 75, 0, 4, 0, [], 361),
  (44, .if_icmp .ne 8, 30, 0, 0, [], 0),
  (47, .aload_n 0, 0, 0, 0, [], 0),
  (48, .iload_n 1, 0, 0, 0, [], 0),
  (49, .invokevirtual 297, 178, 0, 0, [], 852),
  (52, .iinc 1 1, 0, 0, nI 1, [], 0),
  (55, .goto (-53), 2, 0, 0, [], 0),
  (58, .return_, 0, 0, 0, [], 0)]
/-- BikeTown$Houses.countStill()I -/
def cd198 : List Ent := [(0, .iconst 0, 0, 0, nI 0, [], 0),
  (1, .istore_n 1, 0, 0, 0, [], 0),
  (2, .iconst 0, 0, 0, nI 0, [], 0),
  (3, .istore_n 2, 0, 0, 0, [], 0),
  (4, .iload_n 2, 0, 0, 0, [], 0),
  (5, .bipush 25, 0, 0, nI 25, [], 0),
  (7, .if_icmp .ge 25, 19, 0, 0, [], 0),
  (10, .aload_n 0, 0, 0, 0, [], 0),
  (11, .iload_n 2, 0, 0, 0, [], 0),
  (12, .iconst 5, 0, 0, nI 5, [], 0),
  (13, .idiv, 0, 0, 0, [], 0),
  (14, .iload_n 2, 0, 0, 0, [], 0),
  (15, .iconst 5, 0, 0, nI 5, [], 0),
  (16, .irem, 0, 0, 0, [], 0),
  (17, .invokevirtual 32, 179, 0, 0, [], 1056),
  (20, .ifCond .eq 6, 17, 0, 0, [], 0),
  (23, .iinc 1 1, 0, 0, nI 1, [], 0),
  (26, .iinc 2 1, 0, 0, nI 1, [], 0),
  (29, .goto (-25), 4, 0, 0, [], 0),
  (32, .iload_n 1, 0, 0, 0, [], 0),
  (33, .ireturn, 0, 0, 0, [], 0)]
/-- BikeTown$Houses.stillPair(I)I -/
def cd199 : List Ent := [(0, .iconst 0, 0, 0, nI 0, [], 0),
  (1, .istore_n 2, 0, 0, 0, [], 0),
  (2, .iconst 0, 0, 0, nI 0, [], 0),
  (3, .istore_n 3, 0, 0, 0, [], 0),
  (4, .iload_n 3, 0, 0, 0, [], 0),
  (5, .bipush 25, 0, 0, nI 25, [], 0),
  (7, .if_icmp .ge 50, 33, 0, 0, [], 0),
  (10, .iload_n 3, 0, 0, 0, [], 0),
  (11, .iconst 5, 0, 0, nI 5, [], 0),
  (12, .idiv, 0, 0, 0, [], 0),
  (13, .istore 4, 0, 0, 0, [], 0),
  (15, .iload_n 3, 0, 0, 0, [], 0),
  (16, .iconst 5, 0, 0, nI 5, [], 0),
  (17, .irem, 0, 0, 0, [], 0),
  (18, .istore 5, 0, 0, 0, [], 0),
  (20, .aload_n 0, 0, 0, 0, [], 0),
  (21, .iload 4, 0, 0, 0, [], 0),
  (23, .iload 5, 0, 0, 0, [], 0),
  (25, .invokevirtual 32, 179, 0, 0, [], 1056),
  (28, .ifCond .ne 6, 21, 0, 0, [], 0),
  (31, .goto 20, 31, 0, 0, [], 0),
  (34, .iload_n 2, 0, 0, 0, [], 0),
  (35, .iload_n 1, 0, 0, 0, [], 0),
  (36, .if_icmp .ne 12, 30, 0, 0, [], 0),
  (39, .bipush 10, 0, 0, nI 10, [], 0),
  (41, .iload 4, 0, 0, 0, [], 0),
  (43, .imul, 0, 0, 0, [], 0),
  (44, .iload 5, 0, 0, 0, [], 0),
  (46, .iadd, 0, 0, 0, [], 0),
  (47, .ireturn, 0, 0, 0, [], 0),
  (48, .iinc 2 1, 0, 0, nI 1, [], 0),
  (51, .iinc 3 1, 0, 0, nI 1, [], 0),
  (54, .goto (-50), 4, 0, 0, [], 0),
  (57, .iconst (-1), 0, 0, (-1), [], 0),
  (58, .ireturn, 0, 0, 0, [], 0)]
/-- BikeTown$Round.leastWays(LBikeTown$Told;LBikeTown$Van;)I -/
def cd200 : List Ent := [(0, .aload_n 0, 0, 0, 0, [], 0),
  (1, .invokevirtual 24, 16, 0, 0, [], 995),
  (4, .aload_n 0, 0, 0, 0, [], 0),
  (5, .getfield 27, 5, 2, 0, [], 438),
  (8, .ifCond .ne 5, 7, 0, 0, [], 0),
  (11, .iconst 0, 0, 0, nI 0, [], 0),
  (12, .ireturn, 0, 0, 0, [], 0),
  (13, .iconst 1, 0, 0, nI 1, [], 0),
  (14, .aload_n 0, 0, 0, 0, [], 0),
  (15, .getfield 27, 5, 2, 0, [], 438),
  (18, .ishl, 0, 0, 0, [], 0),
  (19, .istore_n 3, 0, 0, 0, [], 0),
  (20, .iconst 0, 0, 0, nI 0, [], 0),
  (21, .istore 4, 0, 0, 0, [], 0),
  (23, .iload 4, 0, 0, 0, [], 0),
  (25, .iload_n 3, 0, 0, 0, [], 0),
  (26, .if_icmp .ge 27, 29, 0, 0, [], 0),
  (29, .aload_n 0, 0, 0, 0, [], 0),
  (30, .getfield 18, 5, 3, 0, [], 439),
  (33, .iload 4, 0, 0, 0, [], 0),
  (35, .aload_n 2, 0, 0, 0, [], 0),
  (36, .getfield 31, 10, 1, 0, [], 276),
  (39, .aload_n 0, 0, 0, 0, [], 0),
  (40, .iload 4, 0, 0, 0, [], 0),
  (42, .invokevirtual 35, 17, 0, 0, [], 999),
  (45, .iadd, 0, 0, 0, [], 0),
  (46, .iastore, 0, 0, 0, [], 0),
  (47, .iinc 4 1, 0, 0, nI 1, [], 0),
  (50, .goto (-27), 14, 0, 0, [], 0),
  (53, .iload_n 3, 0, 0, 0, [], 0),
  (54, .iconst 1, 0, 0, nI 1, [], 0),
  (55, .isub, 0, 0, 0, [], 0),
  (56, .istore 4, 0, 0, 0, [], 0),
  (58, .iload 4, 0, 0, 0, [], 0),
  (60, .ifCond .le 51, 59, 0, 0, [], 0),
  (63, .iconst 0, 0, 0, nI 0, [], 0),
  (64, .istore 5, 0, 0, 0, [], 0),
  (66, .iload 5, 0, 0, 0, [], 0),
  (68, .aload_n 0, 0, 0, 0, [], 0),
  (69, .getfield 27, 5, 2, 0, [], 438),
  (72, .if_icmp .ge 33, 57, 0, 0, [], 0),
  (75, .aload_n 0, 0, 0, 0, [], 0),
  (76, .getfield 21, 5, 4, 0, [], 440),
  (79, .iload 4, 0, 0, 0, [], 0),
  (81, .iload 5, 0, 0, 0, [], 0),
  (83, .invokestatic 39, 14, 0, 0, [], 1003),
  (86, .aload_n 0, 0, 0, 0, [], 0),
  (87, .aload_n 1, 0, 0, 0, [], 0),
  (88, .iload 4, 0, 0, 0, [], 0),
  (90, .iload 5, 0, 0, 0, [], 0),
  (92, .iload_n 3, 0, 0, 0, [], 0),
  (93, .iconst 1, 0, 0, nI 1, [], 0),
  (94, .isub, 0, 0, 0, [], 0),
  (95, .invokevirtual 43, 181, 0, 0, [], 1006),
  (98, .iastore, 0, 0, 0, [], 0),
  (99, .iinc 5 1, 0, 0, nI 1, [], 0),
  (102, .goto (-36), 37, 0, 0, [], 0),
  (105, .iinc 4 (-1), 0, 0, (-1), [], 0),
  (108, .goto (-50), 33, 0, 0, [], 0),
  (111, .aload_n 0, 0, 0, 0, [], 0),
  (112, .aload_n 1, 0, 0, 0, [], 0),
  (113, .aload_n 2, 0, 0, 0, [], 0),
  (114, .invokevirtual 47, 182, 0, 0, [], 1017),
  (117, .istore 4, 0, 0, 0, [], 0),
  (119, .iload 4, 0, 0, 0, [], 0),
  (121, .iconst (-1), 0, 0, (-1), [], 0),
  (122, .if_icmp .ne 7, 69, 0, 0, [], 0),
  (125, .iconst (-1), 0, 0, (-1), [], 0),
  (126, .goto 11, 74, 0, 0, [], 0),
  (129, .aload_n 0, 0, 0, 0, [], 0),
  (130, .aload_n 1, 0, 0, 0, [], 0),
  (131, .aload_n 2, 0, 0, 0, [], 0),
  (132, .iload 4, 0, 0, 0, [], 0),
  (134, .invokevirtual 51, 137, 0, 0, [], 1021),
  (137, .ireturn, 0, 0, 0, [], 0)]
/-- BikeTown$Round.postOfOrder(LBikeTown$Told;LBikeTown$Van;I)I -/
def cd201 : List Ent := [(0, .iload_n 3, 0, 0, 0, [], 0),
  (1, .ifCond .lt 11, 6, 0, 0, [], 0),
  (4, .iload_n 3, 0, 0, 0, [], 0),
  (5, .aload_n 0, 0, 0, 0, [], 0),
  (6, .getfield 27, 5, 2, 0, [], 438),
  (9, .if_icmp .lt 5, 8, 0, 0, [], 0),
  (12, .iconst (-1), 0, 0, (-1), [], 0),
  (13, .ireturn, 0, 0, 0, [], 0),
  (14, .aload_n 0, 0, 0, 0, [], 0),
  (15, .aload_n 1, 0, 0, 0, [], 0),
  (16, .aload_n 2, 0, 0, 0, [], 0),
  (17, .invokevirtual 47, 182, 0, 0, [], 1017),
  (20, .istore 4, 0, 0, 0, [], 0),
  (22, .iload 4, 0, 0, 0, [], 0),
  (24, .iconst (-1), 0, 0, (-1), [], 0),
  (25, .if_icmp .ne 5, 18, 0, 0, [], 0),
  (28, .iconst (-1), 0, 0, (-1), [], 0),
  (29, .ireturn, 0, 0, 0, [], 0),
  (30, .iconst 1, 0, 0, nI 1, [], 0),
  (31, .iload 4, 0, 0, 0, [], 0),
  (33, .ishl, 0, 0, 0, [], 0),
  (34, .istore 5, 0, 0, 0, [], 0),
  (36, .iconst 0, 0, 0, nI 0, [], 0),
  (37, .istore 6, 0, 0, 0, [], 0),
  (39, .iload 6, 0, 0, 0, [], 0),
  (41, .iload_n 3, 0, 0, 0, [], 0),
  (42, .if_icmp .ge 41, 48, 0, 0, [], 0),
  (45, .aload_n 0, 0, 0, 0, [], 0),
  (46, .aload_n 1, 0, 0, 0, [], 0),
  (47, .iload 5, 0, 0, 0, [], 0),
  (49, .iload 4, 0, 0, 0, [], 0),
  (51, .invokevirtual 72, 183, 0, 0, [], 1033),
  (54, .istore 7, 0, 0, 0, [], 0),
  (56, .iload 7, 0, 0, 0, [], 0),
  (58, .iconst (-1), 0, 0, (-1), [], 0),
  (59, .if_icmp .ne 5, 38, 0, 0, [], 0),
  (62, .iconst (-1), 0, 0, (-1), [], 0),
  (63, .ireturn, 0, 0, 0, [], 0),
  (64, .iload 7, 0, 0, 0, [], 0),
  (66, .istore 4, 0, 0, 0, [], 0),
  (68, .iload 5, 0, 0, 0, [], 0),
  (70, .iconst 1, 0, 0, nI 1, [], 0),
  (71, .iload 7, 0, 0, 0, [], 0),
  (73, .ishl, 0, 0, 0, [], 0),
  (74, .ior, 0, 0, 0, [], 0),
  (75, .istore 5, 0, 0, 0, [], 0),
  (77, .iinc 6 1, 0, 0, nI 1, [], 0),
  (80, .goto (-41), 24, 0, 0, [], 0),
  (83, .aload_n 0, 0, 0, 0, [], 0),
  (84, .getfield 15, 5, 1, 0, [], 437),
  (87, .iload 4, 0, 0, 0, [], 0),
  (89, .iaload, 0, 0, 0, [], 0),
  (90, .ireturn, 0, 0, 0, [], 0)]
/-- BikeTown.price(II)I -/
def cd202 : List Ent := [(0, .aload_n 0, 0, 0, 0, [], 0),
  (1, .getfield 13, 11, 0, 0, [], 517),
  (4, .iload_n 1, 0, 0, 0, [], 0),
  (5, .invokevirtual 97, 25, 0, 0, [], 571),
  (8, .ifCond .eq 13, 10, 0, 0, [], 0),
  (11, .iload_n 2, 0, 0, 0, [], 0),
  (12, .iconst 0, 0, 0, nI 0, [], 0),
  (13, .bipush 99, 0, 0, nI 99, [], 0),
  (15, .invokestatic 77, 39, 0, 0, [], 552),
  (18, .ifCond .ne 6, 12, 0, 0, [], 0),
  (21, .bipush (-2), 0, 0, (-2), [], 0),
  (23, .ireturn, 0, 0, 0, [], 0),
  (24, .aload_n 0, 0, 0, 0, [], 0),
  (25, .getfield 35, 11, 3, 0, [], 520),
  (28, .getfield 143, 0, 6, 0, [], 365),
  (31, .iload_n 1, 0, 0, 0, [], 0),
  (32, .iaload, 0, 0, 0, [], 0),
  (33, .istore_n 3, 0, 0, 0, [], 0),
  (34, .aload_n 0, 0, 0, 0, [], 0),
  (35, .iconst 0, 0, 0, nI 0, [], 0),
  (36, .iload_n 1, 0, 0, 0, [], 0),
  (37, .iload_n 2, 0, 0, 0, [], 0),
  (38, .invokevirtual 146, 185, 0, 0, [], 615),
  (41, .istore 4, 0, 0, 0, [], 0),
  (43, .iload 4, 0, 0, 0, [], 0),
  (45, .iconst 1, 0, 0, nI 1, [], 0),
  (46, .if_icmp .ne 7, 29, 0, 0, [], 0),
  (49, .iload_n 3, 0, 0, 0, [], 0),
  (50, .goto 5, 30, 0, 0, [], 0),
  (53, .iload 4, 0, 0, 0, [], 0),
  (55, .ireturn, 0, 0, 0, [], 0)]
/-- BikeTown.open(IZ)I -/
def cd203 : List Ent := [(0, .aload_n 0, 0, 0, 0, [], 0),
  (1, .getfield 13, 11, 0, 0, [], 517),
  (4, .iload_n 1, 0, 0, 0, [], 0),
  (5, .invokevirtual 97, 25, 0, 0, [], 571),
  (8, .ifCond .eq 16, 12, 0, 0, [], 0),
  (11, .aload_n 0, 0, 0, 0, [], 0),
  (12, .iconst 1, 0, 0, nI 1, [], 0),
  (13, .iload_n 1, 0, 0, 0, [], 0),
  (14, .iload_n 2, 0, 0, 0, [], 0),
  (15, .invokestatic 149, 40, 0, 0, [], 661),
  (18, .invokevirtual 146, 185, 0, 0, [], 615),
  (21, .goto 5, 13, 0, 0, [], 0),
  (24, .bipush (-2), 0, 0, (-2), [], 0),
  (26, .ireturn, 0, 0, 0, [], 0)]
/-- BikeTown.faulty(I)I -/
def cd204 : List Ent := [(0, .aload_n 0, 0, 0, 0, [], 0),
  (1, .getfield 13, 11, 0, 0, [], 517),
  (4, .iload_n 1, 0, 0, 0, [], 0),
  (5, .invokevirtual 153, 26, 0, 0, [], 668),
  (8, .ifCond .eq 13, 11, 0, 0, [], 0),
  (11, .aload_n 0, 0, 0, 0, [], 0),
  (12, .iconst 2, 0, 0, nI 2, [], 0),
  (13, .iload_n 1, 0, 0, 0, [], 0),
  (14, .iconst 0, 0, 0, nI 0, [], 0),
  (15, .invokevirtual 146, 185, 0, 0, [], 615),
  (18, .goto 5, 12, 0, 0, [], 0),
  (21, .bipush (-2), 0, 0, (-2), [], 0),
  (23, .ireturn, 0, 0, 0, [], 0)]
/-- BikeTown.steal(I)I -/
def cd205 : List Ent := [(0, .aload_n 0, 0, 0, 0, [], 0),
  (1, .getfield 13, 11, 0, 0, [], 517),
  (4, .iload_n 1, 0, 0, 0, [], 0),
  (5, .invokevirtual 153, 26, 0, 0, [], 668),
  (8, .ifCond .eq 13, 11, 0, 0, [], 0),
  (11, .aload_n 0, 0, 0, 0, [], 0),
  (12, .iconst 3, 0, 0, nI 3, [], 0),
  (13, .iload_n 1, 0, 0, 0, [], 0),
  (14, .iconst 0, 0, 0, nI 0, [], 0),
  (15, .invokevirtual 146, 185, 0, 0, [], 615),
  (18, .goto 5, 12, 0, 0, [], 0),
  (21, .bipush (-2), 0, 0, (-2), [], 0),
  (23, .ireturn, 0, 0, 0, [], 0)]
/-- BikeTown.find(II)I -/
def cd206 : List Ent := [(0, .aload_n 0, 0, 0, 0, [], 0),
  (1, .getfield 13, 11, 0, 0, [], 517),
  (4, .iload_n 1, 0, 0, 0, [], 0),
  (5, .invokevirtual 153, 26, 0, 0, [], 668),
  (8, .ifCond .eq 24, 16, 0, 0, [], 0),
  (11, .aload_n 0, 0, 0, 0, [], 0),
  (12, .getfield 13, 11, 0, 0, [], 517),
  (15, .iload_n 2, 0, 0, 0, [], 0),
  (16, .invokevirtual 97, 25, 0, 0, [], 571),
  (19, .ifCond .eq 13, 16, 0, 0, [], 0),
  (22, .aload_n 0, 0, 0, 0, [], 0),
  (23, .iconst 4, 0, 0, nI 4, [], 0),
  (24, .iload_n 1, 0, 0, 0, [], 0),
  (25, .iload_n 2, 0, 0, 0, [], 0),
  (26, .invokevirtual 146, 185, 0, 0, [], 615),
  (29, .goto 5, 17, 0, 0, [], 0),
  (32, .bipush (-2), 0, 0, (-2), [], 0),
  (34, .ireturn, 0, 0, 0, [], 0)]
/-- BikeTown.stop(II)I -/
def cd207 : List Ent := [(0, .aload_n 0, 0, 0, 0, [], 0),
  (1, .getfield 13, 11, 0, 0, [], 517),
  (4, .iload_n 1, 0, 0, 0, [], 0),
  (5, .invokevirtual 97, 25, 0, 0, [], 571),
  (8, .ifCond .eq 14, 10, 0, 0, [], 0),
  (11, .iload_n 2, 0, 0, 0, [], 0),
  (12, .bipush (-12), 0, 0, (-12), [], 0),
  (14, .bipush 12, 0, 0, nI 12, [], 0),
  (16, .invokestatic 77, 39, 0, 0, [], 552),
  (19, .ifCond .ne 6, 12, 0, 0, [], 0),
  (22, .bipush (-2), 0, 0, (-2), [], 0),
  (24, .ireturn, 0, 0, 0, [], 0),
  (25, .aload_n 0, 0, 0, 0, [], 0),
  (26, .getfield 35, 11, 3, 0, [], 520),
  (29, .getfield 156, 0, 3, 0, [], 360),
  (32, .getfield 160, 10, 2, 0, [], 280),
  (35, .bipush 20, 0, 0, nI 20, [], 0),
  (37, .if_icmp .lt 6, 20, 0, 0, [], 0),
  (40, .bipush (-4), 0, 0, (-4), [], 0),
  (42, .ireturn, 0, 0, 0, [], 0),
  (43, .aload_n 0, 0, 0, 0, [], 0),
  (44, .iconst 5, 0, 0, nI 5, [], 0),
  (45, .iload_n 1, 0, 0, 0, [], 0),
  (46, .iload_n 2, 0, 0, 0, [], 0),
  (47, .invokevirtual 146, 185, 0, 0, [], 615),
  (50, .istore_n 3, 0, 0, 0, [], 0),
  (51, .iload_n 3, 0, 0, 0, [], 0),
  (52, .iconst 1, 0, 0, nI 1, [], 0),
  (53, .if_icmp .ne 16, 34, 0, 0, [], 0),
  (56, .aload_n 0, 0, 0, 0, [], 0),
  (57, .getfield 35, 11, 3, 0, [], 520),
  (60, .getfield 156, 0, 3, 0, [], 360),
  (63, .getfield 160, 10, 2, 0, [], 280),
  (66, .goto 4, 35, 0, 0, [], 0),
  (69, .iload_n 3, 0, 0, 0, [], 0),
  (70, .ireturn, 0, 0, 0, [], 0)]
/-- BikeTown.endDay(I)I -/
def cd208 : List Ent := [(0, .iload_n 1, 0, 0, 0, [], 0),
  (1, .iconst 0, 0, 0, nI 0, [], 0),
  (2, .bipush 6, 0, 0, nI 6, [], 0),
  (4, .invokestatic 77, 39, 0, 0, [], 552),
  (7, .ifCond .ne 6, 7, 0, 0, [], 0),
  (10, .bipush (-2), 0, 0, (-2), [], 0),
  (12, .ireturn, 0, 0, 0, [], 0),
  (13, .aload_n 0, 0, 0, 0, [], 0),
  (14, .getfield 35, 11, 3, 0, [], 520),
  (17, .getfield 121, 0, 4, 0, [], 362),
  (20, .ifCond .ne 6, 13, 0, 0, [], 0),
  (23, .bipush (-3), 0, 0, (-3), [], 0),
  (25, .ireturn, 0, 0, 0, [], 0),
  (26, .aload_n 0, 0, 0, 0, [], 0),
  (27, .getfield 45, 11, 5, 0, [], 522),
  (30, .getfield 203, 1, 0, 0, [], 419),
  (33, .bipush 20, 0, 0, nI 20, [], 0),
  (35, .if_icmp .lt 6, 20, 0, 0, [], 0),
  (38, .bipush (-4), 0, 0, (-4), [], 0),
  (40, .ireturn, 0, 0, 0, [], 0),
  (41, .aload_n 0, 0, 0, 0, [], 0),
  (42, .getfield 45, 11, 5, 0, [], 522),
  (45, .iload_n 1, 0, 0, 0, [], 0),
  (46, .aload_n 0, 0, 0, 0, [], 0),
  (47, .getfield 35, 11, 3, 0, [], 520),
  (50, .getfield 204, 0, 2, 0, [], 358),
  (53, .invokevirtual 208, 6, 0, 0, [], 876),
  (56, .aload_n 0, 0, 0, 0, [], 0),
  (57, .getfield 26, 11, 2, 0, [], 519),
  (60, .iconst 0, 0, 0, nI 0, [], 0),
  (61, .putfield 140, 3, 0, 0, [], 239),
  (64, .aload_n 0, 0, 0, 0, [], 0),
  (65, .getfield 35, 11, 3, 0, [], 520),
  (68, .iconst (-1), 0, 0, (-1), [], 0),
  (69, .invokevirtual 212, 173, 0, 0, [], 880),
  (72, .aload_n 0, 0, 0, 0, [], 0),
  (73, .getfield 45, 11, 5, 0, [], 522),
  (76, .getfield 203, 1, 0, 0, [], 419),
  (79, .ireturn, 0, 0, 0, [], 0)]
/-- BikeTown.answers(II)I -/
def cd209 : List Ent := [(0, .iload_n 1, 0, 0, 0, [], 0),
  (1, .invokestatic 301, 12, 0, 0, [], 1041),
  (4, .ifCond .eq 22, 12, 0, 0, [], 0),
  (7, .iload_n 2, 0, 0, 0, [], 0),
  (8, .invokestatic 301, 12, 0, 0, [], 1041),
  (11, .ifCond .eq 15, 12, 0, 0, [], 0),
  (14, .aload_n 0, 0, 0, 0, [], 0),
  (15, .getfield 59, 11, 7, 0, [], 524),
  (18, .iload_n 1, 0, 0, 0, [], 0),
  (19, .iload_n 2, 0, 0, 0, [], 0),
  (20, .invokevirtual 317, 180, 0, 0, [], 1081),
  (23, .goto 5, 13, 0, 0, [], 0),
  (26, .bipush (-2), 0, 0, (-2), [], 0),
  (28, .ireturn, 0, 0, 0, [], 0)]
/-- BikeTown.sites(II)I -/
def cd210 : List Ent := [(0, .iload_n 1, 0, 0, 0, [], 0),
  (1, .iconst 1, 0, 0, nI 1, [], 0),
  (2, .iconst 4, 0, 0, nI 4, [], 0),
  (3, .aload_n 0, 0, 0, 0, [], 0),
  (4, .getfield 66, 11, 8, 0, [], 525),
  (7, .getfield 320, 7, 0, 0, [], 474),
  (10, .invokestatic 194, 0, 3, 0, [], 722),
  (13, .invokestatic 77, 39, 0, 0, [], 552),
  (16, .ifCond .eq 12, 14, 0, 0, [], 0),
  (19, .iload_n 2, 0, 0, 0, [], 0),
  (20, .iconst 0, 0, 0, nI 0, [], 0),
  (21, .iconst 1, 0, 0, nI 1, [], 0),
  (22, .invokestatic 77, 39, 0, 0, [], 552),
  (25, .ifCond .ne 6, 16, 0, 0, [], 0),
  (28, .bipush (-2), 0, 0, (-2), [], 0),
  (30, .ireturn, 0, 0, 0, [], 0),
  (31, .aload_n 0, 0, 0, 0, [], 0),
  (32, .getfield 66, 11, 8, 0, [], 525),
  (35, .aload_n 0, 0, 0, 0, [], 0),
  (36, .getfield 13, 11, 0, 0, [], 517),
  (39, .aload_n 0, 0, 0, 0, [], 0),
  (40, .getfield 35, 11, 3, 0, [], 520),
  (43, .getfield 330, 0, 7, 0, [], 367),
  (46, .invokevirtual 333, 140, 0, 0, [], 1105),
  (49, .aload_n 0, 0, 0, 0, [], 0),
  (50, .getfield 66, 11, 8, 0, [], 525),
  (53, .iload_n 1, 0, 0, 0, [], 0),
  (54, .invokevirtual 337, 184, 0, 0, [], 1115),
  (57, .istore_n 3, 0, 0, 0, [], 0),
  (58, .iload_n 2, 0, 0, 0, [], 0),
  (59, .ifCond .ne 7, 33, 0, 0, [], 0),
  (62, .iload_n 3, 0, 0, 0, [], 0),
  (63, .goto 11, 37, 0, 0, [], 0),
  (66, .aload_n 0, 0, 0, 0, [], 0),
  (67, .getfield 66, 11, 8, 0, [], 525),
  (70, .iload_n 3, 0, 0, 0, [], 0),
  (71, .invokevirtual 340, 141, 0, 0, [], 1129),
  (74, .ireturn, 0, 0, 0, [], 0)]
/-- BikeTownModel.price(II)I -/
def cd211 : List Ent := [(0, .aload_n 0, 0, 0, 0, [], 0),
  (1, .iconst 0, 0, 0, nI 0, [], 0),
  (2, .putfield 126, 12, 0, 0, [], 1180),
  (5, .aload_n 0, 0, 0, 0, [], 0),
  (6, .iload_n 1, 0, 0, 0, [], 0),
  (7, .invokevirtual 157, 108, 0, 0, [], 1346),
  (10, .ifCond .eq 13, 12, 0, 0, [], 0),
  (13, .iload_n 2, 0, 0, 0, [], 0),
  (14, .iconst 0, 0, 0, nI 0, [], 0),
  (15, .bipush 99, 0, 0, nI 99, [], 0),
  (17, .invokestatic 142, 45, 0, 0, [], 1335),
  (20, .ifCond .ne 6, 14, 0, 0, [], 0),
  (23, .bipush (-2), 0, 0, (-2), [], 0),
  (25, .ireturn, 0, 0, 0, [], 0),
  (26, .aload_n 0, 0, 0, 0, [], 0),
  (27, .getfield 7, 12, 1, 0, [], 1181),
  (30, .bipush 8, 0, 0, nI 8, [], 0),
  (32, .iload_n 1, 0, 0, 0, [], 0),
  (33, .iadd, 0, 0, 0, [], 0),
  (34, .iaload, 0, 0, 0, [], 0),
  (35, .istore_n 3, 0, 0, 0, [], 0),
  (36, .aload_n 0, 0, 0, 0, [], 0),
  (37, .iconst 0, 0, 0, nI 0, [], 0),
  (38, .iload_n 1, 0, 0, 0, [], 0),
  (39, .iload_n 2, 0, 0, 0, [], 0),
  (40, .invokevirtual 178, 188, 0, 0, [], 1374),
  (43, .istore 4, 0, 0, 0, [], 0),
  (45, .iload 4, 0, 0, 0, [], 0),
  (47, .iconst 1, 0, 0, nI 1, [], 0),
  (48, .if_icmp .ne 7, 32, 0, 0, [], 0),
  (51, .iload_n 3, 0, 0, 0, [], 0),
  (52, .goto 5, 33, 0, 0, [], 0),
  (55, .iload 4, 0, 0, 0, [], 0),
  (57, .ireturn, 0, 0, 0, [], 0)]
/-- BikeTownModel.open(IZ)I -/
def cd212 : List Ent := [(0, .aload_n 0, 0, 0, 0, [], 0),
  (1, .iconst 0, 0, 0, nI 0, [], 0),
  (2, .putfield 126, 12, 0, 0, [], 1180),
  (5, .aload_n 0, 0, 0, 0, [], 0),
  (6, .iload_n 1, 0, 0, 0, [], 0),
  (7, .invokevirtual 157, 108, 0, 0, [], 1346),
  (10, .ifCond .eq 21, 17, 0, 0, [], 0),
  (13, .aload_n 0, 0, 0, 0, [], 0),
  (14, .iconst 1, 0, 0, nI 1, [], 0),
  (15, .iload_n 1, 0, 0, 0, [], 0),
  (16, .iload_n 2, 0, 0, 0, [], 0),
  (17, .ifCond .eq 7, 14, 0, 0, [], 0),
  (20, .iconst 1, 0, 0, nI 1, [], 0),
  (21, .goto 4, 15, 0, 0, [], 0),
  (24, .iconst 0, 0, 0, nI 0, [], 0),
  (25, .invokevirtual 178, 188, 0, 0, [], 1374),
  (28, .goto 5, 18, 0, 0, [], 0),
  (31, .bipush (-2), 0, 0, (-2), [], 0),
  (33, .ireturn, 0, 0, 0, [], 0)]
/-- BikeTownModel.faulty(I)I -/
def cd213 : List Ent := [(0, .aload_n 0, 0, 0, 0, [], 0),
  (1, .iconst 0, 0, 0, nI 0, [], 0),
  (2, .putfield 126, 12, 0, 0, [], 1180),
  (5, .aload_n 0, 0, 0, 0, [], 0),
  (6, .iload_n 1, 0, 0, 0, [], 0),
  (7, .invokevirtual 182, 109, 0, 0, [], 1402),
  (10, .ifCond .eq 13, 13, 0, 0, [], 0),
  (13, .aload_n 0, 0, 0, 0, [], 0),
  (14, .iconst 2, 0, 0, nI 2, [], 0),
  (15, .iload_n 1, 0, 0, 0, [], 0),
  (16, .iconst 0, 0, 0, nI 0, [], 0),
  (17, .invokevirtual 178, 188, 0, 0, [], 1374),
  (20, .goto 5, 14, 0, 0, [], 0),
  (23, .bipush (-2), 0, 0, (-2), [], 0),
  (25, .ireturn, 0, 0, 0, [], 0)]
/-- BikeTownModel.steal(I)I -/
def cd214 : List Ent := [(0, .aload_n 0, 0, 0, 0, [], 0),
  (1, .iconst 0, 0, 0, nI 0, [], 0),
  (2, .putfield 126, 12, 0, 0, [], 1180),
  (5, .aload_n 0, 0, 0, 0, [], 0),
  (6, .iload_n 1, 0, 0, 0, [], 0),
  (7, .invokevirtual 182, 109, 0, 0, [], 1402),
  (10, .ifCond .eq 13, 13, 0, 0, [], 0),
  (13, .aload_n 0, 0, 0, 0, [], 0),
  (14, .iconst 3, 0, 0, nI 3, [], 0),
  (15, .iload_n 1, 0, 0, 0, [], 0),
  (16, .iconst 0, 0, 0, nI 0, [], 0),
  (17, .invokevirtual 178, 188, 0, 0, [], 1374),
  (20, .goto 5, 14, 0, 0, [], 0),
  (23, .bipush (-2), 0, 0, (-2), [], 0),
  (25, .ireturn, 0, 0, 0, [], 0)]
/-- BikeTownModel.find(II)I -/
def cd215 : List Ent := [(0, .aload_n 0, 0, 0, 0, [], 0),
  (1, .iconst 0, 0, 0, nI 0, [], 0),
  (2, .putfield 126, 12, 0, 0, [], 1180),
  (5, .aload_n 0, 0, 0, 0, [], 0),
  (6, .iload_n 1, 0, 0, 0, [], 0),
  (7, .invokevirtual 182, 109, 0, 0, [], 1402),
  (10, .ifCond .eq 21, 17, 0, 0, [], 0),
  (13, .aload_n 0, 0, 0, 0, [], 0),
  (14, .iload_n 2, 0, 0, 0, [], 0),
  (15, .invokevirtual 157, 108, 0, 0, [], 1346),
  (18, .ifCond .eq 13, 17, 0, 0, [], 0),
  (21, .aload_n 0, 0, 0, 0, [], 0),
  (22, .iconst 4, 0, 0, nI 4, [], 0),
  (23, .iload_n 1, 0, 0, 0, [], 0),
  (24, .iload_n 2, 0, 0, 0, [], 0),
  (25, .invokevirtual 178, 188, 0, 0, [], 1374),
  (28, .goto 5, 18, 0, 0, [], 0),
  (31, .bipush (-2), 0, 0, (-2), [], 0),
  (33, .ireturn, 0, 0, 0, [], 0)]
/-- BikeTownModel.stop(II)I -/
def cd216 : List Ent := [(0, .aload_n 0, 0, 0, 0, [], 0),
  (1, .iconst 0, 0, 0, nI 0, [], 0),
  (2, .putfield 126, 12, 0, 0, [], 1180),
  (5, .aload_n 0, 0, 0, 0, [], 0),
  (6, .iload_n 1, 0, 0, 0, [], 0),
  (7, .invokevirtual 157, 108, 0, 0, [], 1346),
  (10, .ifCond .eq 14, 12, 0, 0, [], 0),
  (13, .iload_n 2, 0, 0, 0, [], 0),
  (14, .bipush (-12), 0, 0, (-12), [], 0),
  (16, .bipush 12, 0, 0, nI 12, [], 0),
  (18, .invokestatic 142, 45, 0, 0, [], 1335),
  (21, .ifCond .ne 6, 14, 0, 0, [], 0),
  (24, .bipush (-2), 0, 0, (-2), [], 0),
  (26, .ireturn, 0, 0, 0, [], 0),
  (27, .aload_n 0, 0, 0, 0, [], 0),
  (28, .iconst 5, 0, 0, nI 5, [], 0),
  (29, .iload_n 1, 0, 0, 0, [], 0),
  (30, .iload_n 2, 0, 0, 0, [], 0),
  (31, .invokevirtual 178, 188, 0, 0, [], 1374),
  (34, .istore_n 3, 0, 0, 0, [], 0),
  (35, .iload_n 3, 0, 0, 0, [], 0),
  (36, .iconst 1, 0, 0, nI 1, [], 0),
  (37, .if_icmp .ne 13, 28, 0, 0, [], 0),
  (40, .aload_n 0, 0, 0, 0, [], 0),
  (41, .getfield 7, 12, 1, 0, [], 1181),
  (44, .bipush 6, 0, 0, nI 6, [], 0),
  (46, .iaload, 0, 0, 0, [], 0),
  (47, .goto 5, 29, 0, 0, [], 0),
  (50, .bipush (-4), 0, 0, (-4), [], 0),
  (52, .ireturn, 0, 0, 0, [], 0)]
/-- BikeTownModel.goes()V -/
def cd217 : List Ent := [(0, .aload_n 0, 0, 0, 0, [], 0),
  (1, .getfield 7, 12, 1, 0, [], 1181),
  (4, .iconst 0, 0, 0, nI 0, [], 0),
  (5, .iaload, 0, 0, 0, [], 0),
  (6, .istore_n 1, 0, 0, 0, [], 0),
  (7, .iconst 0, 0, 0, nI 0, [], 0),
  (8, .istore_n 2, 0, 0, 0, [], 0),
  (9, .iload_n 2, 0, 0, 0, [], 0),
  (10, .aload_n 0, 0, 0, 0, [], 0),
  (11, .getfield 139, 12, 3, 0, [], 1183),
  (14, .if_icmp .ge 26, 25, 0, 0, [], 0),
  (17, .aload_n 0, 0, 0, 0, [], 0),
  (18, .getfield 108, 12, 44, 0, [], 1224),
  (21, .iload_n 2, 0, 0, 0, [], 0),
  (22, .iconst 0, 0, 0, nI 0, [], 0),
  (23, .iastore, 0, 0, 0, [], 0),
  (24, .aload_n 0, 0, 0, 0, [], 0),
  (25, .getfield 7, 12, 1, 0, [], 1181),
  (28, .bipush 68, 0, 0, nI 68, [], 0),
  (30, .iload_n 2, 0, 0, 0, [], 0),
  (31, .iadd, 0, 0, 0, [], 0),
  (32, .iconst 0, 0, 0, nI 0, [], 0),
  (33, .iastore, 0, 0, 0, [], 0),
  (34, .iinc 2 1, 0, 0, nI 1, [], 0),
  (37, .goto (-28), 7, 0, 0, [], 0),
  (40, .iconst 0, 0, 0, nI 0, [], 0),
  (41, .istore_n 2, 0, 0, 0, [], 0),
  (42, .iload_n 2, 0, 0, 0, [], 0),
  (43, .aload_n 0, 0, 0, 0, [], 0),
  (44, .getfield 132, 12, 9, 0, [], 1189),
  (47, .if_icmp .ge 75, 73, 0, 0, [], 0),
  (50, .aload_n 0, 0, 0, 0, [], 0),
  (51, .getfield 108, 12, 44, 0, [], 1224),
  (54, .aload_n 0, 0, 0, 0, [], 0),
  (55, .getfield 31, 12, 11, 0, [], 1191),
  (58, .iload_n 2, 0, 0, 0, [], 0),
  (59, .iaload, 0, 0, 0, [], 0),
  (60, .dup2, 0, 0, 0, [], 0),
  (61, .iaload, 0, 0, 0, [], 0),
  (62, .aload_n 0, 0, 0, 0, [], 0),
  (63, .getfield 7, 12, 1, 0, [], 1181),
  (66, .sipush 1532, 0, 0, nI 1532, [], 0),
  (69, .iload_n 2, 0, 0, 0, [], 0),
  (70, .iadd, 0, 0, 0, [], 0),
  (71, .iaload, 0, 0, 0, [], 0),
  (72, .iconst 1, 0, 0, nI 1, [], 0),
  (73, .if_icmp .ne 7, 49, 0, 0, [], 0),
  (76, .iconst 1, 0, 0, nI 1, [], 0),
  (77, .goto 4, 50, 0, 0, [], 0),
  (80, .iconst 0, 0, 0, nI 0, [], 0),
  (81, .iadd, 0, 0, 0, [], 0),
  (82, .iastore, 0, 0, 0, [], 0),
  (83, .aload_n 0, 0, 0, 0, [], 0),
  (84, .getfield 7, 12, 1, 0, [], 1181),
  (87, .sipush 1532, 0, 0, nI 1532, [], 0),
  (90, .iload_n 2, 0, 0, 0, [], 0),
  (91, .iadd, 0, 0, 0, [], 0),
  (92, .iaload, 0, 0, 0, [], 0),
  (93, .iconst 2, 0, 0, nI 2, [], 0),
  (94, .if_icmp .ne 22, 71, 0, 0, [], 0),
  (97, .aload_n 0, 0, 0, 0, [], 0),
  (98, .getfield 7, 12, 1, 0, [], 1181),
  (101, .sipush 2732, 0, 0, nI 2732, [], 0),
  (104, .iload_n 2, 0, 0, 0, [], 0),
  (105, .iadd, 0, 0, 0, [], 0),
  (106, .iaload, 0, 0, 0, [], 0),
  (107, .iload_n 1, 0, 0, 0, [], 0),
  (108, .if_icmp .ne 8, 71, 0, 0, [], 0),
  (111, .aload_n 0, 0, 0, 0, [], 0),
  (112, .iload_n 2, 0, 0, 0, [], 0),
  (113, .invokevirtual 233, 156, 0, 0, [], 1453),
  (116, .iinc 2 1, 0, 0, nI 1, [], 0),
  (119, .goto (-77), 27, 0, 0, [], 0),
  (122, .iconst 0, 0, 0, nI 0, [], 0),
  (123, .istore_n 2, 0, 0, 0, [], 0),
  (124, .iload_n 2, 0, 0, 0, [], 0),
  (125, .aload_n 0, 0, 0, 0, [], 0),
  (126, .getfield 129, 12, 7, 0, [], 1187),
  (129, .if_icmp .ge 105, 138, 0, 0, [], 0),
  (132, .aload_n 0, 0, 0, 0, [], 0),
  (133, .getfield 7, 12, 1, 0, [], 1181),
  (136, .sipush 1232, 0, 0, nI 1232, [], 0),
  (139, .iload_n 2, 0, 0, 0, [], 0),
  (140, .iadd, 0, 0, 0, [], 0),
  (141, .iaload, 0, 0, 0, [], 0),
  (142, .iconst 3, 0, 0, nI 3, [], 0),
  (143, .if_icmp .ne 85, 136, 0, 0, [], 0),
  (146, .aload_n 0, 0, 0, 0, [], 0),
  (147, .getfield 7, 12, 1, 0, [], 1181),
  (150, .sipush 1472, 0, 0, nI 1472, [], 0),
  (153, .iload_n 2, 0, 0, 0, [], 0),
  (154, .iadd, 0, 0, 0, [], 0),
  (155, .iaload, 0, 0, 0, [], 0),
  (156, .iload_n 1, 0, 0, 0, [], 0),
  (157, .if_icmp .gt 71, 136, 0, 0, [], 0),
  (160, .aload_n 0, 0, 0, 0, [], 0),
  (161, .aload_n 0, 0, 0, 0, [], 0),
  (162, .getfield 7, 12, 1, 0, [], 1181),
  (165, .sipush 1292, 0, 0, nI 1292, [], 0),
  (168, .iload_n 2, 0, 0, 0, [], 0),
  (169, .iadd, 0, 0, 0, [], 0),
  (170, .iaload, 0, 0, 0, [], 0),
  (171, .invokevirtual 161, 111, 0, 0, [], 1350),
  (174, .ifCond .le 54, 136, 0, 0, [], 0),
  (177, .aload_n 0, 0, 0, 0, [], 0),
  (178, .getfield 7, 12, 1, 0, [], 1181),
  (181, .sipush 1232, 0, 0, nI 1232, [], 0),
  (184, .iload_n 2, 0, 0, 0, [], 0),
  (185, .iadd, 0, 0, 0, [], 0),
  (186, .iconst 0, 0, 0, nI 0, [], 0),
  (187, .iastore, 0, 0, 0, [], 0),
  (188, .aload_n 0, 0, 0, 0, [], 0),
  (189, .getfield 7, 12, 1, 0, [], 1181),
  (192, .sipush 1352, 0, 0, nI 1352, [], 0),
  (195, .iload_n 2, 0, 0, 0, [], 0),
  (196, .iadd, 0, 0, 0, [], 0),
  (197, .iconst 0, 0, 0, nI 0, [], 0),
  (198, .iastore, 0, 0, 0, [], 0),
  (199, .aload_n 0, 0, 0, 0, [], 0),
  (200, .getfield 7, 12, 1, 0, [], 1181),
  (203, .sipush 1412, 0, 0, nI 1412, [], 0),
  (206, .iload_n 2, 0, 0, 0, [], 0),
  (207, .iadd, 0, 0, 0, [], 0),
  (208, .iconst 0, 0, 0, nI 0, [], 0),
  (209, .iastore, 0, 0, 0, [], 0),
  (210, .aload_n 0, 0, 0, 0, [], 0),
  (211, .bipush 8, 0, 0, nI 8, [], 0),
  (213, .aload_n 0, 0, 0, 0, [], 0),
  (214, .getfield 7, 12, 1, 0, [], 1181),
  (217, .sipush 1292, 0, 0, nI 1292, [], 0),
  (220, .iload_n 2, 0, 0, 0, [], 0),
  (221, .iadd, 0, 0, 0, [], 0),
  (222, .iaload, 0, 0, 0, [], 0),
  (223, .iconst (-1), 0, 0, (-1), [], 0),
  (224, .iload_n 2, 0, 0, 0, [], 0),
  (225, .invokevirtual 164, 47, 0, 0, [], 1390),
  (228, .iinc 2 1, 0, 0, nI 1, [], 0),
  (231, .goto (-107), 75, 0, 0, [], 0),
  (234, .iconst 0, 0, 0, nI 0, [], 0),
  (235, .istore_n 2, 0, 0, 0, [], 0),
  (236, .iload_n 2, 0, 0, 0, [], 0),
  (237, .aload_n 0, 0, 0, 0, [], 0),
  (238, .getfield 139, 12, 3, 0, [], 1183),
  (241, .if_icmp .ge 49, 168, 0, 0, [], 0),
  (244, .iconst 0, 0, 0, nI 0, [], 0),
  (245, .istore_n 3, 0, 0, 0, [], 0),
  (246, .iload_n 3, 0, 0, 0, [], 0),
  (247, .aload_n 0, 0, 0, 0, [], 0),
  (248, .getfield 196, 12, 22, 0, [], 1202),
  (251, .if_icmp .ge 33, 166, 0, 0, [], 0),
  (254, .aload_n 0, 0, 0, 0, [], 0),
  (255, .getfield 65, 12, 25, 0, [], 1205),
  (258, .iload_n 3, 0, 0, 0, [], 0),
  (259, .baload, 0, 0, 0, [], 0),
  (260, .ifCond .ne 18, 164, 0, 0, [], 0),
  (263, .aload_n 0, 0, 0, 0, [], 0),
  (264, .iload_n 3, 0, 0, 0, [], 0),
  (265, .iload_n 2, 0, 0, 0, [], 0),
  (266, .invokevirtual 236, 189, 0, 0, [], 1464),
  (269, .ifCond .eq 9, 164, 0, 0, [], 0),
  (272, .aload_n 0, 0, 0, 0, [], 0),
  (273, .iload_n 3, 0, 0, 0, [], 0),
  (274, .iload_n 2, 0, 0, 0, [], 0),
  (275, .invokevirtual 240, 190, 0, 0, [], 1487),
  (278, .iinc 3 1, 0, 0, nI 1, [], 0),
  (281, .goto (-35), 146, 0, 0, [], 0),
  (284, .iinc 2 1, 0, 0, nI 1, [], 0),
  (287, .goto (-51), 140, 0, 0, [], 0),
  (290, .aload_n 0, 0, 0, 0, [], 0),
  (291, .invokevirtual 243, 191, 0, 0, [], 1491),
  (294, .iconst 0, 0, 0, nI 0, [], 0),
  (295, .istore_n 2, 0, 0, 0, [], 0),
  (296, .iload_n 2, 0, 0, 0, [], 0),
  (297, .aload_n 0, 0, 0, 0, [], 0),
  (298, .getfield 132, 12, 9, 0, [], 1189),
  (301, .if_icmp .ge 51, 202, 0, 0, [], 0),
  (304, .aload_n 0, 0, 0, 0, [], 0),
  (305, .getfield 7, 12, 1, 0, [], 1181),
  (308, .sipush 1532, 0, 0, nI 1532, [], 0),
  (311, .iload_n 2, 0, 0, 0, [], 0),
  (312, .iadd, 0, 0, 0, [], 0),
  (313, .iaload, 0, 0, 0, [], 0),
  (314, .iconst 1, 0, 0, nI 1, [], 0),
  (315, .if_icmp .eq 26, 197, 0, 0, [], 0),
  (318, .aload_n 0, 0, 0, 0, [], 0),
  (319, .getfield 7, 12, 1, 0, [], 1181),
  (322, .sipush 1532, 0, 0, nI 1532, [], 0),
  (325, .iload_n 2, 0, 0, 0, [], 0),
  (326, .iadd, 0, 0, 0, [], 0),
  (327, .iaload, 0, 0, 0, [], 0),
  (328, .ifCond .ne 18, 200, 0, 0, [], 0),
  (331, .aload_n 0, 0, 0, 0, [], 0),
  (332, .getfield 28, 12, 10, 0, [], 1190),
  (335, .iload_n 2, 0, 0, 0, [], 0),
  (336, .iaload, 0, 0, 0, [], 0),
  (337, .iload_n 1, 0, 0, 0, [], 0),
  (338, .if_icmp .ne 8, 200, 0, 0, [], 0),
  (341, .aload_n 0, 0, 0, 0, [], 0),
  (342, .iload_n 2, 0, 0, 0, [], 0),
  (343, .invokevirtual 246, 158, 0, 0, [], 1503),
  (346, .iinc 2 1, 0, 0, nI 1, [], 0),
  (349, .goto (-53), 172, 0, 0, [], 0),
  (352, .iconst 0, 0, 0, nI 0, [], 0),
  (353, .istore_n 2, 0, 0, 0, [], 0),
  (354, .iload_n 2, 0, 0, 0, [], 0),
  (355, .aload_n 0, 0, 0, 0, [], 0),
  (356, .getfield 139, 12, 3, 0, [], 1183),
  (359, .if_icmp .ge 117, 278, 0, 0, [], 0),
  (362, .bipush 24, 0, 0, nI 24, [], 0),
  (364, .iload_n 2, 0, 0, 0, [], 0),
  (365, .imul, 0, 0, 0, [], 0),
  (366, .iload_n 1, 0, 0, 0, [], 0),
  (367, .bipush 60, 0, 0, nI 60, [], 0),
  (369, .idiv, 0, 0, 0, [], 0),
  (370, .iadd, 0, 0, 0, [], 0),
  (371, .istore_n 3, 0, 0, 0, [], 0),
  (372, .aload_n 0, 0, 0, 0, [], 0),
  (373, .iload_n 2, 0, 0, 0, [], 0),
  (374, .invokevirtual 205, 50, 0, 0, [], 1483),
  (377, .ifCond .ne 7, 222, 0, 0, [], 0),
  (380, .iconst 1, 0, 0, nI 1, [], 0),
  (381, .goto 4, 223, 0, 0, [], 0),
  (384, .iconst 0, 0, 0, nI 0, [], 0),
  (385, .istore 4, 0, 0, 0, [], 0),
  (387, .aload_n 0, 0, 0, 0, [], 0),
  (388, .getfield 7, 12, 1, 0, [], 1181),
  (391, .bipush 56, 0, 0, nI 56, [], 0),
  (393, .iload_n 2, 0, 0, 0, [], 0),
  (394, .iadd, 0, 0, 0, [], 0),
  (395, .dup2, 0, 0, 0, [], 0),
  (396, .iaload, 0, 0, 0, [], 0),
  (397, .iload 4, 0, 0, 0, [], 0),
  (399, .iadd, 0, 0, 0, [], 0),
  (400, .iastore, 0, 0, 0, [], 0),
  (401, .aload_n 0, 0, 0, 0, [], 0),
  (402, .getfield 7, 12, 1, 0, [], 1181),
  (405, .sipush 656, 0, 0, nI 656, [], 0),
  (408, .iload_n 3, 0, 0, 0, [], 0),
  (409, .iadd, 0, 0, 0, [], 0),
  (410, .dup2, 0, 0, 0, [], 0),
  (411, .iaload, 0, 0, 0, [], 0),
  (412, .iload 4, 0, 0, 0, [], 0),
  (414, .iadd, 0, 0, 0, [], 0),
  (415, .iastore, 0, 0, 0, [], 0),
  (416, .aload_n 0, 0, 0, 0, [], 0),
  (417, .getfield 7, 12, 1, 0, [], 1181),
  (420, .sipush 944, 0, 0, nI 944, [], 0),
  (423, .iload_n 3, 0, 0, 0, [], 0),
  (424, .iadd, 0, 0, 0, [], 0),
  (425, .aload_n 0, 0, 0, 0, [], 0),
  (426, .getfield 7, 12, 1, 0, [], 1181),
  (429, .bipush 68, 0, 0, nI 68, [], 0),
  (431, .iload_n 2, 0, 0, 0, [], 0),
  (432, .iadd, 0, 0, 0, [], 0),
  (433, .iaload, 0, 0, 0, [], 0),
  (434, .aload_n 0, 0, 0, 0, [], 0),
  (435, .getfield 7, 12, 1, 0, [], 1181),
  (438, .sipush 944, 0, 0, nI 944, [], 0),
  (441, .iload_n 3, 0, 0, 0, [], 0),
  (442, .iadd, 0, 0, 0, [], 0),
  (443, .iaload, 0, 0, 0, [], 0),
  (444, .if_icmp .le 15, 269, 0, 0, [], 0),
  (447, .aload_n 0, 0, 0, 0, [], 0),
  (448, .getfield 7, 12, 1, 0, [], 1181),
  (451, .bipush 68, 0, 0, nI 68, [], 0),
  (453, .iload_n 2, 0, 0, 0, [], 0),
  (454, .iadd, 0, 0, 0, [], 0),
  (455, .iaload, 0, 0, 0, [], 0),
  (456, .goto 13, 275, 0, 0, [], 0),
  (459, .aload_n 0, 0, 0, 0, [], 0),
  (460, .getfield 7, 12, 1, 0, [], 1181),
  (463, .sipush 944, 0, 0, nI 944, [], 0),
  (466, .iload_n 3, 0, 0, 0, [], 0),
  (467, .iadd, 0, 0, 0, [], 0),
  (468, .iaload, 0, 0, 0, [], 0),
  (469, .iastore, 0, 0, 0, [], 0),
  (470, .iinc 2 1, 0, 0, nI 1, [], 0),
  (473, .goto (-119), 204, 0, 0, [], 0),
  (476, .aload_n 0, 0, 0, 0, [], 0),
  (477, .getfield 7, 12, 1, 0, [], 1181),
  (480, .iconst 0, 0, 0, nI 0, [], 0),
  (481, .dup2, 0, 0, 0, [], 0),
  (482, .iaload, 0, 0, 0, [], 0),
  (483, .iconst 1, 0, 0, nI 1, [], 0),
  (484, .iadd, 0, 0, 0, [], 0),
  (485, .iastore, 0, 0, 0, [], 0),
  (486, .return_, 0, 0, 0, [], 0)]
/-- BikeTownModel.round()I -/
def cd218 : List Ent := [(0, .aload_n 0, 0, 0, 0, [], 0),
  (1, .iconst 0, 0, 0, nI 0, [], 0),
  (2, .putfield 126, 12, 0, 0, [], 1180),
  (5, .aload_n 0, 0, 0, 0, [], 0),
  (6, .invokevirtual 262, 192, 0, 0, [], 1563),
  (9, .ireturn, 0, 0, 0, [], 0)]
/-- BikeTownModel.roundAt(I)I -/
def cd219 : List Ent := [(0, .aload_n 0, 0, 0, 0, [], 0),
  (1, .iconst 0, 0, 0, nI 0, [], 0),
  (2, .putfield 126, 12, 0, 0, [], 1180),
  (5, .iload_n 1, 0, 0, 0, [], 0),
  (6, .ifCond .ge 6, 7, 0, 0, [], 0),
  (9, .bipush (-2), 0, 0, (-2), [], 0),
  (11, .ireturn, 0, 0, 0, [], 0),
  (12, .aload_n 0, 0, 0, 0, [], 0),
  (13, .invokevirtual 262, 192, 0, 0, [], 1563),
  (16, .istore_n 2, 0, 0, 0, [], 0),
  (17, .iload_n 2, 0, 0, 0, [], 0),
  (18, .bipush (-3), 0, 0, (-3), [], 0),
  (20, .if_icmp .ne 8, 15, 0, 0, [], 0),
  (23, .bipush (-3), 0, 0, (-3), [], 0),
  (25, .goto 25, 27, 0, 0, [], 0),
  (28, .iload_n 2, 0, 0, 0, [], 0),
  (29, .ifCond .lt 20, 26, 0, 0, [], 0),
  (32, .iload_n 1, 0, 0, 0, [], 0),
  (33, .aload_n 0, 0, 0, 0, [], 0),
  (34, .getfield 255, 12, 49, 0, [], 1229),
  (37, .if_icmp .ge 12, 26, 0, 0, [], 0),
  (40, .aload_n 0, 0, 0, 0, [], 0),
  (41, .getfield 120, 12, 48, 0, [], 1228),
  (44, .iload_n 1, 0, 0, 0, [], 0),
  (45, .iaload, 0, 0, 0, [], 0),
  (46, .goto 4, 27, 0, 0, [], 0),
  (49, .iconst (-1), 0, 0, (-1), [], 0),
  (50, .ireturn, 0, 0, 0, [], 0)]
/-- BikeTown$Day.passMinute()V -/
def cd220 : List Ent := [(0, .aload_n 0, 0, 0, 0, [], 0),
  (1, .getfield 75, 0, 4, 0, [], 361),
  (4, .sipush 1440, 0, 0, nI 1440, [], 0),
  (7, .if_icmp .lt 4, 5, 0, 0, [], 0),
  (10, .return_, 0, 0, 0, [], 0),
  (11, .aload_n 0, 0, 0, 0, [], 0),
  (12, .getfield 71, 0, 2, 0, [], 357),
  (15, .invokevirtual 183, 81, 0, 0, [], 729),
  (18, .aload_n 0, 0, 0, 0, [], 0),
  (19, .invokevirtual 186, 194, 0, 0, [], 734),
  (22, .aload_n 0, 0, 0, 0, [], 0),
  (23, .invokevirtual 189, 74, 0, 0, [], 762),
  (26, .aload_n 0, 0, 0, 0, [], 0),
  (27, .invokevirtual 192, 195, 0, 0, [], 766),
  (30, .aload_n 0, 0, 0, 0, [], 0),
  (31, .invokevirtual 195, 196, 0, 0, [], 816),
  (34, .aload_n 0, 0, 0, 0, [], 0),
  (35, .invokevirtual 198, 197, 0, 0, [], 848),
  (38, .aload_n 0, 0, 0, 0, [], 0),
  (39, .invokevirtual 201, 78, 0, 0, [], 868),
  (42, .aload_n 0, 0, 0, 0, [], 0),
  (43, .dup, 0, 0, 0, [], 0),
  (44, .getfield 75, 0, 4, 0, [], 361),
  (47, .iconst 1, 0, 0, nI 1, [], 0),
  (48, .iadd, 0, 0, 0, [], 0),
  (49, .putfield 75, 0, 4, 0, [], 361),
  (52, .return_, 0, 0, 0, [], 0)]
/-- BikeTown.round()I -/
def cd221 : List Ent := [(0, .aload_n 0, 0, 0, 0, [], 0),
  (1, .getfield 52, 11, 6, 0, [], 523),
  (4, .invokevirtual 290, 15, 0, 0, [], 987),
  (7, .bipush 8, 0, 0, nI 8, [], 0),
  (9, .if_icmp .le 6, 7, 0, 0, [], 0),
  (12, .bipush (-3), 0, 0, (-3), [], 0),
  (14, .ireturn, 0, 0, 0, [], 0),
  (15, .aload_n 0, 0, 0, 0, [], 0),
  (16, .getfield 52, 11, 6, 0, [], 523),
  (19, .aload_n 0, 0, 0, 0, [], 0),
  (20, .getfield 13, 11, 0, 0, [], 517),
  (23, .aload_n 0, 0, 0, 0, [], 0),
  (24, .getfield 35, 11, 3, 0, [], 520),
  (27, .getfield 156, 0, 3, 0, [], 360),
  (30, .invokevirtual 293, 200, 0, 0, [], 991),
  (33, .ireturn, 0, 0, 0, [], 0)]
/-- BikeTown.roundAt(I)I -/
def cd222 : List Ent := [(0, .iload_n 1, 0, 0, 0, [], 0),
  (1, .ifCond .ge 6, 4, 0, 0, [], 0),
  (4, .bipush (-2), 0, 0, (-2), [], 0),
  (6, .ireturn, 0, 0, 0, [], 0),
  (7, .aload_n 0, 0, 0, 0, [], 0),
  (8, .getfield 52, 11, 6, 0, [], 523),
  (11, .invokevirtual 290, 15, 0, 0, [], 987),
  (14, .bipush 8, 0, 0, nI 8, [], 0),
  (16, .if_icmp .le 6, 11, 0, 0, [], 0),
  (19, .bipush (-3), 0, 0, (-3), [], 0),
  (21, .ireturn, 0, 0, 0, [], 0),
  (22, .aload_n 0, 0, 0, 0, [], 0),
  (23, .getfield 52, 11, 6, 0, [], 523),
  (26, .aload_n 0, 0, 0, 0, [], 0),
  (27, .getfield 13, 11, 0, 0, [], 517),
  (30, .aload_n 0, 0, 0, 0, [], 0),
  (31, .getfield 35, 11, 3, 0, [], 520),
  (34, .getfield 156, 0, 3, 0, [], 360),
  (37, .invokevirtual 293, 200, 0, 0, [], 991),
  (40, .iconst (-1), 0, 0, (-1), [], 0),
  (41, .if_icmp .ne 7, 23, 0, 0, [], 0),
  (44, .iconst (-1), 0, 0, (-1), [], 0),
  (45, .goto 22, 32, 0, 0, [], 0),
  (48, .aload_n 0, 0, 0, 0, [], 0),
  (49, .getfield 52, 11, 6, 0, [], 523),
  (52, .aload_n 0, 0, 0, 0, [], 0),
  (53, .getfield 13, 11, 0, 0, [], 517),
  (56, .aload_n 0, 0, 0, 0, [], 0),
  (57, .getfield 35, 11, 3, 0, [], 520),
  (60, .getfield 156, 0, 3, 0, [], 360),
  (63, .iload_n 1, 0, 0, 0, [], 0),
  (64, .invokevirtual 297, 201, 0, 0, [], 1029),
  (67, .ireturn, 0, 0, 0, [], 0)]
/-- BikeTown.still()I -/
def cd223 : List Ent := [(0, .aload_n 0, 0, 0, 0, [], 0),
  (1, .getfield 59, 11, 7, 0, [], 524),
  (4, .invokevirtual 311, 198, 0, 0, [], 1052),
  (7, .ireturn, 0, 0, 0, [], 0)]
/-- BikeTown.stillAt(I)I -/
def cd224 : List Ent := [(0, .iload_n 1, 0, 0, 0, [], 0),
  (1, .ifCond .ge 8, 4, 0, 0, [], 0),
  (4, .bipush (-2), 0, 0, (-2), [], 0),
  (6, .goto 11, 8, 0, 0, [], 0),
  (9, .aload_n 0, 0, 0, 0, [], 0),
  (10, .getfield 59, 11, 7, 0, [], 524),
  (13, .iload_n 1, 0, 0, 0, [], 0),
  (14, .invokevirtual 314, 199, 0, 0, [], 1073),
  (17, .ireturn, 0, 0, 0, [], 0)]
/-- BikeTownModel.step(I)I -/
def cd225 : List Ent := [(0, .aload_n 0, 0, 0, 0, [], 0),
  (1, .iconst 0, 0, 0, nI 0, [], 0),
  (2, .putfield 126, 12, 0, 0, [], 1180),
  (5, .iload_n 1, 0, 0, 0, [], 0),
  (6, .iconst 1, 0, 0, nI 1, [], 0),
  (7, .sipush 1440, 0, 0, nI 1440, [], 0),
  (10, .invokestatic 142, 45, 0, 0, [], 1335),
  (13, .ifCond .ne 6, 10, 0, 0, [], 0),
  (16, .bipush (-2), 0, 0, (-2), [], 0),
  (18, .ireturn, 0, 0, 0, [], 0),
  (19, .aload_n 0, 0, 0, 0, [], 0),
  (20, .getfield 7, 12, 1, 0, [], 1181),
  (23, .iconst 0, 0, 0, nI 0, [], 0),
  (24, .iaload, 0, 0, 0, [], 0),
  (25, .sipush 1440, 0, 0, nI 1440, [], 0),
  (28, .if_icmp .ne 6, 18, 0, 0, [], 0),
  (31, .bipush (-3), 0, 0, (-3), [], 0),
  (33, .ireturn, 0, 0, 0, [], 0),
  (34, .iconst 0, 0, 0, nI 0, [], 0),
  (35, .istore_n 2, 0, 0, 0, [], 0),
  (36, .iload_n 2, 0, 0, 0, [], 0),
  (37, .iload_n 1, 0, 0, 0, [], 0),
  (38, .if_icmp .ge 25, 33, 0, 0, [], 0),
  (41, .aload_n 0, 0, 0, 0, [], 0),
  (42, .getfield 7, 12, 1, 0, [], 1181),
  (45, .iconst 0, 0, 0, nI 0, [], 0),
  (46, .iaload, 0, 0, 0, [], 0),
  (47, .sipush 1440, 0, 0, nI 1440, [], 0),
  (50, .if_icmp .ge 13, 33, 0, 0, [], 0),
  (53, .aload_n 0, 0, 0, 0, [], 0),
  (54, .invokevirtual 249, 217, 0, 0, [], 1449),
  (57, .iinc 2 1, 0, 0, nI 1, [], 0),
  (60, .goto (-24), 20, 0, 0, [], 0),
  (63, .iload_n 2, 0, 0, 0, [], 0),
  (64, .ireturn, 0, 0, 0, [], 0)]
/-- BikeTownModel.whatIf(II)I -/
def cd226 : List Ent := [(0, .aload_n 0, 0, 0, 0, [], 0),
  (1, .iconst 0, 0, 0, nI 0, [], 0),
  (2, .putfield 126, 12, 0, 0, [], 1180),
  (5, .iload_n 1, 0, 0, 0, [], 0),
  (6, .iconst 0, 0, 0, nI 0, [], 0),
  (7, .aload_n 0, 0, 0, 0, [], 0),
  (8, .getfield 196, 12, 22, 0, [], 1202),
  (11, .iconst 1, 0, 0, nI 1, [], 0),
  (12, .isub, 0, 0, 0, [], 0),
  (13, .invokestatic 142, 45, 0, 0, [], 1335),
  (16, .ifCond .eq 12, 16, 0, 0, [], 0),
  (19, .iload_n 2, 0, 0, 0, [], 0),
  (20, .iconst 0, 0, 0, nI 0, [], 0),
  (21, .iconst 3, 0, 0, nI 3, [], 0),
  (22, .invokestatic 142, 45, 0, 0, [], 1335),
  (25, .ifCond .ne 6, 18, 0, 0, [], 0),
  (28, .bipush (-2), 0, 0, (-2), [], 0),
  (30, .ireturn, 0, 0, 0, [], 0),
  (31, .iconst 0, 0, 0, nI 0, [], 0),
  (32, .istore_n 3, 0, 0, 0, [], 0),
  (33, .iload_n 3, 0, 0, 0, [], 0),
  (34, .sipush 23184, 0, 0, nI 23184, [], 0),
  (37, .if_icmp .ge 21, 33, 0, 0, [], 0),
  (40, .aload_n 0, 0, 0, 0, [], 0),
  (41, .getfield 13, 12, 2, 0, [], 1182),
  (44, .iload_n 3, 0, 0, 0, [], 0),
  (45, .aload_n 0, 0, 0, 0, [], 0),
  (46, .getfield 7, 12, 1, 0, [], 1181),
  (49, .iload_n 3, 0, 0, 0, [], 0),
  (50, .iaload, 0, 0, 0, [], 0),
  (51, .iastore, 0, 0, 0, [], 0),
  (52, .iinc 3 1, 0, 0, nI 1, [], 0),
  (55, .goto (-22), 20, 0, 0, [], 0),
  (58, .aload_n 0, 0, 0, 0, [], 0),
  (59, .getfield 65, 12, 25, 0, [], 1205),
  (62, .iload_n 1, 0, 0, 0, [], 0),
  (63, .aload_n 0, 0, 0, 0, [], 0),
  (64, .getfield 65, 12, 25, 0, [], 1205),
  (67, .iload_n 1, 0, 0, 0, [], 0),
  (68, .baload, 0, 0, 0, [], 0),
  (69, .ifCond .ne 7, 43, 0, 0, [], 0),
  (72, .iconst 1, 0, 0, nI 1, [], 0),
  (73, .goto 4, 44, 0, 0, [], 0),
  (76, .iconst 0, 0, 0, nI 0, [], 0),
  (77, .bastore, 0, 0, 0, [], 0),
  (78, .aload_n 0, 0, 0, 0, [], 0),
  (79, .getfield 7, 12, 1, 0, [], 1181),
  (82, .iconst 0, 0, 0, nI 0, [], 0),
  (83, .iaload, 0, 0, 0, [], 0),
  (84, .istore_n 3, 0, 0, 0, [], 0),
  (85, .aload_n 0, 0, 0, 0, [], 0),
  (86, .invokevirtual 123, 107, 0, 0, [], 1172),
  (89, .iconst 0, 0, 0, nI 0, [], 0),
  (90, .istore 4, 0, 0, 0, [], 0),
  (92, .aload_n 0, 0, 0, 0, [], 0),
  (93, .getfield 7, 12, 1, 0, [], 1181),
  (96, .iconst 0, 0, 0, nI 0, [], 0),
  (97, .iaload, 0, 0, 0, [], 0),
  (98, .iload_n 3, 0, 0, 0, [], 0),
  (99, .if_icmp .ge 120, 133, 0, 0, [], 0),
  (102, .iload 4, 0, 0, 0, [], 0),
  (104, .aload_n 0, 0, 0, 0, [], 0),
  (105, .getfield 146, 12, 18, 0, [], 1198),
  (108, .if_icmp .ge 104, 130, 0, 0, [], 0),
  (111, .aload_n 0, 0, 0, 0, [], 0),
  (112, .getfield 53, 12, 19, 0, [], 1199),
  (115, .iconst 4, 0, 0, nI 4, [], 0),
  (116, .iload 4, 0, 0, 0, [], 0),
  (118, .imul, 0, 0, 0, [], 0),
  (119, .iaload, 0, 0, 0, [], 0),
  (120, .aload_n 0, 0, 0, 0, [], 0),
  (121, .getfield 7, 12, 1, 0, [], 1181),
  (124, .iconst 0, 0, 0, nI 0, [], 0),
  (125, .iaload, 0, 0, 0, [], 0),
  (126, .if_icmp .ne 86, 130, 0, 0, [], 0),
  (129, .aload_n 0, 0, 0, 0, [], 0),
  (130, .aload_n 0, 0, 0, 0, [], 0),
  (131, .getfield 53, 12, 19, 0, [], 1199),
  (134, .iconst 4, 0, 0, nI 4, [], 0),
  (135, .iload 4, 0, 0, 0, [], 0),
  (137, .imul, 0, 0, 0, [], 0),
  (138, .iconst 1, 0, 0, nI 1, [], 0),
  (139, .iadd, 0, 0, 0, [], 0),
  (140, .iaload, 0, 0, 0, [], 0),
  (141, .aload_n 0, 0, 0, 0, [], 0),
  (142, .getfield 53, 12, 19, 0, [], 1199),
  (145, .iconst 4, 0, 0, nI 4, [], 0),
  (146, .iload 4, 0, 0, 0, [], 0),
  (148, .imul, 0, 0, 0, [], 0),
  (149, .iconst 2, 0, 0, nI 2, [], 0),
  (150, .iadd, 0, 0, 0, [], 0),
  (151, .iaload, 0, 0, 0, [], 0),
  (152, .aload_n 0, 0, 0, 0, [], 0),
  (153, .getfield 53, 12, 19, 0, [], 1199),
  (156, .iconst 4, 0, 0, nI 4, [], 0),
  (157, .iload 4, 0, 0, 0, [], 0),
  (159, .imul, 0, 0, 0, [], 0),
  (160, .iconst 3, 0, 0, nI 3, [], 0),
  (161, .iadd, 0, 0, 0, [], 0),
  (162, .iaload, 0, 0, 0, [], 0),
  (163, .invokevirtual 172, 151, 0, 0, [], 1378),
  (166, .ifCond .eq 40, 128, 0, 0, [], 0),
  (169, .aload_n 0, 0, 0, 0, [], 0),
  (170, .aload_n 0, 0, 0, 0, [], 0),
  (171, .getfield 53, 12, 19, 0, [], 1199),
  (174, .iconst 4, 0, 0, nI 4, [], 0),
  (175, .iload 4, 0, 0, 0, [], 0),
  (177, .imul, 0, 0, 0, [], 0),
  (178, .iconst 1, 0, 0, nI 1, [], 0),
  (179, .iadd, 0, 0, 0, [], 0),
  (180, .iaload, 0, 0, 0, [], 0),
  (181, .aload_n 0, 0, 0, 0, [], 0),
  (182, .getfield 53, 12, 19, 0, [], 1199),
  (185, .iconst 4, 0, 0, nI 4, [], 0),
  (186, .iload 4, 0, 0, 0, [], 0),
  (188, .imul, 0, 0, 0, [], 0),
  (189, .iconst 2, 0, 0, nI 2, [], 0),
  (190, .iadd, 0, 0, 0, [], 0),
  (191, .iaload, 0, 0, 0, [], 0),
  (192, .aload_n 0, 0, 0, 0, [], 0),
  (193, .getfield 53, 12, 19, 0, [], 1199),
  (196, .iconst 4, 0, 0, nI 4, [], 0),
  (197, .iload 4, 0, 0, 0, [], 0),
  (199, .imul, 0, 0, 0, [], 0),
  (200, .iconst 3, 0, 0, nI 3, [], 0),
  (201, .iadd, 0, 0, 0, [], 0),
  (202, .iaload, 0, 0, 0, [], 0),
  (203, .invokevirtual 168, 114, 0, 0, [], 1386),
  (206, .iinc 4 1, 0, 0, nI 1, [], 0),
  (209, .goto (-107), 60, 0, 0, [], 0),
  (212, .aload_n 0, 0, 0, 0, [], 0),
  (213, .invokevirtual 249, 217, 0, 0, [], 1449),
  (216, .goto (-124), 54, 0, 0, [], 0),
  (219, .iconst 0, 0, 0, nI 0, [], 0),
  (220, .istore 5, 0, 0, 0, [], 0),
  (222, .iconst 0, 0, 0, nI 0, [], 0),
  (223, .istore 6, 0, 0, 0, [], 0),
  (225, .iconst 0, 0, 0, nI 0, [], 0),
  (226, .istore 7, 0, 0, 0, [], 0),
  (228, .iconst 0, 0, 0, nI 0, [], 0),
  (229, .istore 8, 0, 0, 0, [], 0),
  (231, .iload 8, 0, 0, 0, [], 0),
  (233, .aload_n 0, 0, 0, 0, [], 0),
  (234, .getfield 139, 12, 3, 0, [], 1183),
  (237, .if_icmp .ge 54, 174, 0, 0, [], 0),
  (240, .iload 5, 0, 0, 0, [], 0),
  (242, .aload_n 0, 0, 0, 0, [], 0),
  (243, .getfield 7, 12, 1, 0, [], 1181),
  (246, .bipush 32, 0, 0, nI 32, [], 0),
  (248, .iload 8, 0, 0, 0, [], 0),
  (250, .iadd, 0, 0, 0, [], 0),
  (251, .iaload, 0, 0, 0, [], 0),
  (252, .iadd, 0, 0, 0, [], 0),
  (253, .istore 5, 0, 0, 0, [], 0),
  (255, .iload 6, 0, 0, 0, [], 0),
  (257, .aload_n 0, 0, 0, 0, [], 0),
  (258, .getfield 7, 12, 1, 0, [], 1181),
  (261, .bipush 44, 0, 0, nI 44, [], 0),
  (263, .iload 8, 0, 0, 0, [], 0),
  (265, .iadd, 0, 0, 0, [], 0),
  (266, .iaload, 0, 0, 0, [], 0),
  (267, .iadd, 0, 0, 0, [], 0),
  (268, .istore 6, 0, 0, 0, [], 0),
  (270, .iload 7, 0, 0, 0, [], 0),
  (272, .aload_n 0, 0, 0, 0, [], 0),
  (273, .getfield 7, 12, 1, 0, [], 1181),
  (276, .bipush 56, 0, 0, nI 56, [], 0),
  (278, .iload 8, 0, 0, 0, [], 0),
  (280, .iadd, 0, 0, 0, [], 0),
  (281, .iaload, 0, 0, 0, [], 0),
  (282, .iadd, 0, 0, 0, [], 0),
  (283, .istore 7, 0, 0, 0, [], 0),
  (285, .iinc 8 1, 0, 0, nI 1, [], 0),
  (288, .goto (-57), 141, 0, 0, [], 0),
  (291, .aload_n 0, 0, 0, 0, [], 0),
  (292, .getfield 7, 12, 1, 0, [], 1181),
  (295, .iconst 1, 0, 0, nI 1, [], 0),
  (296, .iaload, 0, 0, 0, [], 0),
  (297, .istore 8, 0, 0, 0, [], 0),
  (299, .aload_n 0, 0, 0, 0, [], 0),
  (300, .getfield 65, 12, 25, 0, [], 1205),
  (303, .iload_n 1, 0, 0, 0, [], 0),
  (304, .aload_n 0, 0, 0, 0, [], 0),
  (305, .getfield 65, 12, 25, 0, [], 1205),
  (308, .iload_n 1, 0, 0, 0, [], 0),
  (309, .baload, 0, 0, 0, [], 0),
  (310, .ifCond .ne 7, 189, 0, 0, [], 0),
  (313, .iconst 1, 0, 0, nI 1, [], 0),
  (314, .goto 4, 190, 0, 0, [], 0),
  (317, .iconst 0, 0, 0, nI 0, [], 0),
  (318, .bastore, 0, 0, 0, [], 0),
  (319, .iconst 0, 0, 0, nI 0, [], 0),
  (320, .istore 9, 0, 0, 0, [], 0),
  (322, .iload 9, 0, 0, 0, [], 0),
  (324, .sipush 23184, 0, 0, nI 23184, [], 0),
  (327, .if_icmp .ge 23, 206, 0, 0, [], 0),
  (330, .aload_n 0, 0, 0, 0, [], 0),
  (331, .getfield 7, 12, 1, 0, [], 1181),
  (334, .iload 9, 0, 0, 0, [], 0),
  (336, .aload_n 0, 0, 0, 0, [], 0),
  (337, .getfield 13, 12, 2, 0, [], 1182),
  (340, .iload 9, 0, 0, 0, [], 0),
  (342, .iaload, 0, 0, 0, [], 0),
  (343, .iastore, 0, 0, 0, [], 0),
  (344, .iinc 9 1, 0, 0, nI 1, [], 0),
  (347, .goto (-25), 193, 0, 0, [], 0),
  (350, .iload_n 2, 0, 0, 0, [], 0),
  (351, .ifCond .ne 8, 210, 0, 0, [], 0),
  (354, .iload 5, 0, 0, 0, [], 0),
  (356, .goto 25, 221, 0, 0, [], 0),
  (359, .iload_n 2, 0, 0, 0, [], 0),
  (360, .iconst 1, 0, 0, nI 1, [], 0),
  (361, .if_icmp .ne 8, 215, 0, 0, [], 0),
  (364, .iload 6, 0, 0, 0, [], 0),
  (366, .goto 15, 221, 0, 0, [], 0),
  (369, .iload_n 2, 0, 0, 0, [], 0),
  (370, .iconst 2, 0, 0, nI 2, [], 0),
  (371, .if_icmp .ne 8, 220, 0, 0, [], 0),
  (374, .iload 8, 0, 0, 0, [], 0),
  (376, .goto 5, 221, 0, 0, [], 0),
  (379, .iload 7, 0, 0, 0, [], 0),
  (381, .ireturn, 0, 0, 0, [], 0)]
/-- BikeTown.step(I)I -/
def cd227 : List Ent := [(0, .iload_n 1, 0, 0, 0, [], 0),
  (1, .iconst 1, 0, 0, nI 1, [], 0),
  (2, .sipush 1440, 0, 0, nI 1440, [], 0),
  (5, .invokestatic 77, 39, 0, 0, [], 552),
  (8, .ifCond .ne 6, 7, 0, 0, [], 0),
  (11, .bipush (-2), 0, 0, (-2), [], 0),
  (13, .ireturn, 0, 0, 0, [], 0),
  (14, .aload_n 0, 0, 0, 0, [], 0),
  (15, .getfield 35, 11, 3, 0, [], 520),
  (18, .getfield 121, 0, 4, 0, [], 362),
  (21, .sipush 1440, 0, 0, nI 1440, [], 0),
  (24, .if_icmp .lt 6, 14, 0, 0, [], 0),
  (27, .bipush (-3), 0, 0, (-3), [], 0),
  (29, .ireturn, 0, 0, 0, [], 0),
  (30, .iload_n 1, 0, 0, 0, [], 0),
  (31, .sipush 1440, 0, 0, nI 1440, [], 0),
  (34, .aload_n 0, 0, 0, 0, [], 0),
  (35, .getfield 35, 11, 3, 0, [], 520),
  (38, .getfield 121, 0, 4, 0, [], 362),
  (41, .isub, 0, 0, 0, [], 0),
  (42, .invokestatic 194, 0, 3, 0, [], 722),
  (45, .istore_n 2, 0, 0, 0, [], 0),
  (46, .iconst 0, 0, 0, nI 0, [], 0),
  (47, .istore_n 3, 0, 0, 0, [], 0),
  (48, .iload_n 3, 0, 0, 0, [], 0),
  (49, .iload_n 2, 0, 0, 0, [], 0),
  (50, .if_icmp .ge 16, 32, 0, 0, [], 0),
  (53, .aload_n 0, 0, 0, 0, [], 0),
  (54, .getfield 35, 11, 3, 0, [], 520),
  (57, .invokevirtual 200, 220, 0, 0, [], 725),
  (60, .iinc 3 1, 0, 0, nI 1, [], 0),
  (63, .goto (-15), 24, 0, 0, [], 0),
  (66, .iload_n 2, 0, 0, 0, [], 0),
  (67, .ireturn, 0, 0, 0, [], 0)]
/-- BikeTown.whatIf(II)I -/
def cd228 : List Ent := [(0, .iload_n 1, 0, 0, 0, [], 0),
  (1, .iconst 0, 0, 0, nI 0, [], 0),
  (2, .aload_n 0, 0, 0, 0, [], 0),
  (3, .getfield 19, 11, 1, 0, [], 518),
  (6, .getfield 186, 6, 2, 0, [], 195),
  (9, .iconst 1, 0, 0, nI 1, [], 0),
  (10, .isub, 0, 0, 0, [], 0),
  (11, .invokestatic 77, 39, 0, 0, [], 552),
  (14, .ifCond .eq 12, 14, 0, 0, [], 0),
  (17, .iload_n 2, 0, 0, 0, [], 0),
  (18, .iconst 0, 0, 0, nI 0, [], 0),
  (19, .iconst 3, 0, 0, nI 3, [], 0),
  (20, .invokestatic 77, 39, 0, 0, [], 552),
  (23, .ifCond .ne 6, 16, 0, 0, [], 0),
  (26, .bipush (-2), 0, 0, (-2), [], 0),
  (28, .ireturn, 0, 0, 0, [], 0),
  (29, .iconst 0, 0, 0, nI 0, [], 0),
  (30, .istore_n 3, 0, 0, 0, [], 0),
  (31, .aload_n 0, 0, 0, 0, [], 0),
  (32, .getfield 39, 11, 4, 0, [], 521),
  (35, .iload_n 1, 0, 0, 0, [], 0),
  (36, .invokevirtual 212, 173, 0, 0, [], 880),
  (39, .iconst 0, 0, 0, nI 0, [], 0),
  (40, .istore 4, 0, 0, 0, [], 0),
  (42, .iload 4, 0, 0, 0, [], 0),
  (44, .aload_n 0, 0, 0, 0, [], 0),
  (45, .getfield 35, 11, 3, 0, [], 520),
  (48, .getfield 121, 0, 4, 0, [], 362),
  (51, .if_icmp .ge 29, 41, 0, 0, [], 0),
  (54, .aload_n 0, 0, 0, 0, [], 0),
  (55, .getfield 39, 11, 4, 0, [], 521),
  (58, .aload_n 0, 0, 0, 0, [], 0),
  (59, .getfield 26, 11, 2, 0, [], 519),
  (62, .iload_n 3, 0, 0, 0, [], 0),
  (63, .invokevirtual 272, 174, 0, 0, [], 968),
  (66, .istore_n 3, 0, 0, 0, [], 0),
  (67, .aload_n 0, 0, 0, 0, [], 0),
  (68, .getfield 39, 11, 4, 0, [], 521),
  (71, .invokevirtual 200, 220, 0, 0, [], 725),
  (74, .iinc 4 1, 0, 0, nI 1, [], 0),
  (77, .goto (-35), 24, 0, 0, [], 0),
  (80, .iload_n 2, 0, 0, 0, [], 0),
  (81, .tableswitch 68 0 2 #[27, 42, 57], 62, 0, 0, [(nI 0, 43), (nI 1, 50), (nI 2, 57)], 0),
  (108, .aload_n 0, 0, 0, 0, [], 0),
  (109, .aload_n 0, 0, 0, 0, [], 0),
  (110, .getfield 39, 11, 4, 0, [], 521),
  (113, .getfield 204, 0, 2, 0, [], 358),
  (116, .getfield 251, 2, 4, 0, [], 326),
  (119, .invokevirtual 276, 101, 0, 0, [], 974),
  (122, .ireturn, 0, 0, 0, [], 0),
  (123, .aload_n 0, 0, 0, 0, [], 0),
  (124, .aload_n 0, 0, 0, 0, [], 0),
  (125, .getfield 39, 11, 4, 0, [], 521),
  (128, .getfield 204, 0, 2, 0, [], 358),
  (131, .getfield 254, 2, 5, 0, [], 329),
  (134, .invokevirtual 276, 101, 0, 0, [], 974),
  (137, .ireturn, 0, 0, 0, [], 0),
  (138, .aload_n 0, 0, 0, 0, [], 0),
  (139, .getfield 39, 11, 4, 0, [], 521),
  (142, .getfield 204, 0, 2, 0, [], 358),
  (145, .getfield 280, 2, 2, 0, [], 320),
  (148, .ireturn, 0, 0, 0, [], 0),
  (149, .aload_n 0, 0, 0, 0, [], 0),
  (150, .aload_n 0, 0, 0, 0, [], 0),
  (151, .getfield 39, 11, 4, 0, [], 521),
  (154, .getfield 204, 0, 2, 0, [], 358),
  (157, .getfield 257, 2, 6, 0, [], 332),
  (160, .invokevirtual 276, 101, 0, 0, [], 974),
  (163, .ireturn, 0, 0, 0, [], 0)]
def nM : Nat := 229
def mD : Nat → List Ent := fun k => (bif Nat.blt k 114 then (bif Nat.blt k 57 then (bif Nat.blt k 28 then (bif Nat.blt k 14 then (bif Nat.blt k 7 then (bif Nat.blt k 3 then (bif Nat.blt k 1 then cd0 else (bif Nat.blt k 2 then cd1 else cd2)) else (bif Nat.blt k 5 then (bif Nat.blt k 4 then cd3 else cd4) else (bif Nat.blt k 6 then cd5 else cd6))) else (bif Nat.blt k 10 then (bif Nat.blt k 8 then cd7 else (bif Nat.blt k 9 then cd8 else cd9)) else (bif Nat.blt k 12 then (bif Nat.blt k 11 then cd10 else cd11) else (bif Nat.blt k 13 then cd12 else cd13)))) else (bif Nat.blt k 21 then (bif Nat.blt k 17 then (bif Nat.blt k 15 then cd14 else (bif Nat.blt k 16 then cd15 else cd16)) else (bif Nat.blt k 19 then (bif Nat.blt k 18 then cd17 else cd18) else (bif Nat.blt k 20 then cd19 else cd20))) else (bif Nat.blt k 24 then (bif Nat.blt k 22 then cd21 else (bif Nat.blt k 23 then cd22 else cd23)) else (bif Nat.blt k 26 then (bif Nat.blt k 25 then cd24 else cd25) else (bif Nat.blt k 27 then cd26 else cd27))))) else (bif Nat.blt k 42 then (bif Nat.blt k 35 then (bif Nat.blt k 31 then (bif Nat.blt k 29 then cd28 else (bif Nat.blt k 30 then cd29 else cd30)) else (bif Nat.blt k 33 then (bif Nat.blt k 32 then cd31 else cd32) else (bif Nat.blt k 34 then cd33 else cd34))) else (bif Nat.blt k 38 then (bif Nat.blt k 36 then cd35 else (bif Nat.blt k 37 then cd36 else cd37)) else (bif Nat.blt k 40 then (bif Nat.blt k 39 then cd38 else cd39) else (bif Nat.blt k 41 then cd40 else cd41)))) else (bif Nat.blt k 49 then (bif Nat.blt k 45 then (bif Nat.blt k 43 then cd42 else (bif Nat.blt k 44 then cd43 else cd44)) else (bif Nat.blt k 47 then (bif Nat.blt k 46 then cd45 else cd46) else (bif Nat.blt k 48 then cd47 else cd48))) else (bif Nat.blt k 53 then (bif Nat.blt k 51 then (bif Nat.blt k 50 then cd49 else cd50) else (bif Nat.blt k 52 then cd51 else cd52)) else (bif Nat.blt k 55 then (bif Nat.blt k 54 then cd53 else cd54) else (bif Nat.blt k 56 then cd55 else cd56)))))) else (bif Nat.blt k 85 then (bif Nat.blt k 71 then (bif Nat.blt k 64 then (bif Nat.blt k 60 then (bif Nat.blt k 58 then cd57 else (bif Nat.blt k 59 then cd58 else cd59)) else (bif Nat.blt k 62 then (bif Nat.blt k 61 then cd60 else cd61) else (bif Nat.blt k 63 then cd62 else cd63))) else (bif Nat.blt k 67 then (bif Nat.blt k 65 then cd64 else (bif Nat.blt k 66 then cd65 else cd66)) else (bif Nat.blt k 69 then (bif Nat.blt k 68 then cd67 else cd68) else (bif Nat.blt k 70 then cd69 else cd70)))) else (bif Nat.blt k 78 then (bif Nat.blt k 74 then (bif Nat.blt k 72 then cd71 else (bif Nat.blt k 73 then cd72 else cd73)) else (bif Nat.blt k 76 then (bif Nat.blt k 75 then cd74 else cd75) else (bif Nat.blt k 77 then cd76 else cd77))) else (bif Nat.blt k 81 then (bif Nat.blt k 79 then cd78 else (bif Nat.blt k 80 then cd79 else cd80)) else (bif Nat.blt k 83 then (bif Nat.blt k 82 then cd81 else cd82) else (bif Nat.blt k 84 then cd83 else cd84))))) else (bif Nat.blt k 99 then (bif Nat.blt k 92 then (bif Nat.blt k 88 then (bif Nat.blt k 86 then cd85 else (bif Nat.blt k 87 then cd86 else cd87)) else (bif Nat.blt k 90 then (bif Nat.blt k 89 then cd88 else cd89) else (bif Nat.blt k 91 then cd90 else cd91))) else (bif Nat.blt k 95 then (bif Nat.blt k 93 then cd92 else (bif Nat.blt k 94 then cd93 else cd94)) else (bif Nat.blt k 97 then (bif Nat.blt k 96 then cd95 else cd96) else (bif Nat.blt k 98 then cd97 else cd98)))) else (bif Nat.blt k 106 then (bif Nat.blt k 102 then (bif Nat.blt k 100 then cd99 else (bif Nat.blt k 101 then cd100 else cd101)) else (bif Nat.blt k 104 then (bif Nat.blt k 103 then cd102 else cd103) else (bif Nat.blt k 105 then cd104 else cd105))) else (bif Nat.blt k 110 then (bif Nat.blt k 108 then (bif Nat.blt k 107 then cd106 else cd107) else (bif Nat.blt k 109 then cd108 else cd109)) else (bif Nat.blt k 112 then (bif Nat.blt k 111 then cd110 else cd111) else (bif Nat.blt k 113 then cd112 else cd113))))))) else (bif Nat.blt k 171 then (bif Nat.blt k 142 then (bif Nat.blt k 128 then (bif Nat.blt k 121 then (bif Nat.blt k 117 then (bif Nat.blt k 115 then cd114 else (bif Nat.blt k 116 then cd115 else cd116)) else (bif Nat.blt k 119 then (bif Nat.blt k 118 then cd117 else cd118) else (bif Nat.blt k 120 then cd119 else cd120))) else (bif Nat.blt k 124 then (bif Nat.blt k 122 then cd121 else (bif Nat.blt k 123 then cd122 else cd123)) else (bif Nat.blt k 126 then (bif Nat.blt k 125 then cd124 else cd125) else (bif Nat.blt k 127 then cd126 else cd127)))) else (bif Nat.blt k 135 then (bif Nat.blt k 131 then (bif Nat.blt k 129 then cd128 else (bif Nat.blt k 130 then cd129 else cd130)) else (bif Nat.blt k 133 then (bif Nat.blt k 132 then cd131 else cd132) else (bif Nat.blt k 134 then cd133 else cd134))) else (bif Nat.blt k 138 then (bif Nat.blt k 136 then cd135 else (bif Nat.blt k 137 then cd136 else cd137)) else (bif Nat.blt k 140 then (bif Nat.blt k 139 then cd138 else cd139) else (bif Nat.blt k 141 then cd140 else cd141))))) else (bif Nat.blt k 156 then (bif Nat.blt k 149 then (bif Nat.blt k 145 then (bif Nat.blt k 143 then cd142 else (bif Nat.blt k 144 then cd143 else cd144)) else (bif Nat.blt k 147 then (bif Nat.blt k 146 then cd145 else cd146) else (bif Nat.blt k 148 then cd147 else cd148))) else (bif Nat.blt k 152 then (bif Nat.blt k 150 then cd149 else (bif Nat.blt k 151 then cd150 else cd151)) else (bif Nat.blt k 154 then (bif Nat.blt k 153 then cd152 else cd153) else (bif Nat.blt k 155 then cd154 else cd155)))) else (bif Nat.blt k 163 then (bif Nat.blt k 159 then (bif Nat.blt k 157 then cd156 else (bif Nat.blt k 158 then cd157 else cd158)) else (bif Nat.blt k 161 then (bif Nat.blt k 160 then cd159 else cd160) else (bif Nat.blt k 162 then cd161 else cd162))) else (bif Nat.blt k 167 then (bif Nat.blt k 165 then (bif Nat.blt k 164 then cd163 else cd164) else (bif Nat.blt k 166 then cd165 else cd166)) else (bif Nat.blt k 169 then (bif Nat.blt k 168 then cd167 else cd168) else (bif Nat.blt k 170 then cd169 else cd170)))))) else (bif Nat.blt k 200 then (bif Nat.blt k 185 then (bif Nat.blt k 178 then (bif Nat.blt k 174 then (bif Nat.blt k 172 then cd171 else (bif Nat.blt k 173 then cd172 else cd173)) else (bif Nat.blt k 176 then (bif Nat.blt k 175 then cd174 else cd175) else (bif Nat.blt k 177 then cd176 else cd177))) else (bif Nat.blt k 181 then (bif Nat.blt k 179 then cd178 else (bif Nat.blt k 180 then cd179 else cd180)) else (bif Nat.blt k 183 then (bif Nat.blt k 182 then cd181 else cd182) else (bif Nat.blt k 184 then cd183 else cd184)))) else (bif Nat.blt k 192 then (bif Nat.blt k 188 then (bif Nat.blt k 186 then cd185 else (bif Nat.blt k 187 then cd186 else cd187)) else (bif Nat.blt k 190 then (bif Nat.blt k 189 then cd188 else cd189) else (bif Nat.blt k 191 then cd190 else cd191))) else (bif Nat.blt k 196 then (bif Nat.blt k 194 then (bif Nat.blt k 193 then cd192 else cd193) else (bif Nat.blt k 195 then cd194 else cd195)) else (bif Nat.blt k 198 then (bif Nat.blt k 197 then cd196 else cd197) else (bif Nat.blt k 199 then cd198 else cd199))))) else (bif Nat.blt k 214 then (bif Nat.blt k 207 then (bif Nat.blt k 203 then (bif Nat.blt k 201 then cd200 else (bif Nat.blt k 202 then cd201 else cd202)) else (bif Nat.blt k 205 then (bif Nat.blt k 204 then cd203 else cd204) else (bif Nat.blt k 206 then cd205 else cd206))) else (bif Nat.blt k 210 then (bif Nat.blt k 208 then cd207 else (bif Nat.blt k 209 then cd208 else cd209)) else (bif Nat.blt k 212 then (bif Nat.blt k 211 then cd210 else cd211) else (bif Nat.blt k 213 then cd212 else cd213)))) else (bif Nat.blt k 221 then (bif Nat.blt k 217 then (bif Nat.blt k 215 then cd214 else (bif Nat.blt k 216 then cd215 else cd216)) else (bif Nat.blt k 219 then (bif Nat.blt k 218 then cd217 else cd218) else (bif Nat.blt k 220 then cd219 else cd220))) else (bif Nat.blt k 225 then (bif Nat.blt k 223 then (bif Nat.blt k 222 then cd221 else cd222) else (bif Nat.blt k 224 then cd223 else cd224)) else (bif Nat.blt k 227 then (bif Nat.blt k 226 then cd225 else cd226) else (bif Nat.blt k 228 then cd227 else cd228))))))))
def mY : Nat → MethodName := fun k => (bif Nat.blt k 114 then (bif Nat.blt k 57 then (bif Nat.blt k 28 then (bif Nat.blt k 14 then (bif Nat.blt k 7 then (bif Nat.blt k 3 then (bif Nat.blt k 1 then yX0_startPost else (bif Nat.blt k 2 then yX0_startRider else yX0_freeRacks)) else (bif Nat.blt k 5 then (bif Nat.blt k 4 then yX0_settle else yX0_isAt) else (bif Nat.blt k 6 then yX0_hour else yX1_keep))) else (bif Nat.blt k 10 then (bif Nat.blt k 8 then yX1_countWith else (bif Nat.blt k 9 then yX2_add else yX2_changeBy)) else (bif Nat.blt k 12 then (bif Nat.blt k 11 then yX2_sumOf else yX3_add) else (bif Nat.blt k 13 then yX4_isLevel else yX4_pairOf)))) else (bif Nat.blt k 21 then (bif Nat.blt k 17 then (bif Nat.blt k 15 then yX5_spot else (bif Nat.blt k 16 then yX5_countWanting else yX5_gather)) else (bif Nat.blt k 19 then (bif Nat.blt k 18 then yX5_sumOfWants else yX6_stateBehindTerm) else (bif Nat.blt k 20 then yX6_addText else yX6_begin))) else (bif Nat.blt k 24 then (bif Nat.blt k 22 then yX6_readSum else (bif Nat.blt k 23 then yX6_act else yX7_addSite)) else (bif Nat.blt k 26 then (bif Nat.blt k 25 then yX7_addWish else yX8_isPost) else (bif Nat.blt k 27 then yX8_isBike else yX8_addPost))))) else (bif Nat.blt k 42 then (bif Nat.blt k 35 then (bif Nat.blt k 31 then (bif Nat.blt k 29 then yX8_addBike else (bif Nat.blt k 30 then yX8_addRider else yX8_bikesAhead)) else (bif Nat.blt k 33 then (bif Nat.blt k 32 then yX9_add else yX9_countFrom) else (bif Nat.blt k 34 then yX10_begin else yX10_addStop))) else (bif Nat.blt k 38 then (bif Nat.blt k 36 then yX10_dropFirstStop else (bif Nat.blt k 37 then yX10_put else yX10_takeFirst)) else (bif Nat.blt k 40 then (bif Nat.blt k 39 then yX11_hasBegun else yX11_isIn) else (bif Nat.blt k 41 then yX11_bit else yX11_hush)))) else (bif Nat.blt k 49 then (bif Nat.blt k 45 then (bif Nat.blt k 43 then yX11_van else (bif Nat.blt k 44 then yX11_count else yX11_digestAt)) else (bif Nat.blt k 47 then (bif Nat.blt k 46 then yX12_in else yX12_tells) else (bif Nat.blt k 48 then yX12_logs else yX12_isBegun))) else (bif Nat.blt k 53 then (bif Nat.blt k 51 then (bif Nat.blt k 50 then yX12_there else yX12_good) else (bif Nat.blt k 52 then yX12_hush else yX12_behind)) else (bif Nat.blt k 55 then (bif Nat.blt k 54 then yX12_symbol else yX12_joins) else (bif Nat.blt k 56 then yX12_turned else yX12_size)))))) else (bif Nat.blt k 85 then (bif Nat.blt k 71 then (bif Nat.blt k 64 then (bif Nat.blt k 60 then (bif Nat.blt k 58 then yX12_pick else (bif Nat.blt k 59 then yX12_van else yX12_answer)) else (bif Nat.blt k 62 then (bif Nat.blt k 61 then yX12_rows else yX12_count) else (bif Nat.blt k 63 then yJ6_bitCount_0f7a4 else yJ7_fill_53178))) else (bif Nat.blt k 67 then (bif Nat.blt k 65 then yX0_startBike else (bif Nat.blt k 66 then yX0_takesBikes else yX0_lift)) else (bif Nat.blt k 69 then (bif Nat.blt k 68 then yX0_bestBike else yX0_tellFaulty) else (bif Nat.blt k 70 then yX0_firstFaulty else yX0_setOpen)))) else (bif Nat.blt k 78 then (bif Nat.blt k 74 then (bif Nat.blt k 72 then yX0_tellPost else (bif Nat.blt k 73 then yX0_canBeDone else yX0_leaveBike)) else (bif Nat.blt k 76 then (bif Nat.blt k 75 then yX0_mendBikes else yX0_nameAll) else (bif Nat.blt k 77 then yX0_vanLeaves else yX0_lose))) else (bif Nat.blt k 81 then (bif Nat.blt k 79 then yX0_countEmpty else (bif Nat.blt k 80 then yX1_countLike else yX1_sumOfLike)) else (bif Nat.blt k 83 then (bif Nat.blt k 82 then yX2_beginMinute else yX2_countTaken) else (bif Nat.blt k 84 then yX2_changeTill else yX4_gainAt))))) else (bif Nat.blt k 99 then (bif Nat.blt k 92 then (bif Nat.blt k 88 then (bif Nat.blt k 86 then yX6_stateBehind else (bif Nat.blt k 87 then yX6_compare else yX6_newPrice)) else (bif Nat.blt k 90 then (bif Nat.blt k 89 then yX7_measure else yX8_minutesBetween) else (bif Nat.blt k 91 then yX9_leastScore else yX11_post))) else (bif Nat.blt k 95 then (bif Nat.blt k 93 then yX11_kind else (bif Nat.blt k 94 then yX11_rider else yX11_shop)) else (bif Nat.blt k 97 then (bif Nat.blt k 96 then yX11_say else yX11_off) else (bif Nat.blt k 98 then yX11_bikeAt else yX11_riderAt)))) else (bif Nat.blt k 106 then (bif Nat.blt k 102 then (bif Nat.blt k 100 then yX11_log else (bif Nat.blt k 101 then yX11_ends else yX11_sumOver)) else (bif Nat.blt k 104 then (bif Nat.blt k 103 then yX11_want else yX11_gain) else (bif Nat.blt k 105 then yX11_site else yX11_wish))) else (bif Nat.blt k 110 then (bif Nat.blt k 108 then (bif Nat.blt k 107 then yX11_test else yX12_begins) else (bif Nat.blt k 109 then yX12_isPost else yX12_isBike)) else (bif Nat.blt k 112 then (bif Nat.blt k 111 then yX12_post else yX12_free) else (bif Nat.blt k 113 then yX12_kind else yX12_shop))))))) else (bif Nat.blt k 171 then (bif Nat.blt k 142 then (bif Nat.blt k 128 then (bif Nat.blt k 121 then (bif Nat.blt k 117 then (bif Nat.blt k 115 then yX12_does else (bif Nat.blt k 116 then yX12_say else yX12_faultOf)) else (bif Nat.blt k 119 then (bif Nat.blt k 118 then yX12_off else yX12_wayOf) else (bif Nat.blt k 120 then yX12_loses else yX12_riderAt))) else (bif Nat.blt k 124 then (bif Nat.blt k 122 then yX12_log else (bif Nat.blt k 123 then yX12_isLevel else yX12_isStill)) else (bif Nat.blt k 126 then (bif Nat.blt k 125 then yX12_site else yX12_wish) else (bif Nat.blt k 127 then yX12_nearest else yX12_test)))) else (bif Nat.blt k 135 then (bif Nat.blt k 131 then (bif Nat.blt k 129 then yX12_line else (bif Nat.blt k 130 then yX0_doByHand else yX0_nearestThatTakes)) else (bif Nat.blt k 133 then (bif Nat.blt k 132 then yX0_sendToShop else yX0_vanTakes) else (bif Nat.blt k 134 then yX0_takeBike else yX2_clear))) else (bif Nat.blt k 138 then (bif Nat.blt k 136 then yX4_bestLevel else (bif Nat.blt k 137 then yX5_waysVia else yX5_waysOver)) else (bif Nat.blt k 140 then (bif Nat.blt k 139 then yX6_faultPlace else yX6_holds) else (bif Nat.blt k 141 then yX7_measureOpenPosts else yX7_sumFor))))) else (bif Nat.blt k 156 then (bif Nat.blt k 149 then (bif Nat.blt k 145 then (bif Nat.blt k 143 then yX11_bike else (bif Nat.blt k 144 then yX11_postAt else yX11_way)) else (bif Nat.blt k 147 then (bif Nat.blt k 146 then yX11_asOf else yX11_forecast) else (bif Nat.blt k 148 then yX11_line else yX11_digest))) else (bif Nat.blt k 152 then (bif Nat.blt k 150 then yX12_bike else (bif Nat.blt k 151 then yX12_rider else yX12_can)) else (bif Nat.blt k 154 then (bif Nat.blt k 153 then yX12_byHand else yX12_fault) else (bif Nat.blt k 155 then yX12_rule else yX12_sum)))) else (bif Nat.blt k 163 then (bif Nat.blt k 159 then (bif Nat.blt k 157 then yX12_rides else (bif Nat.blt k 158 then yX12_stops else yX12_comes)) else (bif Nat.blt k 161 then (bif Nat.blt k 160 then yX12_endDay else yX12_bikeAt) else (bif Nat.blt k 162 then yX12_postAt else yX12_way))) else (bif Nat.blt k 167 then (bif Nat.blt k 165 then (bif Nat.blt k 164 then yX12_asOf else yX12_ends) else (bif Nat.blt k 166 then yX12_forecast else yX12_want)) else (bif Nat.blt k 169 then (bif Nat.blt k 168 then yX12_roundWay else yX12_gain) else (bif Nat.blt k 170 then yX12_still else yX12_stillAt)))))) else (bif Nat.blt k 200 then (bif Nat.blt k 185 then (bif Nat.blt k 178 then (bif Nat.blt k 174 then (bif Nat.blt k 172 then yX12_answers else (bif Nat.blt k 173 then yX12_sites else yX0_begin)) else (bif Nat.blt k 176 then (bif Nat.blt k 175 then yX0_redo else yX0_endRide) else (bif Nat.blt k 177 then yX0_followRule else yX0_doStop))) else (bif Nat.blt k 181 then (bif Nat.blt k 179 then yX0_lookAtRider else (bif Nat.blt k 180 then yX4_isStill else yX4_turnsFrom)) else (bif Nat.blt k 183 then (bif Nat.blt k 182 then yX5_waysFrom else yX5_firstOfBest) else (bif Nat.blt k 184 then yX5_nextOfBest else yX7_bestSet)))) else (bif Nat.blt k 192 then (bif Nat.blt k 188 then (bif Nat.blt k 186 then yX11_byHand else (bif Nat.blt k 187 then yX11_fault else yX11_rule)) else (bif Nat.blt k 190 then (bif Nat.blt k 189 then yX12_handled else yX12_isSo) else (bif Nat.blt k 191 then yX12_acts else yX12_drives))) else (bif Nat.blt k 196 then (bif Nat.blt k 194 then (bif Nat.blt k 193 then yX12_rounds else yX12_digest) else (bif Nat.blt k 195 then yX0_endRides else yX0_followRules)) else (bif Nat.blt k 198 then (bif Nat.blt k 197 then yX0_driveVan else yX0_lookAtRiders) else (bif Nat.blt k 199 then yX4_countStill else yX4_stillPair))))) else (bif Nat.blt k 214 then (bif Nat.blt k 207 then (bif Nat.blt k 203 then (bif Nat.blt k 201 then yX5_leastWays else (bif Nat.blt k 202 then yX5_postOfOrder else yX11_price)) else (bif Nat.blt k 205 then (bif Nat.blt k 204 then yX11_open else yX11_faulty) else (bif Nat.blt k 206 then yX11_steal else yX11_find))) else (bif Nat.blt k 210 then (bif Nat.blt k 208 then yX11_stop else (bif Nat.blt k 209 then yX11_endDay else yX11_answers)) else (bif Nat.blt k 212 then (bif Nat.blt k 211 then yX11_sites else yX12_price) else (bif Nat.blt k 213 then yX12_open else yX12_faulty)))) else (bif Nat.blt k 221 then (bif Nat.blt k 217 then (bif Nat.blt k 215 then yX12_steal else (bif Nat.blt k 216 then yX12_find else yX12_stop)) else (bif Nat.blt k 219 then (bif Nat.blt k 218 then yX12_goes else yX12_round) else (bif Nat.blt k 220 then yX12_roundAt else yX0_passMinute))) else (bif Nat.blt k 225 then (bif Nat.blt k 223 then (bif Nat.blt k 222 then yX11_round else yX11_roundAt) else (bif Nat.blt k 224 then yX11_still else yX11_stillAt)) else (bif Nat.blt k 227 then (bif Nat.blt k 226 then yX12_step else yX12_whatIf) else (bif Nat.blt k 228 then yX11_step else yX11_whatIf))))))))
def mN : Nat → Nat := fun k => (bif Nat.blt k 114 then (bif Nat.blt k 57 then (bif Nat.blt k 28 then (bif Nat.blt k 14 then (bif Nat.blt k 7 then (bif Nat.blt k 3 then (bif Nat.blt k 1 then 2 else (bif Nat.blt k 2 then 2 else 2)) else (bif Nat.blt k 5 then (bif Nat.blt k 4 then 3 else 3) else (bif Nat.blt k 6 then 1 else 5))) else (bif Nat.blt k 10 then (bif Nat.blt k 8 then 4 else (bif Nat.blt k 9 then 6 else 1)) else (bif Nat.blt k 12 then (bif Nat.blt k 11 then 6 else 5) else (bif Nat.blt k 13 then 1 else 2)))) else (bif Nat.blt k 21 then (bif Nat.blt k 17 then (bif Nat.blt k 15 then 2 else (bif Nat.blt k 16 then 6 else 2)) else (bif Nat.blt k 19 then (bif Nat.blt k 18 then 4 else 1) else (bif Nat.blt k 20 then 2 else 3))) else (bif Nat.blt k 24 then (bif Nat.blt k 22 then 8 else (bif Nat.blt k 23 then 3 else 3)) else (bif Nat.blt k 26 then (bif Nat.blt k 25 then 4 else 2) else (bif Nat.blt k 27 then 2 else 4))))) else (bif Nat.blt k 42 then (bif Nat.blt k 35 then (bif Nat.blt k 31 then (bif Nat.blt k 29 then 2 else (bif Nat.blt k 30 then 5 else 4)) else (bif Nat.blt k 33 then (bif Nat.blt k 32 then 3 else 5) else (bif Nat.blt k 34 then 1 else 3))) else (bif Nat.blt k 38 then (bif Nat.blt k 36 then 2 else (bif Nat.blt k 37 then 2 else 3)) else (bif Nat.blt k 40 then (bif Nat.blt k 39 then 1 else 3) else (bif Nat.blt k 41 then 1 else 2)))) else (bif Nat.blt k 49 then (bif Nat.blt k 45 then (bif Nat.blt k 43 then 2 else (bif Nat.blt k 44 then 2 else 7)) else (bif Nat.blt k 47 then (bif Nat.blt k 46 then 3 else 2) else (bif Nat.blt k 48 then 6 else 1))) else (bif Nat.blt k 53 then (bif Nat.blt k 51 then (bif Nat.blt k 50 then 4 else 4) else (bif Nat.blt k 52 then 2 else 2)) else (bif Nat.blt k 55 then (bif Nat.blt k 54 then 2 else 3) else (bif Nat.blt k 56 then 4 else 1)))))) else (bif Nat.blt k 85 then (bif Nat.blt k 71 then (bif Nat.blt k 64 then (bif Nat.blt k 60 then (bif Nat.blt k 58 then 5 else (bif Nat.blt k 59 then 2 else 9)) else (bif Nat.blt k 62 then (bif Nat.blt k 61 then 5 else 2) else (bif Nat.blt k 63 then 1 else 4))) else (bif Nat.blt k 67 then (bif Nat.blt k 65 then 2 else (bif Nat.blt k 66 then 2 else 4)) else (bif Nat.blt k 69 then (bif Nat.blt k 68 then 4 else 3) else (bif Nat.blt k 70 then 3 else 3)))) else (bif Nat.blt k 78 then (bif Nat.blt k 74 then (bif Nat.blt k 72 then 3 else (bif Nat.blt k 73 then 4 else 4)) else (bif Nat.blt k 76 then (bif Nat.blt k 75 then 3 else 2) else (bif Nat.blt k 77 then 3 else 4))) else (bif Nat.blt k 81 then (bif Nat.blt k 79 then 2 else (bif Nat.blt k 80 then 3 else 7)) else (bif Nat.blt k 83 then (bif Nat.blt k 82 then 1 else 4) else (bif Nat.blt k 84 then 5 else 5))))) else (bif Nat.blt k 99 then (bif Nat.blt k 92 then (bif Nat.blt k 88 then (bif Nat.blt k 86 then 4 else (bif Nat.blt k 87 then 7 else 4)) else (bif Nat.blt k 90 then (bif Nat.blt k 89 then 4 else 3) else (bif Nat.blt k 91 then 4 else 5))) else (bif Nat.blt k 95 then (bif Nat.blt k 93 then 4 else (bif Nat.blt k 94 then 6 else 3)) else (bif Nat.blt k 97 then (bif Nat.blt k 96 then 2 else 3) else (bif Nat.blt k 98 then 3 else 3)))) else (bif Nat.blt k 106 then (bif Nat.blt k 102 then (bif Nat.blt k 100 then 3 else (bif Nat.blt k 101 then 6 else 4)) else (bif Nat.blt k 104 then (bif Nat.blt k 103 then 4 else 6) else (bif Nat.blt k 105 then 3 else 4))) else (bif Nat.blt k 110 then (bif Nat.blt k 108 then (bif Nat.blt k 107 then 3 else 2) else (bif Nat.blt k 109 then 2 else 2)) else (bif Nat.blt k 112 then (bif Nat.blt k 111 then 4 else 2) else (bif Nat.blt k 113 then 4 else 3))))))) else (bif Nat.blt k 171 then (bif Nat.blt k 142 then (bif Nat.blt k 128 then (bif Nat.blt k 121 then (bif Nat.blt k 117 then (bif Nat.blt k 115 then 4 else (bif Nat.blt k 116 then 2 else 9)) else (bif Nat.blt k 119 then (bif Nat.blt k 118 then 3 else 3) else (bif Nat.blt k 120 then 4 else 3))) else (bif Nat.blt k 124 then (bif Nat.blt k 122 then 3 else (bif Nat.blt k 123 then 1 else 3)) else (bif Nat.blt k 126 then (bif Nat.blt k 125 then 3 else 4) else (bif Nat.blt k 127 then 6 else 3)))) else (bif Nat.blt k 135 then (bif Nat.blt k 131 then (bif Nat.blt k 129 then 4 else (bif Nat.blt k 130 then 4 else 6)) else (bif Nat.blt k 133 then (bif Nat.blt k 132 then 2 else 3) else (bif Nat.blt k 134 then 5 else 2))) else (bif Nat.blt k 138 then (bif Nat.blt k 136 then 7 else (bif Nat.blt k 137 then 5 else 5)) else (bif Nat.blt k 140 then (bif Nat.blt k 139 then 6 else 10) else (bif Nat.blt k 141 then 5 else 6))))) else (bif Nat.blt k 156 then (bif Nat.blt k 149 then (bif Nat.blt k 145 then (bif Nat.blt k 143 then 3 else (bif Nat.blt k 144 then 3 else 3)) else (bif Nat.blt k 147 then (bif Nat.blt k 146 then 3 else 5) else (bif Nat.blt k 148 then 4 else 5))) else (bif Nat.blt k 152 then (bif Nat.blt k 150 then 2 else (bif Nat.blt k 151 then 5 else 4)) else (bif Nat.blt k 154 then (bif Nat.blt k 153 then 4 else 1) else (bif Nat.blt k 155 then 2 else 8)))) else (bif Nat.blt k 163 then (bif Nat.blt k 159 then (bif Nat.blt k 157 then 8 else (bif Nat.blt k 158 then 6 else 7)) else (bif Nat.blt k 161 then (bif Nat.blt k 160 then 3 else 4) else (bif Nat.blt k 162 then 5 else 3))) else (bif Nat.blt k 167 then (bif Nat.blt k 165 then (bif Nat.blt k 164 then 8 else 7) else (bif Nat.blt k 166 then 9 else 4)) else (bif Nat.blt k 169 then (bif Nat.blt k 168 then 3 else 7) else (bif Nat.blt k 170 then 3 else 4)))))) else (bif Nat.blt k 200 then (bif Nat.blt k 185 then (bif Nat.blt k 178 then (bif Nat.blt k 174 then (bif Nat.blt k 172 then 9 else (bif Nat.blt k 173 then 9 else 3)) else (bif Nat.blt k 176 then (bif Nat.blt k 175 then 7 else 5) else (bif Nat.blt k 177 then 3 else 4))) else (bif Nat.blt k 181 then (bif Nat.blt k 179 then 7 else (bif Nat.blt k 180 then 3 else 10)) else (bif Nat.blt k 183 then (bif Nat.blt k 182 then 7 else 7) else (bif Nat.blt k 184 then 5 else 6)))) else (bif Nat.blt k 192 then (bif Nat.blt k 188 then (bif Nat.blt k 186 then 4 else (bif Nat.blt k 187 then 1 else 1)) else (bif Nat.blt k 190 then (bif Nat.blt k 189 then 4 else 9) else (bif Nat.blt k 191 then 5 else 1))) else (bif Nat.blt k 196 then (bif Nat.blt k 194 then (bif Nat.blt k 193 then 9 else 5) else (bif Nat.blt k 195 then 2 else 4)) else (bif Nat.blt k 198 then (bif Nat.blt k 197 then 2 else 3) else (bif Nat.blt k 199 then 3 else 6))))) else (bif Nat.blt k 214 then (bif Nat.blt k 207 then (bif Nat.blt k 203 then (bif Nat.blt k 201 then 6 else (bif Nat.blt k 202 then 8 else 5)) else (bif Nat.blt k 205 then (bif Nat.blt k 204 then 3 else 2) else (bif Nat.blt k 206 then 2 else 3))) else (bif Nat.blt k 210 then (bif Nat.blt k 208 then 4 else (bif Nat.blt k 209 then 2 else 3)) else (bif Nat.blt k 212 then (bif Nat.blt k 211 then 4 else 5) else (bif Nat.blt k 213 then 3 else 2)))) else (bif Nat.blt k 221 then (bif Nat.blt k 217 then (bif Nat.blt k 215 then 2 else (bif Nat.blt k 216 then 3 else 4)) else (bif Nat.blt k 219 then (bif Nat.blt k 218 then 5 else 1) else (bif Nat.blt k 220 then 3 else 1))) else (bif Nat.blt k 225 then (bif Nat.blt k 223 then (bif Nat.blt k 222 then 1 else 2) else (bif Nat.blt k 224 then 1 else 2)) else (bif Nat.blt k 227 then (bif Nat.blt k 226 then 3 else 10) else (bif Nat.blt k 228 then 4 else 5))))))))
def mR : Nat → Option FieldType := fun k => (bif Nat.blt k 114 then (bif Nat.blt k 57 then (bif Nat.blt k 28 then (bif Nat.blt k 14 then (bif Nat.blt k 7 then (bif Nat.blt k 3 then (bif Nat.blt k 1 then (none) else (bif Nat.blt k 2 then (none) else (some .int))) else (bif Nat.blt k 5 then (bif Nat.blt k 4 then (none) else (some .boolean)) else (bif Nat.blt k 6 then (some .int) else (none)))) else (bif Nat.blt k 10 then (bif Nat.blt k 8 then (some .int) else (bif Nat.blt k 9 then (none) else (some .int))) else (bif Nat.blt k 12 then (bif Nat.blt k 11 then (some .int) else (none)) else (bif Nat.blt k 13 then (some .boolean) else (some .int))))) else (bif Nat.blt k 21 then (bif Nat.blt k 17 then (bif Nat.blt k 15 then (some .int) else (bif Nat.blt k 16 then (some .int) else (none))) else (bif Nat.blt k 19 then (bif Nat.blt k 18 then (some .int) else (some .int)) else (bif Nat.blt k 20 then (some .int) else (none)))) else (bif Nat.blt k 24 then (bif Nat.blt k 22 then (some .int) else (bif Nat.blt k 23 then (some .int) else (some .int))) else (bif Nat.blt k 26 then (bif Nat.blt k 25 then (some .int) else (some .boolean)) else (bif Nat.blt k 27 then (some .boolean) else (some .int)))))) else (bif Nat.blt k 42 then (bif Nat.blt k 35 then (bif Nat.blt k 31 then (bif Nat.blt k 29 then (some .int) else (bif Nat.blt k 30 then (some .int) else (some .int))) else (bif Nat.blt k 33 then (bif Nat.blt k 32 then (some .int) else (some .int)) else (bif Nat.blt k 34 then (none) else (none)))) else (bif Nat.blt k 38 then (bif Nat.blt k 36 then (none) else (bif Nat.blt k 37 then (none) else (some .int))) else (bif Nat.blt k 40 then (bif Nat.blt k 39 then (some .boolean) else (some .boolean)) else (bif Nat.blt k 41 then (some .int) else (some .int))))) else (bif Nat.blt k 49 then (bif Nat.blt k 45 then (bif Nat.blt k 43 then (some .int) else (bif Nat.blt k 44 then (some .int) else (some .long))) else (bif Nat.blt k 47 then (bif Nat.blt k 46 then (some .boolean) else (none)) else (bif Nat.blt k 48 then (none) else (some .boolean)))) else (bif Nat.blt k 53 then (bif Nat.blt k 51 then (bif Nat.blt k 50 then (some .int) else (some .int)) else (bif Nat.blt k 52 then (some .int) else (some .int))) else (bif Nat.blt k 55 then (bif Nat.blt k 54 then (some .int) else (some .int)) else (bif Nat.blt k 56 then (some .int) else (some .int))))))) else (bif Nat.blt k 85 then (bif Nat.blt k 71 then (bif Nat.blt k 64 then (bif Nat.blt k 60 then (bif Nat.blt k 58 then (some .int) else (bif Nat.blt k 59 then (some .int) else (some .int))) else (bif Nat.blt k 62 then (bif Nat.blt k 61 then (some .int) else (some .int)) else (bif Nat.blt k 63 then (some .int) else (none)))) else (bif Nat.blt k 67 then (bif Nat.blt k 65 then (none) else (bif Nat.blt k 66 then (some .boolean) else (none))) else (bif Nat.blt k 69 then (bif Nat.blt k 68 then (some .int) else (none)) else (bif Nat.blt k 70 then (some .int) else (none))))) else (bif Nat.blt k 78 then (bif Nat.blt k 74 then (bif Nat.blt k 72 then (some .int) else (bif Nat.blt k 73 then (some .boolean) else (none))) else (bif Nat.blt k 76 then (bif Nat.blt k 75 then (none) else (none)) else (bif Nat.blt k 77 then (none) else (none)))) else (bif Nat.blt k 81 then (bif Nat.blt k 79 then (none) else (bif Nat.blt k 80 then (some .int) else (some .int))) else (bif Nat.blt k 83 then (bif Nat.blt k 82 then (none) else (none)) else (bif Nat.blt k 84 then (some .int) else (some .int)))))) else (bif Nat.blt k 99 then (bif Nat.blt k 92 then (bif Nat.blt k 88 then (bif Nat.blt k 86 then (some .int) else (bif Nat.blt k 87 then (some .boolean) else (some .int))) else (bif Nat.blt k 90 then (bif Nat.blt k 89 then (some .int) else (some .int)) else (bif Nat.blt k 91 then (some .int) else (some .int)))) else (bif Nat.blt k 95 then (bif Nat.blt k 93 then (some .int) else (bif Nat.blt k 94 then (some .int) else (some .int))) else (bif Nat.blt k 97 then (bif Nat.blt k 96 then (some .int) else (some .int)) else (bif Nat.blt k 98 then (some .int) else (some .int))))) else (bif Nat.blt k 106 then (bif Nat.blt k 102 then (bif Nat.blt k 100 then (some .int) else (bif Nat.blt k 101 then (some .int) else (some .int))) else (bif Nat.blt k 104 then (bif Nat.blt k 103 then (some .int) else (some .int)) else (bif Nat.blt k 105 then (some .int) else (some .int)))) else (bif Nat.blt k 110 then (bif Nat.blt k 108 then (bif Nat.blt k 107 then (some .int) else (none)) else (bif Nat.blt k 109 then (some .boolean) else (some .boolean))) else (bif Nat.blt k 112 then (bif Nat.blt k 111 then (some .int) else (some .int)) else (bif Nat.blt k 113 then (some .int) else (some .int)))))))) else (bif Nat.blt k 171 then (bif Nat.blt k 142 then (bif Nat.blt k 128 then (bif Nat.blt k 121 then (bif Nat.blt k 117 then (bif Nat.blt k 115 then (none) else (bif Nat.blt k 116 then (some .int) else (some .int))) else (bif Nat.blt k 119 then (bif Nat.blt k 118 then (some .int) else (some .int)) else (bif Nat.blt k 120 then (none) else (some .int)))) else (bif Nat.blt k 124 then (bif Nat.blt k 122 then (some .int) else (bif Nat.blt k 123 then (some .boolean) else (some .boolean))) else (bif Nat.blt k 126 then (bif Nat.blt k 125 then (some .int) else (some .int)) else (bif Nat.blt k 127 then (some .int) else (some .int))))) else (bif Nat.blt k 135 then (bif Nat.blt k 131 then (bif Nat.blt k 129 then (some .int) else (bif Nat.blt k 130 then (none) else (some .int))) else (bif Nat.blt k 133 then (bif Nat.blt k 132 then (none) else (none)) else (bif Nat.blt k 134 then (none) else (none)))) else (bif Nat.blt k 138 then (bif Nat.blt k 136 then (some .int) else (bif Nat.blt k 137 then (some .int) else (some .int))) else (bif Nat.blt k 140 then (bif Nat.blt k 139 then (some .int) else (some .boolean)) else (bif Nat.blt k 141 then (none) else (some .int)))))) else (bif Nat.blt k 156 then (bif Nat.blt k 149 then (bif Nat.blt k 145 then (bif Nat.blt k 143 then (some .int) else (bif Nat.blt k 144 then (some .int) else (some .int))) else (bif Nat.blt k 147 then (bif Nat.blt k 146 then (some .int) else (some .int)) else (bif Nat.blt k 148 then (some .int) else (some .long)))) else (bif Nat.blt k 152 then (bif Nat.blt k 150 then (some .int) else (bif Nat.blt k 151 then (some .int) else (some .boolean))) else (bif Nat.blt k 154 then (bif Nat.blt k 153 then (none) else (some .int)) else (bif Nat.blt k 155 then (some .int) else (some .int))))) else (bif Nat.blt k 163 then (bif Nat.blt k 159 then (bif Nat.blt k 157 then (none) else (bif Nat.blt k 158 then (none) else (none))) else (bif Nat.blt k 161 then (bif Nat.blt k 160 then (some .int) else (some .int)) else (bif Nat.blt k 162 then (some .int) else (some .int)))) else (bif Nat.blt k 167 then (bif Nat.blt k 165 then (bif Nat.blt k 164 then (some .int) else (some .int)) else (bif Nat.blt k 166 then (some .int) else (some .int))) else (bif Nat.blt k 169 then (bif Nat.blt k 168 then (some .int) else (some .int)) else (bif Nat.blt k 170 then (some .int) else (some .int))))))) else (bif Nat.blt k 200 then (bif Nat.blt k 185 then (bif Nat.blt k 178 then (bif Nat.blt k 174 then (bif Nat.blt k 172 then (some .int) else (bif Nat.blt k 173 then (some .int) else (none))) else (bif Nat.blt k 176 then (bif Nat.blt k 175 then (some .int) else (none)) else (bif Nat.blt k 177 then (none) else (none)))) else (bif Nat.blt k 181 then (bif Nat.blt k 179 then (none) else (bif Nat.blt k 180 then (some .boolean) else (some .int))) else (bif Nat.blt k 183 then (bif Nat.blt k 182 then (some .int) else (some .int)) else (bif Nat.blt k 184 then (some .int) else (some .int))))) else (bif Nat.blt k 192 then (bif Nat.blt k 188 then (bif Nat.blt k 186 then (some .int) else (bif Nat.blt k 187 then (some .int) else (some .int))) else (bif Nat.blt k 190 then (bif Nat.blt k 189 then (some .int) else (some .boolean)) else (bif Nat.blt k 191 then (none) else (none)))) else (bif Nat.blt k 196 then (bif Nat.blt k 194 then (bif Nat.blt k 193 then (some .int) else (some .long)) else (bif Nat.blt k 195 then (none) else (none))) else (bif Nat.blt k 198 then (bif Nat.blt k 197 then (none) else (none)) else (bif Nat.blt k 199 then (some .int) else (some .int)))))) else (bif Nat.blt k 214 then (bif Nat.blt k 207 then (bif Nat.blt k 203 then (bif Nat.blt k 201 then (some .int) else (bif Nat.blt k 202 then (some .int) else (some .int))) else (bif Nat.blt k 205 then (bif Nat.blt k 204 then (some .int) else (some .int)) else (bif Nat.blt k 206 then (some .int) else (some .int)))) else (bif Nat.blt k 210 then (bif Nat.blt k 208 then (some .int) else (bif Nat.blt k 209 then (some .int) else (some .int))) else (bif Nat.blt k 212 then (bif Nat.blt k 211 then (some .int) else (some .int)) else (bif Nat.blt k 213 then (some .int) else (some .int))))) else (bif Nat.blt k 221 then (bif Nat.blt k 217 then (bif Nat.blt k 215 then (some .int) else (bif Nat.blt k 216 then (some .int) else (some .int))) else (bif Nat.blt k 219 then (bif Nat.blt k 218 then (none) else (some .int)) else (bif Nat.blt k 220 then (some .int) else (none)))) else (bif Nat.blt k 225 then (bif Nat.blt k 223 then (bif Nat.blt k 222 then (some .int) else (some .int)) else (bif Nat.blt k 224 then (some .int) else (some .int))) else (bif Nat.blt k 227 then (bif Nat.blt k 226 then (some .int) else (some .int)) else (bif Nat.blt k 228 then (some .int) else (some .int)))))))))
def mS : Nat → Bool := fun k => (bif Nat.blt k 114 then (bif Nat.blt k 57 then (bif Nat.blt k 28 then (bif Nat.blt k 14 then (bif Nat.blt k 7 then (bif Nat.blt k 3 then (bif Nat.blt k 1 then false else (bif Nat.blt k 2 then false else false)) else (bif Nat.blt k 5 then (bif Nat.blt k 4 then false else false) else (bif Nat.blt k 6 then false else false))) else (bif Nat.blt k 10 then (bif Nat.blt k 8 then false else (bif Nat.blt k 9 then false else true)) else (bif Nat.blt k 12 then (bif Nat.blt k 11 then true else false) else (bif Nat.blt k 13 then true else true)))) else (bif Nat.blt k 21 then (bif Nat.blt k 17 then (bif Nat.blt k 15 then true else (bif Nat.blt k 16 then false else false)) else (bif Nat.blt k 19 then (bif Nat.blt k 18 then false else true) else (bif Nat.blt k 20 then false else false))) else (bif Nat.blt k 24 then (bif Nat.blt k 22 then false else (bif Nat.blt k 23 then false else false)) else (bif Nat.blt k 26 then (bif Nat.blt k 25 then false else false) else (bif Nat.blt k 27 then false else false))))) else (bif Nat.blt k 42 then (bif Nat.blt k 35 then (bif Nat.blt k 31 then (bif Nat.blt k 29 then false else (bif Nat.blt k 30 then false else false)) else (bif Nat.blt k 33 then (bif Nat.blt k 32 then false else false) else (bif Nat.blt k 34 then false else false))) else (bif Nat.blt k 38 then (bif Nat.blt k 36 then false else (bif Nat.blt k 37 then false else false)) else (bif Nat.blt k 40 then (bif Nat.blt k 39 then false else true) else (bif Nat.blt k 41 then true else false)))) else (bif Nat.blt k 49 then (bif Nat.blt k 45 then (bif Nat.blt k 43 then false else (bif Nat.blt k 44 then false else true)) else (bif Nat.blt k 47 then (bif Nat.blt k 46 then true else false) else (bif Nat.blt k 48 then false else false))) else (bif Nat.blt k 53 then (bif Nat.blt k 51 then (bif Nat.blt k 50 then false else false) else (bif Nat.blt k 52 then false else true)) else (bif Nat.blt k 55 then (bif Nat.blt k 54 then false else true) else (bif Nat.blt k 56 then false else true)))))) else (bif Nat.blt k 85 then (bif Nat.blt k 71 then (bif Nat.blt k 64 then (bif Nat.blt k 60 then (bif Nat.blt k 58 then false else (bif Nat.blt k 59 then false else false)) else (bif Nat.blt k 62 then (bif Nat.blt k 61 then false else false) else (bif Nat.blt k 63 then true else true))) else (bif Nat.blt k 67 then (bif Nat.blt k 65 then false else (bif Nat.blt k 66 then false else false)) else (bif Nat.blt k 69 then (bif Nat.blt k 68 then false else false) else (bif Nat.blt k 70 then false else false)))) else (bif Nat.blt k 78 then (bif Nat.blt k 74 then (bif Nat.blt k 72 then false else (bif Nat.blt k 73 then false else false)) else (bif Nat.blt k 76 then (bif Nat.blt k 75 then false else false) else (bif Nat.blt k 77 then false else false))) else (bif Nat.blt k 81 then (bif Nat.blt k 79 then false else (bif Nat.blt k 80 then false else false)) else (bif Nat.blt k 83 then (bif Nat.blt k 82 then false else false) else (bif Nat.blt k 84 then false else false))))) else (bif Nat.blt k 99 then (bif Nat.blt k 92 then (bif Nat.blt k 88 then (bif Nat.blt k 86 then true else (bif Nat.blt k 87 then false else false)) else (bif Nat.blt k 90 then (bif Nat.blt k 89 then false else false) else (bif Nat.blt k 91 then false else false))) else (bif Nat.blt k 95 then (bif Nat.blt k 93 then false else (bif Nat.blt k 94 then false else false)) else (bif Nat.blt k 97 then (bif Nat.blt k 96 then false else false) else (bif Nat.blt k 98 then false else false)))) else (bif Nat.blt k 106 then (bif Nat.blt k 102 then (bif Nat.blt k 100 then false else (bif Nat.blt k 101 then false else false)) else (bif Nat.blt k 104 then (bif Nat.blt k 103 then false else false) else (bif Nat.blt k 105 then false else false))) else (bif Nat.blt k 110 then (bif Nat.blt k 108 then (bif Nat.blt k 107 then false else false) else (bif Nat.blt k 109 then false else false)) else (bif Nat.blt k 112 then (bif Nat.blt k 111 then false else false) else (bif Nat.blt k 113 then false else false))))))) else (bif Nat.blt k 171 then (bif Nat.blt k 142 then (bif Nat.blt k 128 then (bif Nat.blt k 121 then (bif Nat.blt k 117 then (bif Nat.blt k 115 then false else (bif Nat.blt k 116 then false else false)) else (bif Nat.blt k 119 then (bif Nat.blt k 118 then false else false) else (bif Nat.blt k 120 then false else false))) else (bif Nat.blt k 124 then (bif Nat.blt k 122 then false else (bif Nat.blt k 123 then true else false)) else (bif Nat.blt k 126 then (bif Nat.blt k 125 then false else false) else (bif Nat.blt k 127 then false else false)))) else (bif Nat.blt k 135 then (bif Nat.blt k 131 then (bif Nat.blt k 129 then false else (bif Nat.blt k 130 then false else false)) else (bif Nat.blt k 133 then (bif Nat.blt k 132 then false else false) else (bif Nat.blt k 134 then false else false))) else (bif Nat.blt k 138 then (bif Nat.blt k 136 then false else (bif Nat.blt k 137 then false else false)) else (bif Nat.blt k 140 then (bif Nat.blt k 139 then false else false) else (bif Nat.blt k 141 then false else false))))) else (bif Nat.blt k 156 then (bif Nat.blt k 149 then (bif Nat.blt k 145 then (bif Nat.blt k 143 then false else (bif Nat.blt k 144 then false else false)) else (bif Nat.blt k 147 then (bif Nat.blt k 146 then false else false) else (bif Nat.blt k 148 then false else false))) else (bif Nat.blt k 152 then (bif Nat.blt k 150 then false else (bif Nat.blt k 151 then false else false)) else (bif Nat.blt k 154 then (bif Nat.blt k 153 then false else false) else (bif Nat.blt k 155 then false else false)))) else (bif Nat.blt k 163 then (bif Nat.blt k 159 then (bif Nat.blt k 157 then false else (bif Nat.blt k 158 then false else false)) else (bif Nat.blt k 161 then (bif Nat.blt k 160 then false else false) else (bif Nat.blt k 162 then false else false))) else (bif Nat.blt k 167 then (bif Nat.blt k 165 then (bif Nat.blt k 164 then false else false) else (bif Nat.blt k 166 then false else false)) else (bif Nat.blt k 169 then (bif Nat.blt k 168 then false else false) else (bif Nat.blt k 170 then false else false)))))) else (bif Nat.blt k 200 then (bif Nat.blt k 185 then (bif Nat.blt k 178 then (bif Nat.blt k 174 then (bif Nat.blt k 172 then false else (bif Nat.blt k 173 then false else false)) else (bif Nat.blt k 176 then (bif Nat.blt k 175 then false else false) else (bif Nat.blt k 177 then false else false))) else (bif Nat.blt k 181 then (bif Nat.blt k 179 then false else (bif Nat.blt k 180 then false else false)) else (bif Nat.blt k 183 then (bif Nat.blt k 182 then false else false) else (bif Nat.blt k 184 then false else false)))) else (bif Nat.blt k 192 then (bif Nat.blt k 188 then (bif Nat.blt k 186 then false else (bif Nat.blt k 187 then false else false)) else (bif Nat.blt k 190 then (bif Nat.blt k 189 then false else false) else (bif Nat.blt k 191 then false else false))) else (bif Nat.blt k 196 then (bif Nat.blt k 194 then (bif Nat.blt k 193 then false else false) else (bif Nat.blt k 195 then false else false)) else (bif Nat.blt k 198 then (bif Nat.blt k 197 then false else false) else (bif Nat.blt k 199 then false else false))))) else (bif Nat.blt k 214 then (bif Nat.blt k 207 then (bif Nat.blt k 203 then (bif Nat.blt k 201 then false else (bif Nat.blt k 202 then false else false)) else (bif Nat.blt k 205 then (bif Nat.blt k 204 then false else false) else (bif Nat.blt k 206 then false else false))) else (bif Nat.blt k 210 then (bif Nat.blt k 208 then false else (bif Nat.blt k 209 then false else false)) else (bif Nat.blt k 212 then (bif Nat.blt k 211 then false else false) else (bif Nat.blt k 213 then false else false)))) else (bif Nat.blt k 221 then (bif Nat.blt k 217 then (bif Nat.blt k 215 then false else (bif Nat.blt k 216 then false else false)) else (bif Nat.blt k 219 then (bif Nat.blt k 218 then false else false) else (bif Nat.blt k 220 then false else false))) else (bif Nat.blt k 225 then (bif Nat.blt k 223 then (bif Nat.blt k 222 then false else false) else (bif Nat.blt k 224 then false else false)) else (bif Nat.blt k 227 then (bif Nat.blt k 226 then false else false) else (bif Nat.blt k 228 then false else false))))))))
def mP : Nat → Nat := fun k => (bif Nat.blt k 114 then (bif Nat.blt k 57 then (bif Nat.blt k 28 then (bif Nat.blt k 14 then (bif Nat.blt k 7 then (bif Nat.blt k 3 then (bif Nat.blt k 1 then 1 else (bif Nat.blt k 2 then 1 else 1)) else (bif Nat.blt k 5 then (bif Nat.blt k 4 then 2 else 2) else (bif Nat.blt k 6 then 0 else 2))) else (bif Nat.blt k 10 then (bif Nat.blt k 8 then 1 else (bif Nat.blt k 9 then 5 else 1)) else (bif Nat.blt k 12 then (bif Nat.blt k 11 then 1 else 4) else (bif Nat.blt k 13 then 1 else 2)))) else (bif Nat.blt k 21 then (bif Nat.blt k 17 then (bif Nat.blt k 15 then 2 else (bif Nat.blt k 16 then 0 else 0)) else (bif Nat.blt k 19 then (bif Nat.blt k 18 then 1 else 1) else (bif Nat.blt k 20 then 0 else 2))) else (bif Nat.blt k 24 then (bif Nat.blt k 22 then 3 else (bif Nat.blt k 23 then 1 else 2)) else (bif Nat.blt k 26 then (bif Nat.blt k 25 then 3 else 1) else (bif Nat.blt k 27 then 1 else 3))))) else (bif Nat.blt k 42 then (bif Nat.blt k 35 then (bif Nat.blt k 31 then (bif Nat.blt k 29 then 1 else (bif Nat.blt k 30 then 4 else 1)) else (bif Nat.blt k 33 then (bif Nat.blt k 32 then 2 else 2) else (bif Nat.blt k 34 then 0 else 2))) else (bif Nat.blt k 38 then (bif Nat.blt k 36 then 0 else (bif Nat.blt k 37 then 1 else 0)) else (bif Nat.blt k 40 then (bif Nat.blt k 39 then 0 else 3) else (bif Nat.blt k 41 then 1 else 0)))) else (bif Nat.blt k 49 then (bif Nat.blt k 45 then (bif Nat.blt k 43 then 1 else (bif Nat.blt k 44 then 1 else 3)) else (bif Nat.blt k 47 then (bif Nat.blt k 46 then 3 else 1) else (bif Nat.blt k 48 then 4 else 0))) else (bif Nat.blt k 53 then (bif Nat.blt k 51 then (bif Nat.blt k 50 then 1 else 1) else (bif Nat.blt k 52 then 0 else 2)) else (bif Nat.blt k 55 then (bif Nat.blt k 54 then 1 else 3) else (bif Nat.blt k 56 then 2 else 1)))))) else (bif Nat.blt k 85 then (bif Nat.blt k 71 then (bif Nat.blt k 64 then (bif Nat.blt k 60 then (bif Nat.blt k 58 then 1 else (bif Nat.blt k 59 then 1 else 3)) else (bif Nat.blt k 62 then (bif Nat.blt k 61 then 2 else 1) else (bif Nat.blt k 63 then 1 else 2))) else (bif Nat.blt k 67 then (bif Nat.blt k 65 then 1 else (bif Nat.blt k 66 then 1 else 2)) else (bif Nat.blt k 69 then (bif Nat.blt k 68 then 1 else 1) else (bif Nat.blt k 70 then 1 else 2)))) else (bif Nat.blt k 78 then (bif Nat.blt k 74 then (bif Nat.blt k 72 then 2 else (bif Nat.blt k 73 then 3 else 3)) else (bif Nat.blt k 76 then (bif Nat.blt k 75 then 0 else 1) else (bif Nat.blt k 77 then 1 else 3))) else (bif Nat.blt k 81 then (bif Nat.blt k 79 then 0 else (bif Nat.blt k 80 then 1 else 3)) else (bif Nat.blt k 83 then (bif Nat.blt k 82 then 0 else 3) else (bif Nat.blt k 84 then 2 else 4))))) else (bif Nat.blt k 99 then (bif Nat.blt k 92 then (bif Nat.blt k 88 then (bif Nat.blt k 86 then 2 else (bif Nat.blt k 87 then 3 else 2)) else (bif Nat.blt k 90 then (bif Nat.blt k 89 then 3 else 2) else (bif Nat.blt k 91 then 1 else 3))) else (bif Nat.blt k 95 then (bif Nat.blt k 93 then 3 else (bif Nat.blt k 94 then 4 else 2)) else (bif Nat.blt k 97 then (bif Nat.blt k 96 then 1 else 2) else (bif Nat.blt k 98 then 2 else 2)))) else (bif Nat.blt k 106 then (bif Nat.blt k 102 then (bif Nat.blt k 100 then 2 else (bif Nat.blt k 101 then 3 else 1)) else (bif Nat.blt k 104 then (bif Nat.blt k 103 then 2 else 4) else (bif Nat.blt k 105 then 2 else 3))) else (bif Nat.blt k 110 then (bif Nat.blt k 108 then (bif Nat.blt k 107 then 2 else 0) else (bif Nat.blt k 109 then 1 else 1)) else (bif Nat.blt k 112 then (bif Nat.blt k 111 then 3 else 1) else (bif Nat.blt k 113 then 3 else 2))))))) else (bif Nat.blt k 171 then (bif Nat.blt k 142 then (bif Nat.blt k 128 then (bif Nat.blt k 121 then (bif Nat.blt k 117 then (bif Nat.blt k 115 then 3 else (bif Nat.blt k 116 then 1 else 0)) else (bif Nat.blt k 119 then (bif Nat.blt k 118 then 2 else 2) else (bif Nat.blt k 120 then 2 else 2))) else (bif Nat.blt k 124 then (bif Nat.blt k 122 then 2 else (bif Nat.blt k 123 then 1 else 2)) else (bif Nat.blt k 126 then (bif Nat.blt k 125 then 2 else 3) else (bif Nat.blt k 127 then 2 else 2)))) else (bif Nat.blt k 135 then (bif Nat.blt k 131 then (bif Nat.blt k 129 then 2 else (bif Nat.blt k 130 then 3 else 1)) else (bif Nat.blt k 133 then (bif Nat.blt k 132 then 1 else 1) else (bif Nat.blt k 134 then 3 else 0))) else (bif Nat.blt k 138 then (bif Nat.blt k 136 then 3 else (bif Nat.blt k 137 then 4 else 3)) else (bif Nat.blt k 140 then (bif Nat.blt k 139 then 0 else 2) else (bif Nat.blt k 141 then 2 else 1))))) else (bif Nat.blt k 156 then (bif Nat.blt k 149 then (bif Nat.blt k 145 then (bif Nat.blt k 143 then 1 else (bif Nat.blt k 144 then 2 else 2)) else (bif Nat.blt k 147 then (bif Nat.blt k 146 then 2 else 4) else (bif Nat.blt k 148 then 2 else 0))) else (bif Nat.blt k 152 then (bif Nat.blt k 150 then 1 else (bif Nat.blt k 151 then 4 else 3)) else (bif Nat.blt k 154 then (bif Nat.blt k 153 then 3 else 0) else (bif Nat.blt k 155 then 0 else 2)))) else (bif Nat.blt k 163 then (bif Nat.blt k 159 then (bif Nat.blt k 157 then 1 else (bif Nat.blt k 158 then 0 else 1)) else (bif Nat.blt k 161 then (bif Nat.blt k 160 then 1 else 2) else (bif Nat.blt k 162 then 2 else 2))) else (bif Nat.blt k 167 then (bif Nat.blt k 165 then (bif Nat.blt k 164 then 2 else 3) else (bif Nat.blt k 166 then 4 else 2)) else (bif Nat.blt k 169 then (bif Nat.blt k 168 then 2 else 4) else (bif Nat.blt k 170 then 0 else 1)))))) else (bif Nat.blt k 200 then (bif Nat.blt k 185 then (bif Nat.blt k 178 then (bif Nat.blt k 174 then (bif Nat.blt k 172 then 2 else (bif Nat.blt k 173 then 2 else 1)) else (bif Nat.blt k 176 then (bif Nat.blt k 175 then 2 else 1) else (bif Nat.blt k 177 then 2 else 2))) else (bif Nat.blt k 181 then (bif Nat.blt k 179 then 1 else (bif Nat.blt k 180 then 2 else 2)) else (bif Nat.blt k 183 then (bif Nat.blt k 182 then 4 else 2) else (bif Nat.blt k 184 then 3 else 1)))) else (bif Nat.blt k 192 then (bif Nat.blt k 188 then (bif Nat.blt k 186 then 3 else (bif Nat.blt k 187 then 0 else 0)) else (bif Nat.blt k 190 then (bif Nat.blt k 189 then 3 else 2) else (bif Nat.blt k 191 then 2 else 0))) else (bif Nat.blt k 196 then (bif Nat.blt k 194 then (bif Nat.blt k 193 then 0 else 0) else (bif Nat.blt k 195 then 0 else 0)) else (bif Nat.blt k 198 then (bif Nat.blt k 197 then 0 else 0) else (bif Nat.blt k 199 then 0 else 1))))) else (bif Nat.blt k 214 then (bif Nat.blt k 207 then (bif Nat.blt k 203 then (bif Nat.blt k 201 then 2 else (bif Nat.blt k 202 then 3 else 2)) else (bif Nat.blt k 205 then (bif Nat.blt k 204 then 2 else 1) else (bif Nat.blt k 206 then 1 else 2))) else (bif Nat.blt k 210 then (bif Nat.blt k 208 then 2 else (bif Nat.blt k 209 then 1 else 2)) else (bif Nat.blt k 212 then (bif Nat.blt k 211 then 2 else 2) else (bif Nat.blt k 213 then 2 else 1)))) else (bif Nat.blt k 221 then (bif Nat.blt k 217 then (bif Nat.blt k 215 then 1 else (bif Nat.blt k 216 then 2 else 2)) else (bif Nat.blt k 219 then (bif Nat.blt k 218 then 0 else 0) else (bif Nat.blt k 220 then 1 else 0))) else (bif Nat.blt k 225 then (bif Nat.blt k 223 then (bif Nat.blt k 222 then 0 else 1) else (bif Nat.blt k 224 then 0 else 1)) else (bif Nat.blt k 227 then (bif Nat.blt k 226 then 1 else 2) else (bif Nat.blt k 228 then 1 else 2))))))))
def mH : Nat → Nat := fun k => (bif Nat.blt k 114 then (bif Nat.blt k 57 then (bif Nat.blt k 28 then (bif Nat.blt k 14 then (bif Nat.blt k 7 then (bif Nat.blt k 3 then (bif Nat.blt k 1 then 0 else (bif Nat.blt k 2 then 0 else 0)) else (bif Nat.blt k 5 then (bif Nat.blt k 4 then 0 else 0) else (bif Nat.blt k 6 then 0 else 0))) else (bif Nat.blt k 10 then (bif Nat.blt k 8 then 0 else (bif Nat.blt k 9 then 0 else 0)) else (bif Nat.blt k 12 then (bif Nat.blt k 11 then 0 else 0) else (bif Nat.blt k 13 then 0 else 0)))) else (bif Nat.blt k 21 then (bif Nat.blt k 17 then (bif Nat.blt k 15 then 0 else (bif Nat.blt k 16 then 0 else 0)) else (bif Nat.blt k 19 then (bif Nat.blt k 18 then 0 else 0) else (bif Nat.blt k 20 then 0 else 0))) else (bif Nat.blt k 24 then (bif Nat.blt k 22 then 0 else (bif Nat.blt k 23 then 0 else 0)) else (bif Nat.blt k 26 then (bif Nat.blt k 25 then 0 else 0) else (bif Nat.blt k 27 then 0 else 0))))) else (bif Nat.blt k 42 then (bif Nat.blt k 35 then (bif Nat.blt k 31 then (bif Nat.blt k 29 then 0 else (bif Nat.blt k 30 then 0 else 0)) else (bif Nat.blt k 33 then (bif Nat.blt k 32 then 0 else 0) else (bif Nat.blt k 34 then 0 else 0))) else (bif Nat.blt k 38 then (bif Nat.blt k 36 then 0 else (bif Nat.blt k 37 then 0 else 0)) else (bif Nat.blt k 40 then (bif Nat.blt k 39 then 0 else 0) else (bif Nat.blt k 41 then 0 else 0)))) else (bif Nat.blt k 49 then (bif Nat.blt k 45 then (bif Nat.blt k 43 then 0 else (bif Nat.blt k 44 then 0 else 0)) else (bif Nat.blt k 47 then (bif Nat.blt k 46 then 0 else 0) else (bif Nat.blt k 48 then 0 else 0))) else (bif Nat.blt k 53 then (bif Nat.blt k 51 then (bif Nat.blt k 50 then 0 else 0) else (bif Nat.blt k 52 then 0 else 0)) else (bif Nat.blt k 55 then (bif Nat.blt k 54 then 0 else 0) else (bif Nat.blt k 56 then 0 else 0)))))) else (bif Nat.blt k 85 then (bif Nat.blt k 71 then (bif Nat.blt k 64 then (bif Nat.blt k 60 then (bif Nat.blt k 58 then 0 else (bif Nat.blt k 59 then 0 else 0)) else (bif Nat.blt k 62 then (bif Nat.blt k 61 then 0 else 0) else (bif Nat.blt k 63 then 0 else 0))) else (bif Nat.blt k 67 then (bif Nat.blt k 65 then 1 else (bif Nat.blt k 66 then 1 else 1)) else (bif Nat.blt k 69 then (bif Nat.blt k 68 then 1 else 1) else (bif Nat.blt k 70 then 1 else 1)))) else (bif Nat.blt k 78 then (bif Nat.blt k 74 then (bif Nat.blt k 72 then 1 else (bif Nat.blt k 73 then 1 else 1)) else (bif Nat.blt k 76 then (bif Nat.blt k 75 then 1 else 1) else (bif Nat.blt k 77 then 1 else 1))) else (bif Nat.blt k 81 then (bif Nat.blt k 79 then 1 else (bif Nat.blt k 80 then 1 else 1)) else (bif Nat.blt k 83 then (bif Nat.blt k 82 then 1 else 1) else (bif Nat.blt k 84 then 1 else 1))))) else (bif Nat.blt k 99 then (bif Nat.blt k 92 then (bif Nat.blt k 88 then (bif Nat.blt k 86 then 1 else (bif Nat.blt k 87 then 1 else 1)) else (bif Nat.blt k 90 then (bif Nat.blt k 89 then 1 else 1) else (bif Nat.blt k 91 then 1 else 1))) else (bif Nat.blt k 95 then (bif Nat.blt k 93 then 1 else (bif Nat.blt k 94 then 1 else 1)) else (bif Nat.blt k 97 then (bif Nat.blt k 96 then 1 else 1) else (bif Nat.blt k 98 then 1 else 1)))) else (bif Nat.blt k 106 then (bif Nat.blt k 102 then (bif Nat.blt k 100 then 1 else (bif Nat.blt k 101 then 1 else 1)) else (bif Nat.blt k 104 then (bif Nat.blt k 103 then 1 else 1) else (bif Nat.blt k 105 then 1 else 1))) else (bif Nat.blt k 110 then (bif Nat.blt k 108 then (bif Nat.blt k 107 then 1 else 1) else (bif Nat.blt k 109 then 1 else 1)) else (bif Nat.blt k 112 then (bif Nat.blt k 111 then 1 else 1) else (bif Nat.blt k 113 then 1 else 1))))))) else (bif Nat.blt k 171 then (bif Nat.blt k 142 then (bif Nat.blt k 128 then (bif Nat.blt k 121 then (bif Nat.blt k 117 then (bif Nat.blt k 115 then 1 else (bif Nat.blt k 116 then 1 else 1)) else (bif Nat.blt k 119 then (bif Nat.blt k 118 then 1 else 1) else (bif Nat.blt k 120 then 1 else 1))) else (bif Nat.blt k 124 then (bif Nat.blt k 122 then 1 else (bif Nat.blt k 123 then 1 else 1)) else (bif Nat.blt k 126 then (bif Nat.blt k 125 then 1 else 1) else (bif Nat.blt k 127 then 1 else 1)))) else (bif Nat.blt k 135 then (bif Nat.blt k 131 then (bif Nat.blt k 129 then 1 else (bif Nat.blt k 130 then 2 else 2)) else (bif Nat.blt k 133 then (bif Nat.blt k 132 then 2 else 2) else (bif Nat.blt k 134 then 2 else 2))) else (bif Nat.blt k 138 then (bif Nat.blt k 136 then 2 else (bif Nat.blt k 137 then 2 else 2)) else (bif Nat.blt k 140 then (bif Nat.blt k 139 then 2 else 2) else (bif Nat.blt k 141 then 2 else 2))))) else (bif Nat.blt k 156 then (bif Nat.blt k 149 then (bif Nat.blt k 145 then (bif Nat.blt k 143 then 2 else (bif Nat.blt k 144 then 2 else 2)) else (bif Nat.blt k 147 then (bif Nat.blt k 146 then 2 else 2) else (bif Nat.blt k 148 then 2 else 2))) else (bif Nat.blt k 152 then (bif Nat.blt k 150 then 2 else (bif Nat.blt k 151 then 2 else 2)) else (bif Nat.blt k 154 then (bif Nat.blt k 153 then 2 else 2) else (bif Nat.blt k 155 then 2 else 2)))) else (bif Nat.blt k 163 then (bif Nat.blt k 159 then (bif Nat.blt k 157 then 2 else (bif Nat.blt k 158 then 2 else 2)) else (bif Nat.blt k 161 then (bif Nat.blt k 160 then 2 else 2) else (bif Nat.blt k 162 then 2 else 2))) else (bif Nat.blt k 167 then (bif Nat.blt k 165 then (bif Nat.blt k 164 then 2 else 2) else (bif Nat.blt k 166 then 2 else 2)) else (bif Nat.blt k 169 then (bif Nat.blt k 168 then 2 else 2) else (bif Nat.blt k 170 then 2 else 2)))))) else (bif Nat.blt k 200 then (bif Nat.blt k 185 then (bif Nat.blt k 178 then (bif Nat.blt k 174 then (bif Nat.blt k 172 then 2 else (bif Nat.blt k 173 then 2 else 3)) else (bif Nat.blt k 176 then (bif Nat.blt k 175 then 3 else 3) else (bif Nat.blt k 177 then 3 else 3))) else (bif Nat.blt k 181 then (bif Nat.blt k 179 then 3 else (bif Nat.blt k 180 then 3 else 3)) else (bif Nat.blt k 183 then (bif Nat.blt k 182 then 3 else 3) else (bif Nat.blt k 184 then 3 else 3)))) else (bif Nat.blt k 192 then (bif Nat.blt k 188 then (bif Nat.blt k 186 then 3 else (bif Nat.blt k 187 then 3 else 3)) else (bif Nat.blt k 190 then (bif Nat.blt k 189 then 3 else 3) else (bif Nat.blt k 191 then 3 else 3))) else (bif Nat.blt k 196 then (bif Nat.blt k 194 then (bif Nat.blt k 193 then 3 else 3) else (bif Nat.blt k 195 then 4 else 4)) else (bif Nat.blt k 198 then (bif Nat.blt k 197 then 4 else 4) else (bif Nat.blt k 199 then 4 else 4))))) else (bif Nat.blt k 214 then (bif Nat.blt k 207 then (bif Nat.blt k 203 then (bif Nat.blt k 201 then 4 else (bif Nat.blt k 202 then 4 else 4)) else (bif Nat.blt k 205 then (bif Nat.blt k 204 then 4 else 4) else (bif Nat.blt k 206 then 4 else 4))) else (bif Nat.blt k 210 then (bif Nat.blt k 208 then 4 else (bif Nat.blt k 209 then 4 else 4)) else (bif Nat.blt k 212 then (bif Nat.blt k 211 then 4 else 4) else (bif Nat.blt k 213 then 4 else 4)))) else (bif Nat.blt k 221 then (bif Nat.blt k 217 then (bif Nat.blt k 215 then 4 else (bif Nat.blt k 216 then 4 else 4)) else (bif Nat.blt k 219 then (bif Nat.blt k 218 then 4 else 4) else (bif Nat.blt k 220 then 4 else 5))) else (bif Nat.blt k 225 then (bif Nat.blt k 223 then (bif Nat.blt k 222 then 5 else 5) else (bif Nat.blt k 224 then 5 else 5)) else (bif Nat.blt k 227 then (bif Nat.blt k 226 then 5 else 5) else (bif Nat.blt k 228 then 6 else 6))))))))
def mK : Nat → Nat := fun k => (bif Nat.blt k 114 then (bif Nat.blt k 57 then (bif Nat.blt k 28 then (bif Nat.blt k 14 then (bif Nat.blt k 7 then (bif Nat.blt k 3 then (bif Nat.blt k 1 then 0 else (bif Nat.blt k 2 then 0 else 0)) else (bif Nat.blt k 5 then (bif Nat.blt k 4 then 0 else 0) else (bif Nat.blt k 6 then 0 else 1))) else (bif Nat.blt k 10 then (bif Nat.blt k 8 then 1 else (bif Nat.blt k 9 then 2 else 2)) else (bif Nat.blt k 12 then (bif Nat.blt k 11 then 2 else 3) else (bif Nat.blt k 13 then 4 else 4)))) else (bif Nat.blt k 21 then (bif Nat.blt k 17 then (bif Nat.blt k 15 then 5 else (bif Nat.blt k 16 then 5 else 5)) else (bif Nat.blt k 19 then (bif Nat.blt k 18 then 5 else 6) else (bif Nat.blt k 20 then 6 else 6))) else (bif Nat.blt k 24 then (bif Nat.blt k 22 then 6 else (bif Nat.blt k 23 then 6 else 7)) else (bif Nat.blt k 26 then (bif Nat.blt k 25 then 7 else 8) else (bif Nat.blt k 27 then 8 else 8))))) else (bif Nat.blt k 42 then (bif Nat.blt k 35 then (bif Nat.blt k 31 then (bif Nat.blt k 29 then 8 else (bif Nat.blt k 30 then 8 else 8)) else (bif Nat.blt k 33 then (bif Nat.blt k 32 then 9 else 9) else (bif Nat.blt k 34 then 10 else 10))) else (bif Nat.blt k 38 then (bif Nat.blt k 36 then 10 else (bif Nat.blt k 37 then 10 else 10)) else (bif Nat.blt k 40 then (bif Nat.blt k 39 then 11 else 11) else (bif Nat.blt k 41 then 11 else 11)))) else (bif Nat.blt k 49 then (bif Nat.blt k 45 then (bif Nat.blt k 43 then 11 else (bif Nat.blt k 44 then 11 else 11)) else (bif Nat.blt k 47 then (bif Nat.blt k 46 then 12 else 12) else (bif Nat.blt k 48 then 12 else 12))) else (bif Nat.blt k 53 then (bif Nat.blt k 51 then (bif Nat.blt k 50 then 12 else 12) else (bif Nat.blt k 52 then 12 else 12)) else (bif Nat.blt k 55 then (bif Nat.blt k 54 then 12 else 12) else (bif Nat.blt k 56 then 12 else 12)))))) else (bif Nat.blt k 85 then (bif Nat.blt k 71 then (bif Nat.blt k 64 then (bif Nat.blt k 60 then (bif Nat.blt k 58 then 12 else (bif Nat.blt k 59 then 12 else 12)) else (bif Nat.blt k 62 then (bif Nat.blt k 61 then 12 else 12) else (bif Nat.blt k 63 then 99 else 99))) else (bif Nat.blt k 67 then (bif Nat.blt k 65 then 0 else (bif Nat.blt k 66 then 0 else 0)) else (bif Nat.blt k 69 then (bif Nat.blt k 68 then 0 else 0) else (bif Nat.blt k 70 then 0 else 0)))) else (bif Nat.blt k 78 then (bif Nat.blt k 74 then (bif Nat.blt k 72 then 0 else (bif Nat.blt k 73 then 0 else 0)) else (bif Nat.blt k 76 then (bif Nat.blt k 75 then 0 else 0) else (bif Nat.blt k 77 then 0 else 0))) else (bif Nat.blt k 81 then (bif Nat.blt k 79 then 0 else (bif Nat.blt k 80 then 1 else 1)) else (bif Nat.blt k 83 then (bif Nat.blt k 82 then 2 else 2) else (bif Nat.blt k 84 then 2 else 4))))) else (bif Nat.blt k 99 then (bif Nat.blt k 92 then (bif Nat.blt k 88 then (bif Nat.blt k 86 then 6 else (bif Nat.blt k 87 then 6 else 6)) else (bif Nat.blt k 90 then (bif Nat.blt k 89 then 7 else 8) else (bif Nat.blt k 91 then 9 else 11))) else (bif Nat.blt k 95 then (bif Nat.blt k 93 then 11 else (bif Nat.blt k 94 then 11 else 11)) else (bif Nat.blt k 97 then (bif Nat.blt k 96 then 11 else 11) else (bif Nat.blt k 98 then 11 else 11)))) else (bif Nat.blt k 106 then (bif Nat.blt k 102 then (bif Nat.blt k 100 then 11 else (bif Nat.blt k 101 then 11 else 11)) else (bif Nat.blt k 104 then (bif Nat.blt k 103 then 11 else 11) else (bif Nat.blt k 105 then 11 else 11))) else (bif Nat.blt k 110 then (bif Nat.blt k 108 then (bif Nat.blt k 107 then 11 else 12) else (bif Nat.blt k 109 then 12 else 12)) else (bif Nat.blt k 112 then (bif Nat.blt k 111 then 12 else 12) else (bif Nat.blt k 113 then 12 else 12))))))) else (bif Nat.blt k 171 then (bif Nat.blt k 142 then (bif Nat.blt k 128 then (bif Nat.blt k 121 then (bif Nat.blt k 117 then (bif Nat.blt k 115 then 12 else (bif Nat.blt k 116 then 12 else 12)) else (bif Nat.blt k 119 then (bif Nat.blt k 118 then 12 else 12) else (bif Nat.blt k 120 then 12 else 12))) else (bif Nat.blt k 124 then (bif Nat.blt k 122 then 12 else (bif Nat.blt k 123 then 12 else 12)) else (bif Nat.blt k 126 then (bif Nat.blt k 125 then 12 else 12) else (bif Nat.blt k 127 then 12 else 12)))) else (bif Nat.blt k 135 then (bif Nat.blt k 131 then (bif Nat.blt k 129 then 12 else (bif Nat.blt k 130 then 0 else 0)) else (bif Nat.blt k 133 then (bif Nat.blt k 132 then 0 else 0) else (bif Nat.blt k 134 then 0 else 2))) else (bif Nat.blt k 138 then (bif Nat.blt k 136 then 4 else (bif Nat.blt k 137 then 5 else 5)) else (bif Nat.blt k 140 then (bif Nat.blt k 139 then 6 else 6) else (bif Nat.blt k 141 then 7 else 7))))) else (bif Nat.blt k 156 then (bif Nat.blt k 149 then (bif Nat.blt k 145 then (bif Nat.blt k 143 then 11 else (bif Nat.blt k 144 then 11 else 11)) else (bif Nat.blt k 147 then (bif Nat.blt k 146 then 11 else 11) else (bif Nat.blt k 148 then 11 else 11))) else (bif Nat.blt k 152 then (bif Nat.blt k 150 then 12 else (bif Nat.blt k 151 then 12 else 12)) else (bif Nat.blt k 154 then (bif Nat.blt k 153 then 12 else 12) else (bif Nat.blt k 155 then 12 else 12)))) else (bif Nat.blt k 163 then (bif Nat.blt k 159 then (bif Nat.blt k 157 then 12 else (bif Nat.blt k 158 then 12 else 12)) else (bif Nat.blt k 161 then (bif Nat.blt k 160 then 12 else 12) else (bif Nat.blt k 162 then 12 else 12))) else (bif Nat.blt k 167 then (bif Nat.blt k 165 then (bif Nat.blt k 164 then 12 else 12) else (bif Nat.blt k 166 then 12 else 12)) else (bif Nat.blt k 169 then (bif Nat.blt k 168 then 12 else 12) else (bif Nat.blt k 170 then 12 else 12)))))) else (bif Nat.blt k 200 then (bif Nat.blt k 185 then (bif Nat.blt k 178 then (bif Nat.blt k 174 then (bif Nat.blt k 172 then 12 else (bif Nat.blt k 173 then 12 else 0)) else (bif Nat.blt k 176 then (bif Nat.blt k 175 then 0 else 0) else (bif Nat.blt k 177 then 0 else 0))) else (bif Nat.blt k 181 then (bif Nat.blt k 179 then 0 else (bif Nat.blt k 180 then 4 else 4)) else (bif Nat.blt k 183 then (bif Nat.blt k 182 then 5 else 5) else (bif Nat.blt k 184 then 5 else 7)))) else (bif Nat.blt k 192 then (bif Nat.blt k 188 then (bif Nat.blt k 186 then 11 else (bif Nat.blt k 187 then 11 else 11)) else (bif Nat.blt k 190 then (bif Nat.blt k 189 then 12 else 12) else (bif Nat.blt k 191 then 12 else 12))) else (bif Nat.blt k 196 then (bif Nat.blt k 194 then (bif Nat.blt k 193 then 12 else 12) else (bif Nat.blt k 195 then 0 else 0)) else (bif Nat.blt k 198 then (bif Nat.blt k 197 then 0 else 0) else (bif Nat.blt k 199 then 4 else 4))))) else (bif Nat.blt k 214 then (bif Nat.blt k 207 then (bif Nat.blt k 203 then (bif Nat.blt k 201 then 5 else (bif Nat.blt k 202 then 5 else 11)) else (bif Nat.blt k 205 then (bif Nat.blt k 204 then 11 else 11) else (bif Nat.blt k 206 then 11 else 11))) else (bif Nat.blt k 210 then (bif Nat.blt k 208 then 11 else (bif Nat.blt k 209 then 11 else 11)) else (bif Nat.blt k 212 then (bif Nat.blt k 211 then 11 else 12) else (bif Nat.blt k 213 then 12 else 12)))) else (bif Nat.blt k 221 then (bif Nat.blt k 217 then (bif Nat.blt k 215 then 12 else (bif Nat.blt k 216 then 12 else 12)) else (bif Nat.blt k 219 then (bif Nat.blt k 218 then 12 else 12) else (bif Nat.blt k 220 then 12 else 0))) else (bif Nat.blt k 225 then (bif Nat.blt k 223 then (bif Nat.blt k 222 then 11 else 11) else (bif Nat.blt k 224 then 11 else 11)) else (bif Nat.blt k 227 then (bif Nat.blt k 226 then 12 else 12) else (bif Nat.blt k 228 then 11 else 11))))))))
def mQ : Nat → Nat × Nat × Nat × Nat := fun k => (bif Nat.blt k 114 then (bif Nat.blt k 57 then (bif Nat.blt k 28 then (bif Nat.blt k 14 then (bif Nat.blt k 7 then (bif Nat.blt k 3 then (bif Nat.blt k 1 then (566, 84, 564, 565) else (bif Nat.blt k 2 then (606, 84, 604, 605) else (578, 84, 576, 577))) else (bif Nat.blt k 5 then (bif Nat.blt k 4 then (590, 84, 589, 1) else (648, 84, 647, 5)) else (bif Nat.blt k 6 then (781, 84, 780, 16) else (879, 88, 877, 878)))) else (bif Nat.blt k 10 then (bif Nat.blt k 8 then (959, 88, 958, 32) else (bif Nat.blt k 9 then (639, 86, 637, 638) else (942, 86, 941, 0))) else (bif Nat.blt k 12 then (bif Nat.blt k 11 then (910, 86, 909, 0) else (627, 83, 625, 626)) else (bif Nat.blt k 13 then (1043, 90, 1042, 0) else (1047, 90, 1046, 0))))) else (bif Nat.blt k 21 then (bif Nat.blt k 17 then (bif Nat.blt k 15 then (1005, 89, 1004, 0) else (bif Nat.blt k 16 then (990, 89, 988, 989) else (998, 89, 997, 34))) else (bif Nat.blt k 19 then (bif Nat.blt k 18 then (1002, 89, 1001, 35) else (705, 82, 704, 0)) else (bif Nat.blt k 20 then (713, 82, 711, 712) else (789, 82, 788, 17)))) else (bif Nat.blt k 24 then (bif Nat.blt k 22 then (797, 82, 796, 19) else (bif Nat.blt k 23 then (801, 82, 799, 800) else (1092, 91, 1090, 1091))) else (bif Nat.blt k 26 then (bif Nat.blt k 25 then (1100, 91, 1098, 1099) else (574, 80, 572, 573)) else (bif Nat.blt k 27 then (671, 80, 669, 670) else (562, 80, 560, 561)))))) else (bif Nat.blt k 42 then (bif Nat.blt k 35 then (bif Nat.blt k 31 then (bif Nat.blt k 29 then (582, 80, 580, 581) else (bif Nat.blt k 30 then (602, 80, 600, 601) else (935, 80, 933, 934))) else (bif Nat.blt k 33 then (bif Nat.blt k 32 then (1137, 92, 1135, 1136) else (1149, 92, 1147, 1148)) else (bif Nat.blt k 34 then (890, 85, 888, 889) else (656, 85, 654, 655)))) else (bif Nat.blt k 38 then (bif Nat.blt k 36 then (847, 85, 845, 846) else (bif Nat.blt k 37 then (835, 85, 833, 834) else (843, 85, 841, 842))) else (bif Nat.blt k 40 then (bif Nat.blt k 39 then (558, 79, 557, 0) else (554, 79, 553, 0)) else (bif Nat.blt k 41 then (663, 79, 662, 0) else (691, 79, 689, 690))))) else (bif Nat.blt k 49 then (bif Nat.blt k 45 then (bif Nat.blt k 43 then (918, 79, 916, 917) else (bif Nat.blt k 44 then (1154, 79, 1152, 1153) else (1164, 79, 1163, 0))) else (bif Nat.blt k 47 then (bif Nat.blt k 46 then (1337, 93, 1336, 0) else (1179, 93, 1178, 46)) else (bif Nat.blt k 48 then (1393, 93, 1392, 55) else (1341, 93, 1340, 47)))) else (bif Nat.blt k 53 then (bif Nat.blt k 51 then (bif Nat.blt k 50 then (1357, 93, 1356, 50) else (1486, 93, 1485, 65)) else (bif Nat.blt k 52 then (1425, 93, 1423, 1424) else (1436, 93, 1435, 0))) else (bif Nat.blt k 55 then (bif Nat.blt k 54 then (1471, 93, 1470, 62) else (1474, 93, 1473, 0)) else (bif Nat.blt k 56 then (1478, 93, 1477, 63) else (1463, 93, 1462, 0))))))) else (bif Nat.blt k 85 then (bif Nat.blt k 71 then (bif Nat.blt k 64 then (bif Nat.blt k 60 then (bif Nat.blt k 58 then (1502, 93, 1501, 69) else (bif Nat.blt k 59 then (1530, 93, 1528, 1529) else (1595, 93, 1594, 75))) else (bif Nat.blt k 62 then (bif Nat.blt k 61 then (1631, 93, 1630, 77) else (1635, 93, 1633, 1634)) else (bif Nat.blt k 63 then (1121, 94, 1120, 0) else (111, 81, 110, 0)))) else (bif Nat.blt k 67 then (bif Nat.blt k 65 then (586, 84, 584, 585) else (bif Nat.blt k 66 then (746, 84, 745, 9) else (652, 84, 651, 6))) else (bif Nat.blt k 69 then (bif Nat.blt k 68 then (831, 84, 830, 25) else (643, 84, 642, 4)) else (bif Nat.blt k 70 then (811, 84, 810, 20) else (635, 84, 634, 3))))) else (bif Nat.blt k 78 then (bif Nat.blt k 74 then (bif Nat.blt k 72 then (907, 84, 905, 906) else (bif Nat.blt k 73 then (622, 84, 620, 621) else (750, 84, 749, 10))) else (bif Nat.blt k 76 then (bif Nat.blt k 75 then (765, 84, 764, 12) else (777, 84, 776, 15)) else (bif Nat.blt k 77 then (839, 84, 838, 26) else (859, 84, 858, 29)))) else (bif Nat.blt k 81 then (bif Nat.blt k 79 then (871, 84, 870, 31) else (bif Nat.blt k 80 then (963, 88, 961, 962) else (955, 88, 953, 954))) else (bif Nat.blt k 83 then (bif Nat.blt k 82 then (732, 86, 730, 731) else (867, 86, 865, 866)) else (bif Nat.blt k 84 then (939, 86, 937, 938) else (1067, 90, 1066, 43)))))) else (bif Nat.blt k 99 then (bif Nat.blt k 92 then (bif Nat.blt k 88 then (bif Nat.blt k 86 then (702, 82, 701, 0) else (bif Nat.blt k 87 then (793, 82, 792, 18) else (805, 82, 803, 804))) else (bif Nat.blt k 90 then (bif Nat.blt k 89 then (1112, 91, 1111, 44) else (758, 80, 756, 757)) else (bif Nat.blt k 91 then (1145, 92, 1143, 1144) else (551, 79, 549, 550)))) else (bif Nat.blt k 95 then (bif Nat.blt k 93 then (594, 79, 592, 593) else (bif Nat.blt k 94 then (598, 79, 596, 597) else (610, 79, 608, 609))) else (bif Nat.blt k 97 then (bif Nat.blt k 96 then (687, 79, 685, 686) else (717, 79, 715, 716)) else (bif Nat.blt k 98 then (899, 79, 897, 898) else (914, 79, 912, 913))))) else (bif Nat.blt k 106 then (bif Nat.blt k 102 then (bif Nat.blt k 100 then (927, 79, 925, 926) else (bif Nat.blt k 101 then (946, 79, 944, 945) else (977, 79, 976, 33))) else (bif Nat.blt k 104 then (bif Nat.blt k 103 then (982, 79, 980, 981) else (1040, 79, 1038, 1039)) else (bif Nat.blt k 105 then (1088, 79, 1086, 1087) else (1096, 79, 1094, 1095)))) else (bif Nat.blt k 110 then (bif Nat.blt k 108 then (bif Nat.blt k 107 then (1133, 79, 1131, 1132) else (1175, 93, 1174, 45)) else (bif Nat.blt k 109 then (1349, 93, 1348, 48) else (1405, 93, 1404, 56))) else (bif Nat.blt k 112 then (bif Nat.blt k 111 then (1334, 93, 1332, 1333) else (1353, 93, 1352, 49)) else (bif Nat.blt k 113 then (1361, 93, 1359, 1360) else (1369, 93, 1367, 1368)))))))) else (bif Nat.blt k 171 then (bif Nat.blt k 142 then (bif Nat.blt k 128 then (bif Nat.blt k 121 then (bif Nat.blt k 117 then (bif Nat.blt k 115 then (1389, 93, 1388, 54) else (bif Nat.blt k 116 then (1421, 93, 1419, 1420) else (1433, 93, 1432, 57))) else (bif Nat.blt k 119 then (bif Nat.blt k 118 then (1444, 93, 1442, 1443) else (1460, 93, 1459, 60)) else (bif Nat.blt k 120 then (1510, 93, 1509, 71) else (1526, 93, 1524, 1525)))) else (bif Nat.blt k 124 then (bif Nat.blt k 122 then (1538, 93, 1536, 1537) else (bif Nat.blt k 123 then (1582, 93, 1581, 0) else (1591, 93, 1590, 74))) else (bif Nat.blt k 126 then (bif Nat.blt k 125 then (1607, 93, 1605, 1606) else (1611, 93, 1609, 1610)) else (bif Nat.blt k 127 then (1619, 93, 1618, 76) else (1623, 93, 1621, 1622))))) else (bif Nat.blt k 135 then (bif Nat.blt k 131 then (bif Nat.blt k 129 then (1627, 93, 1625, 1626) else (bif Nat.blt k 130 then (631, 84, 629, 630) else (754, 84, 753, 11))) else (bif Nat.blt k 133 then (bif Nat.blt k 132 then (815, 84, 814, 21) else (827, 84, 826, 24)) else (bif Nat.blt k 134 then (863, 84, 862, 30) else (894, 86, 892, 893)))) else (bif Nat.blt k 138 then (bif Nat.blt k 136 then (1063, 90, 1062, 42) else (bif Nat.blt k 137 then (1014, 89, 1013, 37) else (1024, 89, 1023, 39))) else (bif Nat.blt k 140 then (bif Nat.blt k 139 then (699, 82, 697, 698) else (785, 82, 783, 784)) else (bif Nat.blt k 141 then (1108, 91, 1106, 1107) else (1128, 91, 1126, 1127)))))) else (bif Nat.blt k 156 then (bif Nat.blt k 149 then (bif Nat.blt k 145 then (bif Nat.blt k 143 then (570, 79, 568, 569) else (bif Nat.blt k 144 then (903, 79, 901, 902) else (922, 79, 920, 921))) else (bif Nat.blt k 147 then (bif Nat.blt k 146 then (931, 79, 929, 930) else (951, 79, 949, 950)) else (bif Nat.blt k 148 then (1141, 79, 1139, 1140) else (1158, 79, 1156, 1157)))) else (bif Nat.blt k 152 then (bif Nat.blt k 150 then (1345, 93, 1343, 1344) else (bif Nat.blt k 151 then (1365, 93, 1363, 1364) else (1381, 93, 1380, 52))) else (bif Nat.blt k 154 then (bif Nat.blt k 153 then (1385, 93, 1384, 53) else (1429, 93, 1427, 1428)) else (bif Nat.blt k 155 then (1440, 93, 1438, 1439) else (1482, 93, 1481, 64))))) else (bif Nat.blt k 163 then (bif Nat.blt k 159 then (bif Nat.blt k 157 then (1456, 93, 1455, 59) else (bif Nat.blt k 158 then (1498, 93, 1497, 68) else (1506, 93, 1505, 70))) else (bif Nat.blt k 161 then (bif Nat.blt k 160 then (1514, 93, 1512, 1513) else (1518, 93, 1516, 1517)) else (bif Nat.blt k 162 then (1522, 93, 1520, 1521) else (1534, 93, 1532, 1533)))) else (bif Nat.blt k 167 then (bif Nat.blt k 165 then (bif Nat.blt k 164 then (1542, 93, 1540, 1541) else (1546, 93, 1544, 1545)) else (bif Nat.blt k 166 then (1550, 93, 1548, 1549) else (1558, 93, 1556, 1557))) else (bif Nat.blt k 169 then (bif Nat.blt k 168 then (1571, 93, 1570, 73) else (1579, 93, 1577, 1578)) else (bif Nat.blt k 170 then (1587, 93, 1585, 1586) else (1599, 93, 1597, 1598))))))) else (bif Nat.blt k 200 then (bif Nat.blt k 185 then (bif Nat.blt k 178 then (bif Nat.blt k 174 then (bif Nat.blt k 172 then (1603, 93, 1601, 1602) else (bif Nat.blt k 173 then (1615, 93, 1613, 1614) else (883, 84, 881, 882))) else (bif Nat.blt k 176 then (bif Nat.blt k 175 then (971, 84, 969, 970) else (741, 84, 740, 8)) else (bif Nat.blt k 177 then (773, 84, 772, 14) else (823, 84, 822, 23)))) else (bif Nat.blt k 181 then (bif Nat.blt k 179 then (855, 84, 854, 28) else (bif Nat.blt k 180 then (1059, 90, 1058, 41) else (1084, 90, 1082, 1083))) else (bif Nat.blt k 183 then (bif Nat.blt k 182 then (1009, 89, 1008, 36) else (1020, 89, 1019, 38)) else (bif Nat.blt k 184 then (1036, 89, 1035, 40) else (1118, 91, 1116, 1117))))) else (bif Nat.blt k 192 then (bif Nat.blt k 188 then (bif Nat.blt k 186 then (618, 79, 617, 2) else (bif Nat.blt k 187 then (695, 79, 693, 694) else (709, 79, 707, 708))) else (bif Nat.blt k 190 then (bif Nat.blt k 189 then (1377, 93, 1376, 51) else (1467, 93, 1466, 61)) else (bif Nat.blt k 191 then (1490, 93, 1489, 66) else (1494, 93, 1493, 67)))) else (bif Nat.blt k 196 then (bif Nat.blt k 194 then (bif Nat.blt k 193 then (1566, 93, 1565, 72) else (1639, 93, 1637, 1638)) else (bif Nat.blt k 195 then (737, 84, 736, 7) else (769, 84, 768, 13))) else (bif Nat.blt k 198 then (bif Nat.blt k 197 then (819, 84, 818, 22) else (851, 84, 850, 27)) else (bif Nat.blt k 199 then (1055, 90, 1053, 1054) else (1076, 90, 1074, 1075)))))) else (bif Nat.blt k 214 then (bif Nat.blt k 207 then (bif Nat.blt k 203 then (bif Nat.blt k 201 then (994, 89, 992, 993) else (bif Nat.blt k 202 then (1032, 89, 1030, 1031) else (614, 79, 612, 613))) else (bif Nat.blt k 205 then (bif Nat.blt k 204 then (660, 79, 658, 659) else (667, 79, 665, 666)) else (bif Nat.blt k 206 then (675, 79, 673, 674) else (679, 79, 677, 678)))) else (bif Nat.blt k 210 then (bif Nat.blt k 208 then (683, 79, 681, 682) else (bif Nat.blt k 209 then (875, 79, 873, 874) else (1080, 79, 1078, 1079))) else (bif Nat.blt k 212 then (bif Nat.blt k 211 then (1104, 79, 1102, 1103) else (1373, 93, 1371, 1372)) else (bif Nat.blt k 213 then (1397, 93, 1395, 1396) else (1401, 93, 1399, 1400))))) else (bif Nat.blt k 221 then (bif Nat.blt k 217 then (bif Nat.blt k 215 then (1409, 93, 1407, 1408) else (bif Nat.blt k 216 then (1413, 93, 1411, 1412) else (1417, 93, 1415, 1416))) else (bif Nat.blt k 219 then (bif Nat.blt k 218 then (1452, 93, 1451, 58) else (1562, 93, 1560, 1561)) else (bif Nat.blt k 220 then (1575, 93, 1573, 1574) else (728, 84, 726, 727)))) else (bif Nat.blt k 225 then (bif Nat.blt k 223 then (bif Nat.blt k 222 then (986, 79, 984, 985) else (1028, 79, 1026, 1027)) else (bif Nat.blt k 224 then (1051, 79, 1049, 1050) else (1072, 79, 1070, 1071))) else (bif Nat.blt k 227 then (bif Nat.blt k 226 then (1448, 93, 1446, 1447) else (1554, 93, 1552, 1553)) else (bif Nat.blt k 228 then (721, 79, 719, 720) else (967, 79, 965, 966)))))))))
/-! What is checked of the tables, by one computation a method. -/
def wAt (n : Nat) : Option Cond := lw_tbl[n]?
def mC (k : Nat) : ByteArray := match wAt (mQ k).1 with
  | some (.code _ b _ _) => b
  | _ => ⟨#[]⟩
def clT (ci b : Nat) : Option (String × String × String × Bool × Nat) := (classes[ci]?).map fun q => ((q.2.1 b).1, (q.2.1 b).2.1, (q.2.1 b).2.2.1, (q.2.1 b).2.2.2, q.2.2)
def lenOf : Instr → Nat
  | .iload _ => 2
  | .lload _ => 2
  | .aload _ => 2
  | .istore _ => 2
  | .lstore _ => 2
  | .astore _ => 2
  | .bipush _ => 2
  | .ldc _ => 2
  | .sipush _ => 3
  | .iinc _ _ => 3
  | .goto _ => 3
  | .if_icmp _ _ => 3
  | .ifCond _ _ => 3
  | .getfield _ => 3
  | .putfield _ => 3
  | .invokevirtual _ => 3
  | .invokestatic _ => 3
  | .ldc_w _ => 3
  | .ldc2_w _ => 3
  | _ => 1
def isSw : Instr → Bool
  | .tableswitch _ _ _ _ => true
  | .lookupswitch _ _ => true
  | _ => false
def pcAt (cd : List Ent) (i : Nat) : Option Nat := (cd[i]?).map Prod.fst
def tgOk (cd : List Ent) (pc : Nat) (off : Int) (i : Nat) : Bool := match pcAt cd i with
  | some t => decide ((pc : Int) + off = (t : Int))
  | none => false
def swOk (cd : List Ent) (pc : Nat) : Int → List Int → List (Int32 × Nat) → Bool
  | _, [], [] => true
  | k, o :: os, (v, t) :: ps => decide (v.toInt = k) && (tgOk cd pc o t && swOk cd pc (k + 1) os ps)
  | _, _, _ => false
def lsOk (cd : List Ent) (pc : Nat) : List (Int × Int) → List (Int32 × Nat) → Bool
  | [], [] => true
  | (k, o) :: os, (v, t) :: ps => decide (v.toInt = k) && (tgOk cd pc o t && lsOk cd pc os ps)
  | _, _ => false
def argOk (own : String) (cd : List Ent) (pc a b : Nat) (v : Int32) (ps : List (Int32 × Nat)) (po : Nat) : Instr → Bool
  | .iconst n => decide (Int32.ofInt n = v)
  | .bipush n => decide ((Int8.ofInt n).toInt32 = v)
  | .sipush n => decide ((Int16.ofInt n).toInt32 = v)
  | .iinc _ n => decide (Int32.ofInt n = v)
  | .goto off => tgOk cd pc off a
  | .if_icmp _ off => tgOk cd pc off a
  | .ifCond _ off => tgOk cd pc off a
  | .tableswitch dflt lo hi offs => tgOk cd pc dflt a && (swOk cd pc lo offs.toList ps && decide (hi + 1 = lo + (offs.toList.length : Int)))
  | .lookupswitch dflt prs => tgOk cd pc dflt a && (lsOk cd pc prs.toList ps && (prs.toList.zip (prs.toList.drop 1)).all (fun (x, next) => x.1 < next.1))
  | .getfield idx => match clT a b with
    | some (rf, nm, ds, _, n) => Nat.blt b n && decide (wAt po = some (.fieldLink own idx rf nm ds))
    | none => false
  | .putfield idx => match clT a b with
    | some (rf, nm, ds, fin, n) => Nat.blt b n && (decide (fin = false) && (decide (ds = "I") && decide (wAt po = some (.fieldLink own idx rf nm ds))))
    | none => false
  | .ldc idx => decide (wAt po = some (.constant own idx v))
  | .ldc_w idx => decide (wAt po = some (.constant own idx v))
  | .ldc2_w idx => decide (wAt po = some (.constantLong own idx v.toInt64))
  | .invokevirtual idx => decide (wAt po = some (.methodLink own idx (mY a))) && decide (mS a = false)
  | .invokestatic idx => match b with
    | 0 => decide (wAt po = some (.methodLink own idx (mY a))) && decide (mS a = true)
    | 1 => decide (wAt po = some (.methodLink own idx Jvm.Lib.Math.abs.name))
    | 2 => decide (wAt po = some (.methodLink own idx Jvm.Lib.Math.max.name))
    | 3 => decide (wAt po = some (.methodLink own idx Jvm.Lib.Math.min.name))
    | _ => false
  | _ => true
def entOk (mid : Nat) (cd : List Ent) (i : Nat) : Bool := match cd[i]? with
  | none => false
  | some (pc, ins, a, b, v, ps, po) => argOk (mY mid).cls cd pc a b v ps po ins && (match isSw ins with
    | true => (match decode (mC mid) pc with
      | .ok (ins', _) => decide (ins' = ins)
      | .error _ => false)
    | false => (match pcAt cd (i + 1) with
      | some nx => decide (nx = pc + lenOf ins)
      | none => true))
def infOk (mid : Nat) : Bool :=
  (match wAt (mQ mid).1 with
    | some (.code y _ n r) => decide (y = mY mid) && (decide (n = mN mid) && decide (r = mR mid))
    | _ => false) && (decide (wAt (mQ mid).2.1 = some (.initialized (mY mid).cls)) &&
  ((match mS mid with
    | true => decide (wAt (mQ mid).2.2.1 = some (.static (mY mid)))
    | false => decide (wAt (mQ mid).2.2.1 = some (.instanceMethod (mY mid))) && (decide (wAt (mQ mid).2.2.2 = some (.selects (mY mid).cls (mY mid) (mY mid))) && decide ((classes[mK mid]?).map Prod.fst = some (mY mid).cls))) &&
  (Jvm.plainName (mY mid).cls && (Nat.ble (mN mid) 19 && (decide ((mY mid).cls ≠ "java/lang/invoke/MethodHandle") && (decide ((mY mid).cls ≠ "java/lang/invoke/VarHandle") && (decide ((parseMethodDescriptor (mY mid).desc).map (fun d => d.parameters.length) = some (mP mid)) && decide (pcAt (mD mid) 0 = some 0))))))))
theorem code_word {mid : Nat} (h : infOk mid = true) : wAt (mQ mid).1 = some (.code (mY mid) (mC mid) (mN mid) (mR mid)) := by
  unfold infOk at h
  rw [Bool.and_eq_true] at h
  have h1 := h.1
  unfold mC
  split at h1
  next y b n r hw =>
    simp only [Bool.and_eq_true, decide_eq_true_eq] at h1
    obtain ⟨rfl, rfl, rfl⟩ := h1
    rw [hw]
  next => cases h1
end
section
/-! Decoding by the list of the bytes. -/
def decB : List UInt8 → Option Instr
  | [] => none
  | b :: r => match b.toNat with
    | 2 => some (.iconst (-1))
    | 3 => some (.iconst 0)
    | 4 => some (.iconst 1)
    | 5 => some (.iconst 2)
    | 6 => some (.iconst 3)
    | 7 => some (.iconst 4)
    | 8 => some (.iconst 5)
    | 16 => match r with
      | x0 :: _ => some (.bipush (Reader.signed 8 x0.toNat))
      | _ => none
    | 17 => match r with
      | x0 :: x1 :: _ => some (.sipush (Reader.signed 16 (x0.toNat * 256 + x1.toNat)))
      | _ => none
    | 18 => match r with
      | x0 :: _ => some (.ldc x0.toNat)
      | _ => none
    | 19 => match r with
      | x0 :: x1 :: _ => some (.ldc_w (x0.toNat * 256 + x1.toNat))
      | _ => none
    | 20 => match r with
      | x0 :: x1 :: _ => some (.ldc2_w (x0.toNat * 256 + x1.toNat))
      | _ => none
    | 21 => match r with
      | x0 :: _ => some (.iload x0.toNat)
      | _ => none
    | 22 => match r with
      | x0 :: _ => some (.lload x0.toNat)
      | _ => none
    | 26 => some (.iload_n 0)
    | 27 => some (.iload_n 1)
    | 28 => some (.iload_n 2)
    | 29 => some (.iload_n 3)
    | 30 => some (.lload_n 0)
    | 31 => some (.lload_n 1)
    | 32 => some (.lload_n 2)
    | 33 => some (.lload_n 3)
    | 42 => some (.aload_n 0)
    | 43 => some (.aload_n 1)
    | 44 => some (.aload_n 2)
    | 45 => some (.aload_n 3)
    | 46 => some .iaload
    | 50 => some .aaload
    | 51 => some .baload
    | 54 => match r with
      | x0 :: _ => some (.istore x0.toNat)
      | _ => none
    | 55 => match r with
      | x0 :: _ => some (.lstore x0.toNat)
      | _ => none
    | 59 => some (.istore_n 0)
    | 60 => some (.istore_n 1)
    | 61 => some (.istore_n 2)
    | 62 => some (.istore_n 3)
    | 63 => some (.lstore_n 0)
    | 64 => some (.lstore_n 1)
    | 65 => some (.lstore_n 2)
    | 66 => some (.lstore_n 3)
    | 75 => some (.astore_n 0)
    | 76 => some (.astore_n 1)
    | 77 => some (.astore_n 2)
    | 78 => some (.astore_n 3)
    | 79 => some .iastore
    | 84 => some .bastore
    | 89 => some .dup
    | 92 => some .dup2
    | 96 => some .iadd
    | 97 => some .ladd
    | 100 => some .isub
    | 104 => some .imul
    | 105 => some .lmul
    | 108 => some .idiv
    | 112 => some .irem
    | 116 => some .ineg
    | 120 => some .ishl
    | 122 => some .ishr
    | 124 => some .iushr
    | 126 => some .iand
    | 128 => some .ior
    | 132 => match r with
      | x0 :: x1 :: _ => some (.iinc x0.toNat (Reader.signed 8 x1.toNat))
      | _ => none
    | 133 => some .i2l
    | 153 => match r with
      | x0 :: x1 :: _ => some (.ifCond .eq (Reader.signed 16 (x0.toNat * 256 + x1.toNat)))
      | _ => none
    | 154 => match r with
      | x0 :: x1 :: _ => some (.ifCond .ne (Reader.signed 16 (x0.toNat * 256 + x1.toNat)))
      | _ => none
    | 155 => match r with
      | x0 :: x1 :: _ => some (.ifCond .lt (Reader.signed 16 (x0.toNat * 256 + x1.toNat)))
      | _ => none
    | 156 => match r with
      | x0 :: x1 :: _ => some (.ifCond .ge (Reader.signed 16 (x0.toNat * 256 + x1.toNat)))
      | _ => none
    | 157 => match r with
      | x0 :: x1 :: _ => some (.ifCond .gt (Reader.signed 16 (x0.toNat * 256 + x1.toNat)))
      | _ => none
    | 158 => match r with
      | x0 :: x1 :: _ => some (.ifCond .le (Reader.signed 16 (x0.toNat * 256 + x1.toNat)))
      | _ => none
    | 159 => match r with
      | x0 :: x1 :: _ => some (.if_icmp .eq (Reader.signed 16 (x0.toNat * 256 + x1.toNat)))
      | _ => none
    | 160 => match r with
      | x0 :: x1 :: _ => some (.if_icmp .ne (Reader.signed 16 (x0.toNat * 256 + x1.toNat)))
      | _ => none
    | 161 => match r with
      | x0 :: x1 :: _ => some (.if_icmp .lt (Reader.signed 16 (x0.toNat * 256 + x1.toNat)))
      | _ => none
    | 162 => match r with
      | x0 :: x1 :: _ => some (.if_icmp .ge (Reader.signed 16 (x0.toNat * 256 + x1.toNat)))
      | _ => none
    | 163 => match r with
      | x0 :: x1 :: _ => some (.if_icmp .gt (Reader.signed 16 (x0.toNat * 256 + x1.toNat)))
      | _ => none
    | 164 => match r with
      | x0 :: x1 :: _ => some (.if_icmp .le (Reader.signed 16 (x0.toNat * 256 + x1.toNat)))
      | _ => none
    | 167 => match r with
      | x0 :: x1 :: _ => some (.goto (Reader.signed 16 (x0.toNat * 256 + x1.toNat)))
      | _ => none
    | 172 => some .ireturn
    | 173 => some .lreturn
    | 177 => some .return_
    | 180 => match r with
      | x0 :: x1 :: _ => some (.getfield (x0.toNat * 256 + x1.toNat))
      | _ => none
    | 181 => match r with
      | x0 :: x1 :: _ => some (.putfield (x0.toNat * 256 + x1.toNat))
      | _ => none
    | 182 => match r with
      | x0 :: x1 :: _ => some (.invokevirtual (x0.toNat * 256 + x1.toNat))
      | _ => none
    | 184 => match r with
      | x0 :: x1 :: _ => some (.invokestatic (x0.toNat * 256 + x1.toNat))
      | _ => none
    | 190 => some .arraylength
    | _ => none
theorem rb {α β : Type} {x : Decoder α} {f : α → Decoder β} {code : ByteArray} {pc s : Nat} {a : α} (h : x code pc = .ok (a, s)) : (x >>= f) code pc = f a code s := by
  have e : (x >>= f) code pc = Except.bind (x code pc) (fun v => f v.1 code v.2) := rfl
  rw [e, h]
  rfl
theorem rd_u1 {code : ByteArray} {pc : Nat} {b : UInt8} {r : List UInt8} (h : code.data.toList.drop pc = b :: r) : (Reader.u1 : Decoder Nat) code pc = .ok (b.toNat, pc + 1) ∧ code.data.toList.drop (pc + 1) = r := by
  have h0 : code.data.toList[pc]? = some b := by
    have := congrArg (fun l => l[0]?) h
    simpa [List.getElem?_drop] using this
  have hlt : pc < code.size := by
    have := (List.getElem?_eq_some_iff.mp h0).1
    simpa using this
  have hget : code[pc] = b := by
    have h1 : code.data[pc]? = some b := by rw [← Array.getElem?_toList]; exact h0
    have h2 := (Array.getElem?_eq_some_iff.mp h1).2
    exact h2
  refine ⟨?_, ?_⟩
  · have e : (Reader.u1 : Decoder Nat) code pc = (if h : pc < code.size then (do set (pc + 1); Pure.pure code[pc].toNat : Decoder Nat) else throw (HasTruncated.truncated pc)) code pc := rfl
    rw [e, dif_pos hlt]
    show Except.ok (code[pc].toNat, pc + 1) = _
    rw [hget]
  · have := congrArg (List.drop 1) h
    rw [List.drop_drop] at this
    simpa using this
theorem rd_s1 {code : ByteArray} {pc : Nat} {b : UInt8} {r : List UInt8} (h : code.data.toList.drop pc = b :: r) : (Reader.s1 : Decoder Int) code pc = .ok (Reader.signed 8 b.toNat, pc + 1) := by
  have h1 := (rd_u1 h).1
  have e : (Reader.s1 : Decoder Int) code pc = Except.bind ((Reader.u1 : Decoder Nat) code pc) (fun v => .ok (Reader.signed 8 v.1, v.2)) := rfl
  rw [e, h1]
  rfl
theorem rd_u2 {code : ByteArray} {pc : Nat} {b c : UInt8} {r : List UInt8} (h : code.data.toList.drop pc = b :: c :: r) : (Reader.u2 : Decoder Nat) code pc = .ok (b.toNat * 256 + c.toNat, pc + 2) := by
  obtain ⟨h1, h2⟩ := rd_u1 h
  obtain ⟨h3, -⟩ := rd_u1 h2
  unfold Reader.u2
  rw [rb h1, rb h3]
  rfl
theorem rd_s2 {code : ByteArray} {pc : Nat} {b c : UInt8} {r : List UInt8} (h : code.data.toList.drop pc = b :: c :: r) : (Reader.s2 : Decoder Int) code pc = .ok (Reader.signed 16 (b.toNat * 256 + c.toNat), pc + 2) := by
  have h1 := rd_u2 h
  have e : (Reader.s2 : Decoder Int) code pc = Except.bind ((Reader.u2 : Decoder Nat) code pc) (fun v => .ok (Reader.signed 16 v.1, v.2)) := rfl
  rw [e, h1]
  rfl
theorem dec_run {code : ByteArray} {pc n : Nat} {ins : Instr} (h : Decoder.instr pc code pc = .ok (ins, pc + n)) : decode code pc = .ok (ins, n) := by
  have e : decode code pc = (Decoder.instr pc code pc >>= fun x => Pure.pure (x.1, x.2 - pc)) := rfl
  rw [e, h]
  show Except.ok (ins, pc + n - pc) = _
  rw [Nat.add_sub_cancel_left]
set_option maxRecDepth 4000 in
theorem dec_of {code : ByteArray} {pc : Nat} {ins : Instr} (h : decB (code.data.toList.drop pc) = some ins) : decode code pc = .ok (ins, lenOf ins) := by
  refine dec_run ?_
  unfold decB at h
  split at h
  next => cases h
  next b r hl =>
    obtain ⟨r1, hl1⟩ := rd_u1 hl
    unfold Decoder.instr
    rw [rb r1]
    split at h
    next heq => cases h; rw [heq]; rfl
    next heq => cases h; rw [heq]; rfl
    next heq => cases h; rw [heq]; rfl
    next heq => cases h; rw [heq]; rfl
    next heq => cases h; rw [heq]; rfl
    next heq => cases h; rw [heq]; rfl
    next heq => cases h; rw [heq]; rfl
    next heq =>
      split at h
      next x0 r2 =>
        cases h
        rw [heq]
        show ((Reader.s1 : Decoder Int) >>= fun x => Pure.pure (Instr.bipush x)) code (pc + 1) = _
        rw [rb (rd_s1 hl1)]
        rfl
      next => cases h
    next heq =>
      split at h
      next x0 x1 r2 =>
        cases h
        rw [heq]
        show ((Reader.s2 : Decoder Int) >>= fun x => Pure.pure (Instr.sipush x)) code (pc + 1) = _
        rw [rb (rd_s2 hl1)]
        rfl
      next => cases h
    next heq =>
      split at h
      next x0 r2 =>
        cases h
        rw [heq]
        show ((Reader.u1 : Decoder Nat) >>= fun x => Pure.pure (Instr.ldc x)) code (pc + 1) = _
        rw [rb ((rd_u1 hl1).1)]
        rfl
      next => cases h
    next heq =>
      split at h
      next x0 x1 r2 =>
        cases h
        rw [heq]
        show ((Reader.u2 : Decoder Nat) >>= fun x => Pure.pure (Instr.ldc_w x)) code (pc + 1) = _
        rw [rb (rd_u2 hl1)]
        rfl
      next => cases h
    next heq =>
      split at h
      next x0 x1 r2 =>
        cases h
        rw [heq]
        show ((Reader.u2 : Decoder Nat) >>= fun x => Pure.pure (Instr.ldc2_w x)) code (pc + 1) = _
        rw [rb (rd_u2 hl1)]
        rfl
      next => cases h
    next heq =>
      split at h
      next x0 r2 =>
        cases h
        rw [heq]
        show ((Reader.u1 : Decoder Nat) >>= fun x => Pure.pure (Instr.iload x)) code (pc + 1) = _
        rw [rb ((rd_u1 hl1).1)]
        rfl
      next => cases h
    next heq =>
      split at h
      next x0 r2 =>
        cases h
        rw [heq]
        show ((Reader.u1 : Decoder Nat) >>= fun x => Pure.pure (Instr.lload x)) code (pc + 1) = _
        rw [rb ((rd_u1 hl1).1)]
        rfl
      next => cases h
    next heq => cases h; rw [heq]; rfl
    next heq => cases h; rw [heq]; rfl
    next heq => cases h; rw [heq]; rfl
    next heq => cases h; rw [heq]; rfl
    next heq => cases h; rw [heq]; rfl
    next heq => cases h; rw [heq]; rfl
    next heq => cases h; rw [heq]; rfl
    next heq => cases h; rw [heq]; rfl
    next heq => cases h; rw [heq]; rfl
    next heq => cases h; rw [heq]; rfl
    next heq => cases h; rw [heq]; rfl
    next heq => cases h; rw [heq]; rfl
    next heq => cases h; rw [heq]; rfl
    next heq => cases h; rw [heq]; rfl
    next heq => cases h; rw [heq]; rfl
    next heq =>
      split at h
      next x0 r2 =>
        cases h
        rw [heq]
        show ((Reader.u1 : Decoder Nat) >>= fun x => Pure.pure (Instr.istore x)) code (pc + 1) = _
        rw [rb ((rd_u1 hl1).1)]
        rfl
      next => cases h
    next heq =>
      split at h
      next x0 r2 =>
        cases h
        rw [heq]
        show ((Reader.u1 : Decoder Nat) >>= fun x => Pure.pure (Instr.lstore x)) code (pc + 1) = _
        rw [rb ((rd_u1 hl1).1)]
        rfl
      next => cases h
    next heq => cases h; rw [heq]; rfl
    next heq => cases h; rw [heq]; rfl
    next heq => cases h; rw [heq]; rfl
    next heq => cases h; rw [heq]; rfl
    next heq => cases h; rw [heq]; rfl
    next heq => cases h; rw [heq]; rfl
    next heq => cases h; rw [heq]; rfl
    next heq => cases h; rw [heq]; rfl
    next heq => cases h; rw [heq]; rfl
    next heq => cases h; rw [heq]; rfl
    next heq => cases h; rw [heq]; rfl
    next heq => cases h; rw [heq]; rfl
    next heq => cases h; rw [heq]; rfl
    next heq => cases h; rw [heq]; rfl
    next heq => cases h; rw [heq]; rfl
    next heq => cases h; rw [heq]; rfl
    next heq => cases h; rw [heq]; rfl
    next heq => cases h; rw [heq]; rfl
    next heq => cases h; rw [heq]; rfl
    next heq => cases h; rw [heq]; rfl
    next heq => cases h; rw [heq]; rfl
    next heq => cases h; rw [heq]; rfl
    next heq => cases h; rw [heq]; rfl
    next heq => cases h; rw [heq]; rfl
    next heq => cases h; rw [heq]; rfl
    next heq => cases h; rw [heq]; rfl
    next heq => cases h; rw [heq]; rfl
    next heq => cases h; rw [heq]; rfl
    next heq => cases h; rw [heq]; rfl
    next heq =>
      split at h
      next x0 x1 r2 =>
        cases h
        rw [heq]
        obtain ⟨q1, q2⟩ := rd_u1 hl1
        have q3 := rd_s1 q2
        show ((Reader.u1 : Decoder Nat) >>= fun x => (Reader.s1 : Decoder Int) >>= fun y => Pure.pure (Instr.iinc x y)) code (pc + 1) = _
        rw [rb q1, rb q3]
        rfl
      next => cases h
    next heq => cases h; rw [heq]; rfl
    next heq =>
      split at h
      next x0 x1 r2 =>
        cases h
        rw [heq]
        show ((Reader.s2 : Decoder Int) >>= fun x => Pure.pure (Instr.ifCond .eq x)) code (pc + 1) = _
        rw [rb (rd_s2 hl1)]
        rfl
      next => cases h
    next heq =>
      split at h
      next x0 x1 r2 =>
        cases h
        rw [heq]
        show ((Reader.s2 : Decoder Int) >>= fun x => Pure.pure (Instr.ifCond .ne x)) code (pc + 1) = _
        rw [rb (rd_s2 hl1)]
        rfl
      next => cases h
    next heq =>
      split at h
      next x0 x1 r2 =>
        cases h
        rw [heq]
        show ((Reader.s2 : Decoder Int) >>= fun x => Pure.pure (Instr.ifCond .lt x)) code (pc + 1) = _
        rw [rb (rd_s2 hl1)]
        rfl
      next => cases h
    next heq =>
      split at h
      next x0 x1 r2 =>
        cases h
        rw [heq]
        show ((Reader.s2 : Decoder Int) >>= fun x => Pure.pure (Instr.ifCond .ge x)) code (pc + 1) = _
        rw [rb (rd_s2 hl1)]
        rfl
      next => cases h
    next heq =>
      split at h
      next x0 x1 r2 =>
        cases h
        rw [heq]
        show ((Reader.s2 : Decoder Int) >>= fun x => Pure.pure (Instr.ifCond .gt x)) code (pc + 1) = _
        rw [rb (rd_s2 hl1)]
        rfl
      next => cases h
    next heq =>
      split at h
      next x0 x1 r2 =>
        cases h
        rw [heq]
        show ((Reader.s2 : Decoder Int) >>= fun x => Pure.pure (Instr.ifCond .le x)) code (pc + 1) = _
        rw [rb (rd_s2 hl1)]
        rfl
      next => cases h
    next heq =>
      split at h
      next x0 x1 r2 =>
        cases h
        rw [heq]
        show ((Reader.s2 : Decoder Int) >>= fun x => Pure.pure (Instr.if_icmp .eq x)) code (pc + 1) = _
        rw [rb (rd_s2 hl1)]
        rfl
      next => cases h
    next heq =>
      split at h
      next x0 x1 r2 =>
        cases h
        rw [heq]
        show ((Reader.s2 : Decoder Int) >>= fun x => Pure.pure (Instr.if_icmp .ne x)) code (pc + 1) = _
        rw [rb (rd_s2 hl1)]
        rfl
      next => cases h
    next heq =>
      split at h
      next x0 x1 r2 =>
        cases h
        rw [heq]
        show ((Reader.s2 : Decoder Int) >>= fun x => Pure.pure (Instr.if_icmp .lt x)) code (pc + 1) = _
        rw [rb (rd_s2 hl1)]
        rfl
      next => cases h
    next heq =>
      split at h
      next x0 x1 r2 =>
        cases h
        rw [heq]
        show ((Reader.s2 : Decoder Int) >>= fun x => Pure.pure (Instr.if_icmp .ge x)) code (pc + 1) = _
        rw [rb (rd_s2 hl1)]
        rfl
      next => cases h
    next heq =>
      split at h
      next x0 x1 r2 =>
        cases h
        rw [heq]
        show ((Reader.s2 : Decoder Int) >>= fun x => Pure.pure (Instr.if_icmp .gt x)) code (pc + 1) = _
        rw [rb (rd_s2 hl1)]
        rfl
      next => cases h
    next heq =>
      split at h
      next x0 x1 r2 =>
        cases h
        rw [heq]
        show ((Reader.s2 : Decoder Int) >>= fun x => Pure.pure (Instr.if_icmp .le x)) code (pc + 1) = _
        rw [rb (rd_s2 hl1)]
        rfl
      next => cases h
    next heq =>
      split at h
      next x0 x1 r2 =>
        cases h
        rw [heq]
        show ((Reader.s2 : Decoder Int) >>= fun x => Pure.pure (Instr.goto x)) code (pc + 1) = _
        rw [rb (rd_s2 hl1)]
        rfl
      next => cases h
    next heq => cases h; rw [heq]; rfl
    next heq => cases h; rw [heq]; rfl
    next heq => cases h; rw [heq]; rfl
    next heq =>
      split at h
      next x0 x1 r2 =>
        cases h
        rw [heq]
        show ((Reader.u2 : Decoder Nat) >>= fun x => Pure.pure (Instr.getfield x)) code (pc + 1) = _
        rw [rb (rd_u2 hl1)]
        rfl
      next => cases h
    next heq =>
      split at h
      next x0 x1 r2 =>
        cases h
        rw [heq]
        show ((Reader.u2 : Decoder Nat) >>= fun x => Pure.pure (Instr.putfield x)) code (pc + 1) = _
        rw [rb (rd_u2 hl1)]
        rfl
      next => cases h
    next heq =>
      split at h
      next x0 x1 r2 =>
        cases h
        rw [heq]
        show ((Reader.u2 : Decoder Nat) >>= fun x => Pure.pure (Instr.invokevirtual x)) code (pc + 1) = _
        rw [rb (rd_u2 hl1)]
        rfl
      next => cases h
    next heq =>
      split at h
      next x0 x1 r2 =>
        cases h
        rw [heq]
        show ((Reader.u2 : Decoder Nat) >>= fun x => Pure.pure (Instr.invokestatic x)) code (pc + 1) = _
        rw [rb (rd_u2 hl1)]
        rfl
      next => cases h
    next heq => cases h; rw [heq]; rfl
    next => cases h
def hdPc (pc : Nat) : List Ent → Nat
  | [] => pc
  | e :: _ => e.1
def chkW : List UInt8 → List Ent → Bool
  | _, [] => true
  | l, (pc, ins, _) :: r => (isSw ins || decide (decB l = some ins)) && (Nat.ble pc (hdPc pc r) && chkW (l.drop (hdPc pc r - pc)) r)
def metOk (mid : Nat) : Bool := infOk mid && (chkW (mC mid).data.toList (mD mid) && (List.range (mD mid).length).all (entOk mid (mD mid)))
theorem chkW_spec {B : List UInt8} : ∀ {cd : List Ent} {l : List UInt8} {p0 : Nat}, l = B.drop p0 → hdPc p0 cd = p0 → chkW l cd = true → ∀ (i : Nat) (x : Ent), cd[i]? = some x → isSw x.2.1 = false → decB (B.drop x.1) = some x.2.1
  | [], _, _, _, _, _, i, x, hx, _ => by simp at hx
  | (pc, ins, y) :: r, l, p0, hl, hp, h, i, x, hx, hs => by
    have hp : pc = p0 := hp
    subst hp
    simp only [chkW, Bool.and_eq_true, Bool.or_eq_true, decide_eq_true_eq] at h
    obtain ⟨h1, h2, h3⟩ := h
    have h2 := Nat.le_of_ble_eq_true h2
    cases i with
    | zero =>
      cases hx
      rcases h1 with h1 | h1
      · rw [show isSw ins = false from hs] at h1
        cases h1
      · rw [← hl]; exact h1
    | succ i =>
      refine chkW_spec (cd := r) (p0 := hdPc pc r) ?_ ?_ h3 i x hx hs
      · rw [hl, List.drop_drop]
        congr 1
        omega
      · cases r <;> rfl
theorem mk0 : (List.range' 0 8).all metOk = true := by decide +kernel
theorem mk8 : (List.range' 8 11).all metOk = true := by decide +kernel
theorem mk19 : (List.range' 19 8).all metOk = true := by decide +kernel
theorem mk27 : (List.range' 27 10).all metOk = true := by decide +kernel
theorem mk37 : (List.range' 37 10).all metOk = true := by decide +kernel
theorem mk47 : (List.range' 47 10).all metOk = true := by decide +kernel
theorem mk57 : (List.range' 57 5).all metOk = true := by decide +kernel
theorem mk62 : (List.range' 62 7).all metOk = true := by decide +kernel
theorem mk69 : (List.range' 69 5).all metOk = true := by decide +kernel
theorem mk74 : (List.range' 74 6).all metOk = true := by decide +kernel
theorem mk80 : (List.range' 80 5).all metOk = true := by decide +kernel
theorem mk85 : (List.range' 85 5).all metOk = true := by decide +kernel
theorem mk90 : (List.range' 90 7).all metOk = true := by decide +kernel
theorem mk97 : (List.range' 97 8).all metOk = true := by decide +kernel
theorem mk105 : (List.range' 105 8).all metOk = true := by decide +kernel
theorem mk113 : (List.range' 113 3).all metOk = true := by decide +kernel
theorem mk116 : (List.range' 116 2).all metOk = true := by decide +kernel
theorem mk118 : (List.range' 118 7).all metOk = true := by decide +kernel
theorem mk125 : (List.range' 125 4).all metOk = true := by decide +kernel
theorem mk129 : (List.range' 129 4).all metOk = true := by decide +kernel
theorem mk133 : (List.range' 133 5).all metOk = true := by decide +kernel
theorem mk138 : (List.range' 138 1).all metOk = true := by decide +kernel
theorem mk139 : (List.range' 139 2).all metOk = true := by decide +kernel
theorem mk141 : (List.range' 141 7).all metOk = true := by decide +kernel
theorem mk148 : (List.range' 148 2).all metOk = true := by decide +kernel
theorem mk150 : (List.range' 150 4).all metOk = true := by decide +kernel
theorem mk154 : (List.range' 154 2).all metOk = true := by decide +kernel
theorem mk156 : (List.range' 156 1).all metOk = true := by decide +kernel
theorem mk157 : (List.range' 157 1).all metOk = true := by decide +kernel
theorem mk158 : (List.range' 158 1).all metOk = true := by decide +kernel
theorem mk159 : (List.range' 159 4).all metOk = true := by decide +kernel
theorem mk163 : (List.range' 163 2).all metOk = true := by decide +kernel
theorem mk165 : (List.range' 165 6).all metOk = true := by decide +kernel
theorem mk171 : (List.range' 171 3).all metOk = true := by decide +kernel
theorem mk174 : (List.range' 174 4).all metOk = true := by decide +kernel
theorem mk178 : (List.range' 178 3).all metOk = true := by decide +kernel
theorem mk181 : (List.range' 181 8).all metOk = true := by decide +kernel
theorem mk189 : (List.range' 189 1).all metOk = true := by decide +kernel
theorem mk190 : (List.range' 190 2).all metOk = true := by decide +kernel
theorem mk192 : (List.range' 192 1).all metOk = true := by decide +kernel
theorem mk193 : (List.range' 193 3).all metOk = true := by decide +kernel
theorem mk196 : (List.range' 196 5).all metOk = true := by decide +kernel
theorem mk201 : (List.range' 201 9).all metOk = true := by decide +kernel
theorem mk210 : (List.range' 210 7).all metOk = true := by decide +kernel
theorem mk217 : (List.range' 217 1).all metOk = true := by decide +kernel
theorem mk218 : (List.range' 218 8).all metOk = true := by decide +kernel
theorem mk226 : (List.range' 226 1).all metOk = true := by decide +kernel
theorem mk227 : (List.range' 227 2).all metOk = true := by decide +kernel
theorem met_ok {mid : Nat} (h : mid < nM) : metOk mid = true := by
  have h : mid < 229 := h
  rcases Nat.lt_or_ge mid 8 with q | q
  · exact List.all_eq_true.mp mk0 mid (List.mem_range'.mpr ⟨mid - 0, by omega, by omega⟩)
  rcases Nat.lt_or_ge mid 19 with q | q
  · exact List.all_eq_true.mp mk8 mid (List.mem_range'.mpr ⟨mid - 8, by omega, by omega⟩)
  rcases Nat.lt_or_ge mid 27 with q | q
  · exact List.all_eq_true.mp mk19 mid (List.mem_range'.mpr ⟨mid - 19, by omega, by omega⟩)
  rcases Nat.lt_or_ge mid 37 with q | q
  · exact List.all_eq_true.mp mk27 mid (List.mem_range'.mpr ⟨mid - 27, by omega, by omega⟩)
  rcases Nat.lt_or_ge mid 47 with q | q
  · exact List.all_eq_true.mp mk37 mid (List.mem_range'.mpr ⟨mid - 37, by omega, by omega⟩)
  rcases Nat.lt_or_ge mid 57 with q | q
  · exact List.all_eq_true.mp mk47 mid (List.mem_range'.mpr ⟨mid - 47, by omega, by omega⟩)
  rcases Nat.lt_or_ge mid 62 with q | q
  · exact List.all_eq_true.mp mk57 mid (List.mem_range'.mpr ⟨mid - 57, by omega, by omega⟩)
  rcases Nat.lt_or_ge mid 69 with q | q
  · exact List.all_eq_true.mp mk62 mid (List.mem_range'.mpr ⟨mid - 62, by omega, by omega⟩)
  rcases Nat.lt_or_ge mid 74 with q | q
  · exact List.all_eq_true.mp mk69 mid (List.mem_range'.mpr ⟨mid - 69, by omega, by omega⟩)
  rcases Nat.lt_or_ge mid 80 with q | q
  · exact List.all_eq_true.mp mk74 mid (List.mem_range'.mpr ⟨mid - 74, by omega, by omega⟩)
  rcases Nat.lt_or_ge mid 85 with q | q
  · exact List.all_eq_true.mp mk80 mid (List.mem_range'.mpr ⟨mid - 80, by omega, by omega⟩)
  rcases Nat.lt_or_ge mid 90 with q | q
  · exact List.all_eq_true.mp mk85 mid (List.mem_range'.mpr ⟨mid - 85, by omega, by omega⟩)
  rcases Nat.lt_or_ge mid 97 with q | q
  · exact List.all_eq_true.mp mk90 mid (List.mem_range'.mpr ⟨mid - 90, by omega, by omega⟩)
  rcases Nat.lt_or_ge mid 105 with q | q
  · exact List.all_eq_true.mp mk97 mid (List.mem_range'.mpr ⟨mid - 97, by omega, by omega⟩)
  rcases Nat.lt_or_ge mid 113 with q | q
  · exact List.all_eq_true.mp mk105 mid (List.mem_range'.mpr ⟨mid - 105, by omega, by omega⟩)
  rcases Nat.lt_or_ge mid 116 with q | q
  · exact List.all_eq_true.mp mk113 mid (List.mem_range'.mpr ⟨mid - 113, by omega, by omega⟩)
  rcases Nat.lt_or_ge mid 118 with q | q
  · exact List.all_eq_true.mp mk116 mid (List.mem_range'.mpr ⟨mid - 116, by omega, by omega⟩)
  rcases Nat.lt_or_ge mid 125 with q | q
  · exact List.all_eq_true.mp mk118 mid (List.mem_range'.mpr ⟨mid - 118, by omega, by omega⟩)
  rcases Nat.lt_or_ge mid 129 with q | q
  · exact List.all_eq_true.mp mk125 mid (List.mem_range'.mpr ⟨mid - 125, by omega, by omega⟩)
  rcases Nat.lt_or_ge mid 133 with q | q
  · exact List.all_eq_true.mp mk129 mid (List.mem_range'.mpr ⟨mid - 129, by omega, by omega⟩)
  rcases Nat.lt_or_ge mid 138 with q | q
  · exact List.all_eq_true.mp mk133 mid (List.mem_range'.mpr ⟨mid - 133, by omega, by omega⟩)
  rcases Nat.lt_or_ge mid 139 with q | q
  · exact List.all_eq_true.mp mk138 mid (List.mem_range'.mpr ⟨mid - 138, by omega, by omega⟩)
  rcases Nat.lt_or_ge mid 141 with q | q
  · exact List.all_eq_true.mp mk139 mid (List.mem_range'.mpr ⟨mid - 139, by omega, by omega⟩)
  rcases Nat.lt_or_ge mid 148 with q | q
  · exact List.all_eq_true.mp mk141 mid (List.mem_range'.mpr ⟨mid - 141, by omega, by omega⟩)
  rcases Nat.lt_or_ge mid 150 with q | q
  · exact List.all_eq_true.mp mk148 mid (List.mem_range'.mpr ⟨mid - 148, by omega, by omega⟩)
  rcases Nat.lt_or_ge mid 154 with q | q
  · exact List.all_eq_true.mp mk150 mid (List.mem_range'.mpr ⟨mid - 150, by omega, by omega⟩)
  rcases Nat.lt_or_ge mid 156 with q | q
  · exact List.all_eq_true.mp mk154 mid (List.mem_range'.mpr ⟨mid - 154, by omega, by omega⟩)
  rcases Nat.lt_or_ge mid 157 with q | q
  · exact List.all_eq_true.mp mk156 mid (List.mem_range'.mpr ⟨mid - 156, by omega, by omega⟩)
  rcases Nat.lt_or_ge mid 158 with q | q
  · exact List.all_eq_true.mp mk157 mid (List.mem_range'.mpr ⟨mid - 157, by omega, by omega⟩)
  rcases Nat.lt_or_ge mid 159 with q | q
  · exact List.all_eq_true.mp mk158 mid (List.mem_range'.mpr ⟨mid - 158, by omega, by omega⟩)
  rcases Nat.lt_or_ge mid 163 with q | q
  · exact List.all_eq_true.mp mk159 mid (List.mem_range'.mpr ⟨mid - 159, by omega, by omega⟩)
  rcases Nat.lt_or_ge mid 165 with q | q
  · exact List.all_eq_true.mp mk163 mid (List.mem_range'.mpr ⟨mid - 163, by omega, by omega⟩)
  rcases Nat.lt_or_ge mid 171 with q | q
  · exact List.all_eq_true.mp mk165 mid (List.mem_range'.mpr ⟨mid - 165, by omega, by omega⟩)
  rcases Nat.lt_or_ge mid 174 with q | q
  · exact List.all_eq_true.mp mk171 mid (List.mem_range'.mpr ⟨mid - 171, by omega, by omega⟩)
  rcases Nat.lt_or_ge mid 178 with q | q
  · exact List.all_eq_true.mp mk174 mid (List.mem_range'.mpr ⟨mid - 174, by omega, by omega⟩)
  rcases Nat.lt_or_ge mid 181 with q | q
  · exact List.all_eq_true.mp mk178 mid (List.mem_range'.mpr ⟨mid - 178, by omega, by omega⟩)
  rcases Nat.lt_or_ge mid 189 with q | q
  · exact List.all_eq_true.mp mk181 mid (List.mem_range'.mpr ⟨mid - 181, by omega, by omega⟩)
  rcases Nat.lt_or_ge mid 190 with q | q
  · exact List.all_eq_true.mp mk189 mid (List.mem_range'.mpr ⟨mid - 189, by omega, by omega⟩)
  rcases Nat.lt_or_ge mid 192 with q | q
  · exact List.all_eq_true.mp mk190 mid (List.mem_range'.mpr ⟨mid - 190, by omega, by omega⟩)
  rcases Nat.lt_or_ge mid 193 with q | q
  · exact List.all_eq_true.mp mk192 mid (List.mem_range'.mpr ⟨mid - 192, by omega, by omega⟩)
  rcases Nat.lt_or_ge mid 196 with q | q
  · exact List.all_eq_true.mp mk193 mid (List.mem_range'.mpr ⟨mid - 193, by omega, by omega⟩)
  rcases Nat.lt_or_ge mid 201 with q | q
  · exact List.all_eq_true.mp mk196 mid (List.mem_range'.mpr ⟨mid - 196, by omega, by omega⟩)
  rcases Nat.lt_or_ge mid 210 with q | q
  · exact List.all_eq_true.mp mk201 mid (List.mem_range'.mpr ⟨mid - 201, by omega, by omega⟩)
  rcases Nat.lt_or_ge mid 217 with q | q
  · exact List.all_eq_true.mp mk210 mid (List.mem_range'.mpr ⟨mid - 210, by omega, by omega⟩)
  rcases Nat.lt_or_ge mid 218 with q | q
  · exact List.all_eq_true.mp mk217 mid (List.mem_range'.mpr ⟨mid - 217, by omega, by omega⟩)
  rcases Nat.lt_or_ge mid 226 with q | q
  · exact List.all_eq_true.mp mk218 mid (List.mem_range'.mpr ⟨mid - 218, by omega, by omega⟩)
  rcases Nat.lt_or_ge mid 227 with q | q
  · exact List.all_eq_true.mp mk226 mid (List.mem_range'.mpr ⟨mid - 226, by omega, by omega⟩)
  exact List.all_eq_true.mp mk227 mid (List.mem_range'.mpr ⟨mid - 227, by omega, by omega⟩)
theorem ent_dec {mid i : Nat} {x : Ent} (hm : mid < nM) (he : (mD mid)[i]? = some x) (hs : isSw x.2.1 = false) : decode (mC mid) x.1 = .ok (x.2.1, lenOf x.2.1) := by
  have h := met_ok hm
  unfold metOk at h
  simp only [Bool.and_eq_true] at h
  have h0 : pcAt (mD mid) 0 = some 0 := by
    have h1 := h.1
    unfold infOk at h1
    simp only [Bool.and_eq_true, decide_eq_true_eq] at h1
    exact h1.2.2.2.2.2.2.2.2
  refine dec_of (chkW_spec (p0 := 0) rfl ?_ h.2.1 i x he hs)
  cases hc : mD mid with
  | nil => rfl
  | cons e r => rw [hc] at h0; exact Option.some.inj h0
end
section
/-! The judgements: Ev a method's run, G a walk from an instruction, over the worlds of one side. -/
def tysOf (cs : Cs) : List (ClassId × FieldType) := [(cs.1, .int), (cs.2.1, .boolean), (cs.2.2, .array .int)]
def Aof (sd : Bool) (as : Ad) (sz : Nat) : Nat → Prop := fun q => (∃ c ∈ lbs sd, q = as c.1 c.2.1 c.2.2) ∨ sz ≤ q
def lw_g : List Jvm.Cond := lw_tbl.filter goodWord
def rmD (d : Nat) : Room := { frames := d, cells := 0, slots := 0, locals := 38 * d }
def wsM (mid : Nat) : List Jvm.Cond := .code (mY mid) (mC mid) (mN mid) (mR mid) :: lw_g
def Wl (sd : Bool) (D : va_G) (cs : Cs) (as : Ad) (σ : Sg) (A : Nat → Prop) (U : State) (H : Heap) : Prop := va_P D classes (conc sd cs as σ) H ∧ va_K D classes (tysOf cs) U ∧ va_D A (conc sd cs as σ)
def Bq (sd : Bool) (D : va_G) (cs : Cs) (as : Ad) (σ : Sg) (A : Nat → Prop) : Unit → State → Prop := fun _ t => Wl sd D cs as σ A t t.heap
def Qo (sd : Bool) (D : va_G) (cs : Cs) (as : Ad) (sz : Nat) (r : Option AV) (σ : Sg) : Array Value → State → Outcome → State → Prop := match r with
  | none => va_Qv (S := Unit) (fun _ => True) (Bq sd D cs as σ (Aof sd as sz)) (Aof sd as sz)
  | some (.inl x) => va_Qi (S := Unit) (fun y _ => y = x) (Bq sd D cs as σ (Aof sd as sz)) (Aof sd as sz)
  | some (.inr (.inl x)) => va_Ql (S := Unit) (fun y _ => y = x) (Bq sd D cs as σ (Aof sd as sz)) (Aof sd as sz)
  | some (.inr (.inr _)) => fun _ _ _ _ => False
def Po (sd : Bool) (D : va_G) (cs : Cs) (as : Ad) (σ : Sg) (sz : Nat) (vs : List AV) : Array Value → State → Prop := va_Pc (vs.map (cv as)) (fun U => U.heap.size = sz ∧ Wl sd D cs as σ (fun _ => True) U U.heap)
def Ev (sd : Bool) (mid : Nat) (vs : List AV) (σ : Sg) (r : Option AV) (σ' : Sg) : Prop := ∀ (l : Launch) (D : va_G) (cs : Cs) (as : Ad) (sz d : Nat), mH mid ≤ d → Met l (mY mid) (wsM mid) (rmD d) (Po sd D cs as σ sz vs) (Qo sd D cs as sz r σ') 0 0 (Aof sd as sz)
def pcM (mid i : Nat) : Nat := (pcAt (mD mid) i).getD 0
def Cx (mid : Nat) (p : Program) (s : State) (m : MethodId) (args : Array Value) (meth : Method) (c : Code) : Prop := p.tables.exec = Jvm.exec ∧ c.code = mC mid ∧ meth.sig.returnType = mR mid ∧ c.maxLocals = mN mid ∧ s.vm.findClass (mY mid).cls = some m.cls ∧ (∀ w ∈ lw_g, w.before args s = true) ∧ meth.locks = false
def Gd (sd : Bool) (mid : Nat) (r : Option AV) (σ' : Sg) (i : Nat) (L : Lc) (st : List AV) (σ : Sg) : Prop := ∀ (p : Program) (l : Launch) (e : Env) (s : State) (m : MethodId) (args : Array Value) (below : List Frame) (meth : Method) (c : Code) (H : Heap) (locs : List Loc) (ls : Array Slot) (D : va_G) (cs : Cs) (as : Ad) (d : Nat), mH mid ≤ d → Cx mid p s m args meth c → Wl sd D cs as σ (Aof sd as s.heap.size) s H → va_S (Aof sd as s.heap.size) s.heap H locs → hasL as ls (mN mid) L → W p l e (rmD d) s m args below meth c H locs 0 0 (MQ below (Qo sd D cs as s.heap.size r σ') args s 0 0 (Aof sd as s.heap.size)) (F0 m (pcM mid i) ls (st.map (cv as)))
def G (sd : Bool) (mid : Nat) (P : Option AV → Sg → Prop) (i : Nat) (L : Lc) (st : List AV) (σ : Sg) : Prop := ∃ r σ', P r σ' ∧ Gd sd mid r σ' i L st σ
theorem G_of {sd : Bool} {mid : Nat} {P : Option AV → Sg → Prop} {i i2 : Nat} {L L2 : Lc} {st st2 : List AV} {σ σ2 : Sg} (h : ∀ r σ', Gd sd mid r σ' i2 L2 st2 σ2 → Gd sd mid r σ' i L st σ) (k : G sd mid P i2 L2 st2 σ2) : G sd mid P i L st σ := by
  obtain ⟨r, σ', hp, hg⟩ := k
  exact ⟨r, σ', hp, h r σ' hg⟩
/-! what an instruction asks, as a computed statement -/
def rowP : Option (Nat × Nat) → Prop → Prop
  | none, p => p
  | some (a, b), p => a < b ∧ p
def arrC (sd : Bool) (k : Nat) (d : Bool) (i : Nat) : Option (Bool × Nat × Option (Nat × Nat)) := match shp k with
  | some (b, .inr (.inl (z, len))) => match i, inS sd k && (b || !d) with
    | 0, true => some (z, len d, none)
    | _, _ => none
  | some (b, .inr (.inr (n, len))) => match i, inS sd k && (b || !d) with
    | i' + 1, true => some (false, len d, some (i', n))
    | _, _ => none
  | _ => none
def gridC (sd : Bool) (k : Nat) (d : Bool) (i : Nat) : Option Nat := match shp k with
  | some (b, .inr (.inr (n, _))) => match i, inS sd k && (b || !d) with
    | 0, true => some n
    | _, _ => none
  | _ => none
def objC (sd : Bool) (k : Nat) (d : Bool) (i : Nat) : Option (Nat × List (Option (Nat × (Bool → Bool)))) := match shp k with
  | some (b, .inl (ci, fs)) => match i, inS sd k && (b || !d) with
    | 0, true => some (ci, fs)
    | _, _ => none
  | _ => none
def popA : Nat → List AV → List AV → Option (List AV × List AV)
  | 0, acc, st => some (acc, st)
  | n + 1, acc, v :: st => popA n (v :: acc) st
  | _ + 1, _, [] => none
def catS : List AV → Nat
  | [] => 0
  | .inr (.inl _) :: st => catS st + 2
  | _ :: st => catS st + 1
def swd (x : Int32) : List (Int32 × Nat) → Prop
  | [] => True
  | (v, _) :: ps => ¬ x = v ∧ swd x ps
def swt (x : Int32) (J : Nat → Prop) (dflt : Prop) : List (Int32 × Nat) → Prop
  | [] => dflt
  | (v, t) :: ps => (x = v → J t) ∧ swt x J dflt ps
def stS (L : Lc) (n : Nat) (v : AV) (k : Lc → Prop) : Prop := match noL L n && Nat.blt n L.length with
  | true => k (L.set n (some v))
  | false => False
def stS2 (L : Lc) (n : Nat) (v : AV) (k : Lc → Prop) : Prop := match noL L n && Nat.blt (n + 1) L.length with
  | true => k ((L.set n (some v)).set (n + 1) none)
  | false => False
def ldI (L : Lc) (n : Nat) (k : AV → Prop) : Prop := match L[n]? with
  | some (some (.inl x)) => k (.inl x)
  | _ => False
def ldJ (L : Lc) (n : Nat) (k : AV → Prop) : Prop := match L[n]? with
  | some (some (.inr (.inl x))) => k (.inr (.inl x))
  | _ => False
def ldR (L : Lc) (n : Nat) (k : AV → Prop) : Prop := match L[n]? with
  | some (some (.inr (.inr x))) => k (.inr (.inr x))
  | _ => False
def mAbs (x : Int32) : Int32 := if 0 ≤ x then x else 0 - x
def mMax (x y : Int32) : Int32 := if x < y then y else x
def mMin (x y : Int32) : Int32 := if y < x then y else x
def ushr (x y : Int32) : Int32 := (x.toUInt32 >>> (y.toUInt32 &&& Int32.toUInt32 31)).toInt32
def br (c : Jvm.ClassFile.Cond) (x y : Int32) (jt jf : Prop) : Prop := match c with
  | .eq => (x = y → jt) ∧ (¬ x = y → jf)
  | .ne => (¬ x = y → jt) ∧ (x = y → jf)
  | .lt => (x < y → jt) ∧ (¬ x < y → jf)
  | .ge => (y ≤ x → jt) ∧ (¬ y ≤ x → jf)
  | .gt => (y < x → jt) ∧ (¬ y < x → jf)
  | .le => (x ≤ y → jt) ∧ (¬ x ≤ y → jf)
def callSt (sd : Bool) (hg : Nat) (N : List AV → Sg → Prop) (a : Nat) (st : List AV) (σ : Sg) : Prop := match popA (mP a) [] st with
  | some (vs, rest) => match Nat.blt (mH a) hg && (Nat.blt a nM && Nat.ble (catS rest) 8) with
    | true => ∃ r σ1, Ev sd a vs σ r σ1 ∧ N (r.toList ++ rest) σ1
    | false => False
  | none => False
def mth1 (hg : Nat) (f : Int32 → Int32) (N : List AV → Prop) (st : List AV) : Prop := match st with
  | .inl x :: rest => match Nat.blt 0 hg && Nat.ble (catS rest) 8 with
    | true => N (.inl (f x) :: rest)
    | false => False
  | _ => False
def mth2 (hg : Nat) (f : Int32 → Int32 → Int32) (N : List AV → Prop) (st : List AV) : Prop := match st with
  | .inl y :: .inl x :: rest => match Nat.blt 0 hg && Nat.ble (catS rest) 8 with
    | true => N (.inl (f x y) :: rest)
    | false => False
  | _ => False
def stepw (sd : Bool) (hg : Nat) (rt : Option FieldType) (R : Option AV → Sg → Prop) (J : Nat → Lc → List AV → Sg → Prop) (N : Lc → List AV → Sg → Prop) (a b : Nat) (v : Int32) (ps : List (Int32 × Nat)) (L : Lc) (st : List AV) (σ : Sg) (ins : Instr) : Prop := match ins with
  | .iconst _ => N L (.inl v :: st) σ
  | .bipush _ => N L (.inl v :: st) σ
  | .sipush _ => N L (.inl v :: st) σ
  | .ldc _ => N L (.inl v :: st) σ
  | .ldc_w _ => N L (.inl v :: st) σ
  | .ldc2_w _ => N L (.inr (.inl v.toInt64) :: st) σ
  | .iload n => ldI L n fun x => N L (x :: st) σ
  | .iload_n n => ldI L n.val fun x => N L (x :: st) σ
  | .lload n => ldJ L n fun x => N L (x :: st) σ
  | .lload_n n => ldJ L n.val fun x => N L (x :: st) σ
  | .aload n => ldR L n fun x => N L (x :: st) σ
  | .aload_n n => ldR L n.val fun x => N L (x :: st) σ
  | .istore n => match st with
    | .inl x :: st' => ∃ y, x = y ∧ stS L n (.inl y) fun L' => N L' st' σ
    | _ => False
  | .istore_n n => match st with
    | .inl x :: st' => ∃ y, x = y ∧ stS L n.val (.inl y) fun L' => N L' st' σ
    | _ => False
  | .astore n => match st with
    | .inr (.inr x) :: st' => stS L n (.inr (.inr x)) fun L' => N L' st' σ
    | _ => False
  | .astore_n n => match st with
    | .inr (.inr x) :: st' => stS L n.val (.inr (.inr x)) fun L' => N L' st' σ
    | _ => False
  | .lstore n => match st with
    | .inr (.inl x) :: st' => stS2 L n (.inr (.inl x)) fun L' => N L' st' σ
    | _ => False
  | .lstore_n n => match st with
    | .inr (.inl x) :: st' => stS2 L n.val (.inr (.inl x)) fun L' => N L' st' σ
    | _ => False
  | .iinc n _ => match L[n]? with
    | some (some (.inl x)) => ∃ y, x + v = y ∧ stS L n (.inl y) fun L' => N L' st σ
    | _ => False
  | .iadd => match st with
    | .inl y :: .inl x :: st' => N L (.inl (x + y) :: st') σ
    | _ => False
  | .isub => match st with
    | .inl y :: .inl x :: st' => N L (.inl (x - y) :: st') σ
    | _ => False
  | .imul => match st with
    | .inl y :: .inl x :: st' => N L (.inl (x * y) :: st') σ
    | _ => False
  | .iand => match st with
    | .inl y :: .inl x :: st' => N L (.inl (x &&& y) :: st') σ
    | _ => False
  | .ior => match st with
    | .inl y :: .inl x :: st' => N L (.inl (x ||| y) :: st') σ
    | _ => False
  | .ishl => match st with
    | .inl y :: .inl x :: st' => N L (.inl (x <<< (y &&& 31)) :: st') σ
    | _ => False
  | .ishr => match st with
    | .inl y :: .inl x :: st' => N L (.inl (x >>> (y &&& 31)) :: st') σ
    | _ => False
  | .iushr => match st with
    | .inl y :: .inl x :: st' => N L (.inl (ushr x y) :: st') σ
    | _ => False
  | .idiv => match st with
    | .inl y :: .inl x :: st' => ¬ y = nI 0 ∧ N L (.inl (x / y) :: st') σ
    | _ => False
  | .irem => match st with
    | .inl y :: .inl x :: st' => ¬ y = nI 0 ∧ N L (.inl (x - x / y * y) :: st') σ
    | _ => False
  | .ineg => match st with
    | .inl x :: st' => N L (.inl (-x) :: st') σ
    | _ => False
  | .i2l => match st with
    | .inl x :: st' => N L (.inr (.inl x.toInt64) :: st') σ
    | _ => False
  | .ladd => match st with
    | .inr (.inl y) :: .inr (.inl x) :: st' => N L (.inr (.inl (x + y)) :: st') σ
    | _ => False
  | .lmul => match st with
    | .inr (.inl y) :: .inr (.inl x) :: st' => N L (.inr (.inl (x * y)) :: st') σ
    | _ => False
  | .goto _ => J a L st σ
  | .if_icmp c _ => match st with
    | .inl y :: .inl x :: st' => br c x y (J a L st' σ) (N L st' σ)
    | _ => False
  | .ifCond c _ => match st with
    | .inl x :: st' => br c x (nI 0) (J a L st' σ) (N L st' σ)
    | _ => False
  | .tableswitch _ _ _ _ => match st with
    | .inl x :: st' => swt x (fun t => J t L st' σ) (swd x ps → J a L st' σ) ps
    | _ => False
  | .lookupswitch _ _ => match st with
    | .inl x :: st' => swt x (fun t => J t L st' σ) (swd x ps → J a L st' σ) ps
    | _ => False
  | .dup => match st with
    | .inl x :: st' => N L (.inl x :: .inl x :: st') σ
    | .inr (.inr x) :: st' => N L (.inr (.inr x) :: .inr (.inr x) :: st') σ
    | _ => False
  | .dup2 => match st with
    | .inl x :: .inr (.inr y) :: st' => N L (.inl x :: .inr (.inr y) :: .inl x :: .inr (.inr y) :: st') σ
    | _ => False
  | .getfield _ => match st with
    | .inr (.inr (k, d, i)) :: st' => match objC sd k d i with
      | some (ci, fs) => match ci == a, fs[b]? with
        | true, some none => N L (.inl (σ k d i b) :: st') σ
        | true, some (some (k', g)) => N L (.inr (.inr (k', g d, 0)) :: st') σ
        | _, _ => False
      | none => False
    | _ => False
  | .putfield _ => match st with
    | .inl x :: .inr (.inr (k, d, i)) :: st' => match objC sd k d i with
      | some (ci, fs) => match ci == a, fs[b]? with
        | true, some none => ∃ y, x = y ∧ N L st' (up4 σ k d i b y)
        | _, _ => False
      | none => False
    | _ => False
  | .arraylength => match st with
    | .inr (.inr (k, d, i)) :: st' => match arrC sd k d i with
      | some (_, n, rw) => rowP rw (N L (.inl (nI n) :: st') σ)
      | none => match gridC sd k d i with
        | some n => N L (.inl (nI n) :: st') σ
        | none => False
    | _ => False
  | .iaload => match st with
    | .inl j :: .inr (.inr (k, d, i)) :: st' => match arrC sd k d i with
      | some (false, n, rw) => rowP rw (∃ q, j = nI q ∧ q < n ∧ N L (.inl (σ k d i q) :: st') σ)
      | _ => False
    | _ => False
  | .baload => match st with
    | .inl j :: .inr (.inr (k, d, i)) :: st' => match arrC sd k d i with
      | some (true, n, rw) => rowP rw (∃ q, j = nI q ∧ q < n ∧ N L (.inl (σ k d i q) :: st') σ)
      | _ => False
    | _ => False
  | .aaload => match st with
    | .inl j :: .inr (.inr (k, d, i)) :: st' => match gridC sd k d i with
      | some n => ∃ q, j = nI q ∧ q < n ∧ N L (.inr (.inr (k, d, q + 1)) :: st') σ
      | none => False
    | _ => False
  | .iastore => match st with
    | .inl x :: .inl j :: .inr (.inr (k, d, i)) :: st' => match arrC sd k d i with
      | some (false, n, rw) => rowP rw (∃ q, j = nI q ∧ q < n ∧ ∃ y, x = y ∧ N L st' (up4 σ k d i q y))
      | _ => False
    | _ => False
  | .bastore => match st with
    | .inl x :: .inl j :: .inr (.inr (k, d, i)) :: st' => match arrC sd k d i with
      | some (true, n, rw) => rowP rw (∃ q, j = nI q ∧ q < n ∧ ∃ y, vp_nar .boolean x = y ∧ N L st' (up4 σ k d i q y))
      | _ => False
    | _ => False
  | .invokestatic _ => match b with
    | 0 => callSt sd hg (fun st' σ' => N L st' σ') a st σ
    | 1 => mth1 hg mAbs (fun st' => N L st' σ) st
    | 2 => mth2 hg mMax (fun st' => N L st' σ) st
    | 3 => mth2 hg mMin (fun st' => N L st' σ) st
    | _ => False
  | .invokevirtual _ => match popA (mP a) [] st with
    | some (vs, .inr (.inr (k, d, i)) :: rest) => match objC sd k d i with
      | some (ci, _) => match Nat.blt (mH a) hg && (Nat.blt a nM && (Nat.ble (catS rest) 8 && ci == mK a)) with
        | true => ∃ r σ1, Ev sd a (.inr (.inr (k, d, i)) :: vs) σ r σ1 ∧ N L (r.toList ++ rest) σ1
        | false => False
      | none => False
    | _ => False
  | .ireturn => match st with
    | [.inl x] => match rt with
      | some .boolean => (x = nI 0 ∨ x = nI 1) ∧ R (some (.inl x)) σ
      | some .int => R (some (.inl x)) σ
      | _ => False
    | _ => False
  | .lreturn => match st with
    | [.inr (.inl x)] => match rt with
      | some .long => R (some (.inr (.inl x))) σ
      | _ => False
    | _ => False
  | .return_ => match st with
    | [] => match rt with
      | none => R none σ
      | _ => False
    | _ => False
  | _ => False
def wp (sd : Bool) (hg : Nat) (rt : Option FieldType) (cd : List Ent) (P : Option AV → Sg → Prop) (K : Nat → Lc → List AV → Sg → Prop) (cuts : List Nat) : Nat → Nat → List Ent → Lc → List AV → Sg → Prop
  | 0, i, _, L, st, σ => K i L st σ
  | _ + 1, _, [], _, _, _ => False
  | n + 1, i, (_, ins, a, b, v, ps, _) :: suf, L, st, σ =>
    stepw sd hg rt P (fun t L' st' σ' => match cuts.contains t with
        | true => K t L' st' σ'
        | false => wp sd hg rt cd P K cuts n t (cd.drop t) L' st' σ')
      (fun L' st' σ' => match suf, cuts.contains (i + 1) with
        | [], _ => False
        | _ :: _, true => K (i + 1) L' st' σ'
        | _ :: _, false => wp sd hg rt cd P K cuts n (i + 1) suf L' st' σ') a b v ps L st σ ins
end
section
/-! What the computed statement asks is enough. -/
theorem met_ent {mid i : Nat} {x : Ent} (hm : mid < nM) (he : (mD mid)[i]? = some x) : entOk mid (mD mid) i = true := by
  have h := met_ok hm
  unfold metOk at h
  simp only [Bool.and_eq_true] at h
  exact List.all_eq_true.mp h.2.2 i (List.mem_range.mpr (List.getElem?_eq_some_iff.mp he).1)
theorem pcM_of {mid i : Nat} {x : Ent} (he : (mD mid)[i]? = some x) : pcM mid i = x.1 := by unfold pcM pcAt; rw [he]; rfl
theorem ent_facts {mid i pc a b : Nat} {ins : Instr} {v : Int32} {ps : List (Int32 × Nat)} {po : Nat} (hm : mid < nM) (he : (mD mid)[i]? = some (pc, ins, a, b, v, ps, po)) :
    pcM mid i = pc ∧ argOk (mY mid).cls (mD mid) pc a b v ps po ins = true ∧ (isSw ins = false → decode (mC mid) pc = .ok (ins, lenOf ins) ∧ ∀ e', (mD mid)[i + 1]? = some e' → pcM mid (i + 1) = pc + lenOf ins) ∧ (isSw ins = true → ∃ n, decode (mC mid) pc = .ok (ins, n)) := by
  have h := met_ent hm he
  unfold entOk at h
  rw [he] at h
  simp only [Bool.and_eq_true] at h
  obtain ⟨h1, h2⟩ := h
  refine ⟨pcM_of he, h1, fun hs => ?_, fun hs => ?_⟩
  · rw [hs] at h2
    refine ⟨ent_dec (x := (pc, ins, a, b, v, ps, po)) hm he hs, fun e' he' => ?_⟩
    have h3 := h2
    dsimp only at h3
    have hpc : pcAt (mD mid) (i + 1) = some e'.1 := by unfold pcAt; rw [he']; rfl
    rw [hpc] at h3
    rw [pcM_of he']
    exact of_decide_eq_true h3
  · rw [hs] at h2
    dsimp only at h2
    split at h2
    next ins' n hd =>
      have := of_decide_eq_true h2
      subst this
      exact ⟨n, hd⟩
    next => cases h2
theorem tg_spec {mid pc t : Nat} {off : Int} (h : tgOk (mD mid) pc off t = true) : (pc : Int) + off = ((pcM mid t : Nat) : Int) := by
  unfold tgOk at h
  unfold pcM
  cases hp : pcAt (mD mid) t with
  | none => rw [hp] at h; cases h
  | some q =>
    rw [hp] at h
    exact of_decide_eq_true h
theorem hts_at {args : Array Value} {s : State} {n : Nat} {w : Jvm.Cond} (hts : ∀ w ∈ lw_g, w.before args s = true) (h : wAt n = some w) (hg : goodWord w = true := by rfl) : w.before args s = true := hts w (List.mem_filter.mpr ⟨List.mem_of_getElem? h, hg⟩)
theorem ldI_spec {L : Lc} {n : Nat} {k : AV → Prop} (h : ldI L n k) : ∃ x, L[n]? = some (some (.inl x)) ∧ k (.inl x) := by
  unfold ldI at h
  split at h
  next x hx => exact ⟨x, hx, h⟩
  next => exact h.elim
theorem ldJ_spec {L : Lc} {n : Nat} {k : AV → Prop} (h : ldJ L n k) : ∃ x, L[n]? = some (some (.inr (.inl x))) ∧ k (.inr (.inl x)) := by
  unfold ldJ at h
  split at h
  next x hx => exact ⟨x, hx, h⟩
  next => exact h.elim
theorem ldR_spec {L : Lc} {n : Nat} {k : AV → Prop} (h : ldR L n k) : ∃ x, L[n]? = some (some (.inr (.inr x))) ∧ k (.inr (.inr x)) := by
  unfold ldR at h
  split at h
  next x hx => exact ⟨x, hx, h⟩
  next => exact h.elim
theorem stS_spec {L : Lc} {n : Nat} {v : AV} {k : Lc → Prop} (h : stS L n v k) : noL L n = true ∧ n < L.length ∧ k (L.set n (some v)) := by
  unfold stS at h
  split at h
  next hc =>
    rw [Bool.and_eq_true] at hc
    exact ⟨hc.1, Nat.blt_eq.mp hc.2, h⟩
  next => exact h.elim
theorem stS2_spec {L : Lc} {n : Nat} {v : AV} {k : Lc → Prop} (h : stS2 L n v k) : noL L n = true ∧ n + 1 < L.length ∧ k ((L.set n (some v)).set (n + 1) none) := by
  unfold stS2 at h
  split at h
  next hc =>
    rw [Bool.and_eq_true] at hc
    exact ⟨hc.1, Nat.blt_eq.mp hc.2, h⟩
  next => exact h.elim
theorem fallG {sd : Bool} {mid i pc len : Nat} {P : Option AV → Sg → Prop} {L L2 : Lc} {st st2 : List AV} {σ : Sg} (hp : pcM mid i = pc) (hnx : ∀ e', (mD mid)[i + 1]? = some e' → pcM mid (i + 1) = pc + len) (k : (∃ e', (mD mid)[i + 1]? = some e') ∧ G sd mid P (i + 1) L2 st2 σ)
    (row : ∀ (p : Program) (l : Launch) (e : Env) (s : State) (m : MethodId) (args : Array Value) (below : List Frame) (meth : Method) (c : Code) (H : Heap) (locs : List Loc) (ls : Array Slot) (D : va_G) (cs : Cs) (as : Ad) (d : Nat) (Q : State → Prop), Cx mid p s m args meth c → Wl sd D cs as σ (Aof sd as s.heap.size) s H → hasL as ls (mN mid) L → (∀ ls2, hasL as ls2 (mN mid) L2 → W p l e (rmD d) s m args below meth c H locs 0 0 Q (F0 m (pc + len) ls2 (st2.map (cv as)))) → W p l e (rmD d) s m args below meth c H locs 0 0 Q (F0 m pc ls (st.map (cv as)))) : G sd mid P i L st σ := by
  obtain ⟨⟨e', he'⟩, k⟩ := k
  refine G_of (fun r σ' hG => ?_) k
  intro p l e s m args below meth c H locs ls D cs as d hd hC hW hS hl
  rw [hp]
  refine row p l e s m args below meth c H locs ls D cs as d _ hC hW hl (fun ls2 hl2 => ?_)
  have := hG p l e s m args below meth c H locs ls2 D cs as d hd hC hW hS hl2
  rwa [hnx e' he'] at this
theorem fallS {sd : Bool} {mid i pc len : Nat} {P : Option AV → Sg → Prop} {L : Lc} {st st2 : List AV} {σ σ2 : Sg} (hp : pcM mid i = pc) (hnx : ∀ e', (mD mid)[i + 1]? = some e' → pcM mid (i + 1) = pc + len) (k : (∃ e', (mD mid)[i + 1]? = some e') ∧ G sd mid P (i + 1) L st2 σ2)
    (row : ∀ (p : Program) (l : Launch) (e : Env) (s : State) (m : MethodId) (args : Array Value) (below : List Frame) (meth : Method) (c : Code) (H : Heap) (locs : List Loc) (ls : Array Slot) (D : va_G) (cs : Cs) (as : Ad) (d : Nat) (Q : State → Prop), mH mid ≤ d → Cx mid p s m args meth c → Wl sd D cs as σ (Aof sd as s.heap.size) s H → va_S (Aof sd as s.heap.size) s.heap H locs → ls.size = c.maxLocals → (∀ H1 locs1, Wl sd D cs as σ2 (Aof sd as s.heap.size) s H1 → va_S (Aof sd as s.heap.size) s.heap H1 locs1 → W p l e (rmD d) s m args below meth c H1 locs1 0 0 Q (F0 m (pc + len) ls (st2.map (cv as)))) → W p l e (rmD d) s m args below meth c H locs 0 0 Q (F0 m pc ls (st.map (cv as)))) : G sd mid P i L st σ := by
  obtain ⟨⟨e', he'⟩, k⟩ := k
  refine G_of (fun r σ' hG => ?_) k
  intro p l e s m args below meth c H locs ls D cs as d hd hC hW hS hl
  rw [hp]
  refine row p l e s m args below meth c H locs ls D cs as d _ hd hC hW hS (hl.1.1.trans hC.2.2.2.1.symm) (fun H1 locs1 hW1 hS1 => ?_)
  have := hG p l e s m args below meth c H1 locs1 ls D cs as d hd hC hW1 hS1 hl
  rwa [hnx e' he'] at this
theorem sn_iconst {sd : Bool} {mid i pc a b : Nat} {P : Option AV → Sg → Prop} {v : Int32} {ps : List (Int32 × Nat)} {po : Nat} {L : Lc} {st : List AV} {σ : Sg} {J : Nat → Lc → List AV → Sg → Prop} {N : Lc → List AV → Sg → Prop} (hm : mid < nM) {n : Int} (he : (mD mid)[i]? = some (pc, .iconst n, a, b, v, ps, po)) (hJ : ∀ t L st σ, J t L st σ → G sd mid P t L st σ) (hN : ∀ L st σ, N L st σ → (∃ e', (mD mid)[i + 1]? = some e') ∧ G sd mid P (i + 1) L st σ) (h : stepw sd (mH mid) (mR mid) P J N a b v ps L st σ (.iconst n)) : G sd mid P i L st σ := by
  obtain ⟨hp, ha, h1, h2⟩ := ent_facts hm he
  obtain ⟨hdg, hnx⟩ := h1 rfl
  refine fallG hp hnx (hN _ _ _ h) (fun p l e s m args below meth c H locs ls D cs as dd Q hC hW hl kk => lv_iconst hC.1 hC.2.1 hdg (of_decide_eq_true ha) (kk ls hl))
theorem sn_bipush {sd : Bool} {mid i pc a b : Nat} {P : Option AV → Sg → Prop} {v : Int32} {ps : List (Int32 × Nat)} {po : Nat} {L : Lc} {st : List AV} {σ : Sg} {J : Nat → Lc → List AV → Sg → Prop} {N : Lc → List AV → Sg → Prop} (hm : mid < nM) {n : Int} (he : (mD mid)[i]? = some (pc, .bipush n, a, b, v, ps, po)) (hJ : ∀ t L st σ, J t L st σ → G sd mid P t L st σ) (hN : ∀ L st σ, N L st σ → (∃ e', (mD mid)[i + 1]? = some e') ∧ G sd mid P (i + 1) L st σ) (h : stepw sd (mH mid) (mR mid) P J N a b v ps L st σ (.bipush n)) : G sd mid P i L st σ := by
  obtain ⟨hp, ha, h1, h2⟩ := ent_facts hm he
  obtain ⟨hdg, hnx⟩ := h1 rfl
  refine fallG hp hnx (hN _ _ _ h) (fun p l e s m args below meth c H locs ls D cs as dd Q hC hW hl kk => lv_bipush hC.1 hC.2.1 hdg (of_decide_eq_true ha) (kk ls hl))
theorem sn_sipush {sd : Bool} {mid i pc a b : Nat} {P : Option AV → Sg → Prop} {v : Int32} {ps : List (Int32 × Nat)} {po : Nat} {L : Lc} {st : List AV} {σ : Sg} {J : Nat → Lc → List AV → Sg → Prop} {N : Lc → List AV → Sg → Prop} (hm : mid < nM) {n : Int} (he : (mD mid)[i]? = some (pc, .sipush n, a, b, v, ps, po)) (hJ : ∀ t L st σ, J t L st σ → G sd mid P t L st σ) (hN : ∀ L st σ, N L st σ → (∃ e', (mD mid)[i + 1]? = some e') ∧ G sd mid P (i + 1) L st σ) (h : stepw sd (mH mid) (mR mid) P J N a b v ps L st σ (.sipush n)) : G sd mid P i L st σ := by
  obtain ⟨hp, ha, h1, h2⟩ := ent_facts hm he
  obtain ⟨hdg, hnx⟩ := h1 rfl
  refine fallG hp hnx (hN _ _ _ h) (fun p l e s m args below meth c H locs ls D cs as dd Q hC hW hl kk => lv_sipush hC.1 hC.2.1 hdg (of_decide_eq_true ha) (kk ls hl))
theorem sn_ldc {sd : Bool} {mid i pc a b : Nat} {P : Option AV → Sg → Prop} {v : Int32} {ps : List (Int32 × Nat)} {po : Nat} {L : Lc} {st : List AV} {σ : Sg} {J : Nat → Lc → List AV → Sg → Prop} {N : Lc → List AV → Sg → Prop} (hm : mid < nM) {n : Nat} (he : (mD mid)[i]? = some (pc, .ldc n, a, b, v, ps, po)) (hJ : ∀ t L st σ, J t L st σ → G sd mid P t L st σ) (hN : ∀ L st σ, N L st σ → (∃ e', (mD mid)[i + 1]? = some e') ∧ G sd mid P (i + 1) L st σ) (h : stepw sd (mH mid) (mR mid) P J N a b v ps L st σ (.ldc n)) : G sd mid P i L st σ := by
  obtain ⟨hp, ha, h1, h2⟩ := ent_facts hm he
  obtain ⟨hdg, hnx⟩ := h1 rfl
  simp only [argOk, decide_eq_true_eq] at ha
  refine fallG hp hnx (hN _ _ _ h) (fun p l e s m args below meth c H locs ls D cs as dd Q hC hW hl kk => lv_ldc hC.1 hC.2.1 hC.2.2.2.2.1 (hts_at hC.2.2.2.2.2.1 ha) hdg (kk ls hl))
theorem sn_ldc_w {sd : Bool} {mid i pc a b : Nat} {P : Option AV → Sg → Prop} {v : Int32} {ps : List (Int32 × Nat)} {po : Nat} {L : Lc} {st : List AV} {σ : Sg} {J : Nat → Lc → List AV → Sg → Prop} {N : Lc → List AV → Sg → Prop} (hm : mid < nM) {n : Nat} (he : (mD mid)[i]? = some (pc, .ldc_w n, a, b, v, ps, po)) (hJ : ∀ t L st σ, J t L st σ → G sd mid P t L st σ) (hN : ∀ L st σ, N L st σ → (∃ e', (mD mid)[i + 1]? = some e') ∧ G sd mid P (i + 1) L st σ) (h : stepw sd (mH mid) (mR mid) P J N a b v ps L st σ (.ldc_w n)) : G sd mid P i L st σ := by
  obtain ⟨hp, ha, h1, h2⟩ := ent_facts hm he
  obtain ⟨hdg, hnx⟩ := h1 rfl
  simp only [argOk, decide_eq_true_eq] at ha
  refine fallG hp hnx (hN _ _ _ h) (fun p l e s m args below meth c H locs ls D cs as dd Q hC hW hl kk => lv_ldcw hC.1 hC.2.1 hC.2.2.2.2.1 (hts_at hC.2.2.2.2.2.1 ha) hdg (kk ls hl))
theorem sn_ldc2_w {sd : Bool} {mid i pc a b : Nat} {P : Option AV → Sg → Prop} {v : Int32} {ps : List (Int32 × Nat)} {po : Nat} {L : Lc} {st : List AV} {σ : Sg} {J : Nat → Lc → List AV → Sg → Prop} {N : Lc → List AV → Sg → Prop} (hm : mid < nM) {n : Nat} (he : (mD mid)[i]? = some (pc, .ldc2_w n, a, b, v, ps, po)) (hJ : ∀ t L st σ, J t L st σ → G sd mid P t L st σ) (hN : ∀ L st σ, N L st σ → (∃ e', (mD mid)[i + 1]? = some e') ∧ G sd mid P (i + 1) L st σ) (h : stepw sd (mH mid) (mR mid) P J N a b v ps L st σ (.ldc2_w n)) : G sd mid P i L st σ := by
  obtain ⟨hp, ha, h1, h2⟩ := ent_facts hm he
  obtain ⟨hdg, hnx⟩ := h1 rfl
  simp only [argOk, decide_eq_true_eq] at ha
  refine fallG hp hnx (hN _ _ _ h) (fun p l e s m args below meth c H locs ls D cs as dd Q hC hW hl kk => lv_ldc2 hC.1 hC.2.1 hC.2.2.2.2.1 (hts_at hC.2.2.2.2.2.1 ha) hdg (kk ls hl))
theorem sn_iload {sd : Bool} {mid i pc a b : Nat} {P : Option AV → Sg → Prop} {v : Int32} {ps : List (Int32 × Nat)} {po : Nat} {L : Lc} {st : List AV} {σ : Sg} {J : Nat → Lc → List AV → Sg → Prop} {N : Lc → List AV → Sg → Prop} (hm : mid < nM) {n : Nat} (he : (mD mid)[i]? = some (pc, .iload n, a, b, v, ps, po)) (hJ : ∀ t L st σ, J t L st σ → G sd mid P t L st σ) (hN : ∀ L st σ, N L st σ → (∃ e', (mD mid)[i + 1]? = some e') ∧ G sd mid P (i + 1) L st σ) (h : stepw sd (mH mid) (mR mid) P J N a b v ps L st σ (.iload n)) : G sd mid P i L st σ := by
  obtain ⟨hp, ha, h1, h2⟩ := ent_facts hm he
  obtain ⟨hdg, hnx⟩ := h1 rfl
  unfold stepw at h
  dsimp only at h
  obtain ⟨x, hx, h⟩ := ldI_spec h
  refine fallG hp hnx (hN _ _ _ h) (fun p l e s m args below meth c H locs ls D cs as dd Q hC hW hl kk => lv_iload hC.1 hC.2.1 hdg (hasL_at hl hx) (kk ls hl))
theorem sn_iload_n {sd : Bool} {mid i pc a b : Nat} {P : Option AV → Sg → Prop} {v : Int32} {ps : List (Int32 × Nat)} {po : Nat} {L : Lc} {st : List AV} {σ : Sg} {J : Nat → Lc → List AV → Sg → Prop} {N : Lc → List AV → Sg → Prop} (hm : mid < nM) {n : Fin 4} (he : (mD mid)[i]? = some (pc, .iload_n n, a, b, v, ps, po)) (hJ : ∀ t L st σ, J t L st σ → G sd mid P t L st σ) (hN : ∀ L st σ, N L st σ → (∃ e', (mD mid)[i + 1]? = some e') ∧ G sd mid P (i + 1) L st σ) (h : stepw sd (mH mid) (mR mid) P J N a b v ps L st σ (.iload_n n)) : G sd mid P i L st σ := by
  obtain ⟨hp, ha, h1, h2⟩ := ent_facts hm he
  obtain ⟨hdg, hnx⟩ := h1 rfl
  unfold stepw at h
  dsimp only at h
  obtain ⟨x, hx, h⟩ := ldI_spec h
  refine fallG hp hnx (hN _ _ _ h) (fun p l e s m args below meth c H locs ls D cs as dd Q hC hW hl kk => lv_iload_n hC.1 hC.2.1 hdg rfl (hasL_at hl hx) (kk ls hl))
theorem sn_lload {sd : Bool} {mid i pc a b : Nat} {P : Option AV → Sg → Prop} {v : Int32} {ps : List (Int32 × Nat)} {po : Nat} {L : Lc} {st : List AV} {σ : Sg} {J : Nat → Lc → List AV → Sg → Prop} {N : Lc → List AV → Sg → Prop} (hm : mid < nM) {n : Nat} (he : (mD mid)[i]? = some (pc, .lload n, a, b, v, ps, po)) (hJ : ∀ t L st σ, J t L st σ → G sd mid P t L st σ) (hN : ∀ L st σ, N L st σ → (∃ e', (mD mid)[i + 1]? = some e') ∧ G sd mid P (i + 1) L st σ) (h : stepw sd (mH mid) (mR mid) P J N a b v ps L st σ (.lload n)) : G sd mid P i L st σ := by
  obtain ⟨hp, ha, h1, h2⟩ := ent_facts hm he
  obtain ⟨hdg, hnx⟩ := h1 rfl
  unfold stepw at h
  dsimp only at h
  obtain ⟨x, hx, h⟩ := ldJ_spec h
  refine fallG hp hnx (hN _ _ _ h) (fun p l e s m args below meth c H locs ls D cs as dd Q hC hW hl kk => lv_lload hC.1 hC.2.1 hdg (hasL_at hl hx) (kk ls hl))
theorem sn_lload_n {sd : Bool} {mid i pc a b : Nat} {P : Option AV → Sg → Prop} {v : Int32} {ps : List (Int32 × Nat)} {po : Nat} {L : Lc} {st : List AV} {σ : Sg} {J : Nat → Lc → List AV → Sg → Prop} {N : Lc → List AV → Sg → Prop} (hm : mid < nM) {n : Fin 4} (he : (mD mid)[i]? = some (pc, .lload_n n, a, b, v, ps, po)) (hJ : ∀ t L st σ, J t L st σ → G sd mid P t L st σ) (hN : ∀ L st σ, N L st σ → (∃ e', (mD mid)[i + 1]? = some e') ∧ G sd mid P (i + 1) L st σ) (h : stepw sd (mH mid) (mR mid) P J N a b v ps L st σ (.lload_n n)) : G sd mid P i L st σ := by
  obtain ⟨hp, ha, h1, h2⟩ := ent_facts hm he
  obtain ⟨hdg, hnx⟩ := h1 rfl
  unfold stepw at h
  dsimp only at h
  obtain ⟨x, hx, h⟩ := ldJ_spec h
  refine fallG hp hnx (hN _ _ _ h) (fun p l e s m args below meth c H locs ls D cs as dd Q hC hW hl kk => lv_lload_n hC.1 hC.2.1 hdg rfl (hasL_at hl hx) (kk ls hl))
theorem sn_aload {sd : Bool} {mid i pc a b : Nat} {P : Option AV → Sg → Prop} {v : Int32} {ps : List (Int32 × Nat)} {po : Nat} {L : Lc} {st : List AV} {σ : Sg} {J : Nat → Lc → List AV → Sg → Prop} {N : Lc → List AV → Sg → Prop} (hm : mid < nM) {n : Nat} (he : (mD mid)[i]? = some (pc, .aload n, a, b, v, ps, po)) (hJ : ∀ t L st σ, J t L st σ → G sd mid P t L st σ) (hN : ∀ L st σ, N L st σ → (∃ e', (mD mid)[i + 1]? = some e') ∧ G sd mid P (i + 1) L st σ) (h : stepw sd (mH mid) (mR mid) P J N a b v ps L st σ (.aload n)) : G sd mid P i L st σ := by
  obtain ⟨hp, ha, h1, h2⟩ := ent_facts hm he
  obtain ⟨hdg, hnx⟩ := h1 rfl
  unfold stepw at h
  dsimp only at h
  obtain ⟨x, hx, h⟩ := ldR_spec h
  refine fallG hp hnx (hN _ _ _ h) (fun p l e s m args below meth c H locs ls D cs as dd Q hC hW hl kk => lv_aload hC.1 hC.2.1 hdg (hasL_at hl hx) (kk ls hl))
theorem sn_aload_n {sd : Bool} {mid i pc a b : Nat} {P : Option AV → Sg → Prop} {v : Int32} {ps : List (Int32 × Nat)} {po : Nat} {L : Lc} {st : List AV} {σ : Sg} {J : Nat → Lc → List AV → Sg → Prop} {N : Lc → List AV → Sg → Prop} (hm : mid < nM) {n : Fin 4} (he : (mD mid)[i]? = some (pc, .aload_n n, a, b, v, ps, po)) (hJ : ∀ t L st σ, J t L st σ → G sd mid P t L st σ) (hN : ∀ L st σ, N L st σ → (∃ e', (mD mid)[i + 1]? = some e') ∧ G sd mid P (i + 1) L st σ) (h : stepw sd (mH mid) (mR mid) P J N a b v ps L st σ (.aload_n n)) : G sd mid P i L st σ := by
  obtain ⟨hp, ha, h1, h2⟩ := ent_facts hm he
  obtain ⟨hdg, hnx⟩ := h1 rfl
  unfold stepw at h
  dsimp only at h
  obtain ⟨x, hx, h⟩ := ldR_spec h
  refine fallG hp hnx (hN _ _ _ h) (fun p l e s m args below meth c H locs ls D cs as dd Q hC hW hl kk => lv_aload_n hC.1 hC.2.1 hdg rfl (hasL_at hl hx) (kk ls hl))
theorem sn_istore {sd : Bool} {mid i pc a b : Nat} {P : Option AV → Sg → Prop} {v : Int32} {ps : List (Int32 × Nat)} {po : Nat} {L : Lc} {st : List AV} {σ : Sg} {J : Nat → Lc → List AV → Sg → Prop} {N : Lc → List AV → Sg → Prop} (hm : mid < nM) {n : Nat} (he : (mD mid)[i]? = some (pc, .istore n, a, b, v, ps, po)) (hJ : ∀ t L st σ, J t L st σ → G sd mid P t L st σ) (hN : ∀ L st σ, N L st σ → (∃ e', (mD mid)[i + 1]? = some e') ∧ G sd mid P (i + 1) L st σ) (h : stepw sd (mH mid) (mR mid) P J N a b v ps L st σ (.istore n)) : G sd mid P i L st σ := by
  obtain ⟨hp, ha, h1, h2⟩ := ent_facts hm he
  obtain ⟨hdg, hnx⟩ := h1 rfl
  unfold stepw at h
  dsimp only at h
  split at h
  next x st' =>
    obtain ⟨x, rfl, h⟩ := h
    obtain ⟨hs1, hs2, h⟩ := stS_spec h
    refine fallG hp hnx (hN _ _ _ h) (fun p l e s m args below meth c H locs ls D cs as dd Q hC hW hl kk => lv_istore hC.1 hC.2.1 hdg hl.1 (by rw [← hl.2]; exact hs2) rfl (fun ls2 hl2 => kk ls2 (hasL_set hl hs1 hl2)))
  next => exact h.elim
theorem sn_istore_n {sd : Bool} {mid i pc a b : Nat} {P : Option AV → Sg → Prop} {v : Int32} {ps : List (Int32 × Nat)} {po : Nat} {L : Lc} {st : List AV} {σ : Sg} {J : Nat → Lc → List AV → Sg → Prop} {N : Lc → List AV → Sg → Prop} (hm : mid < nM) {n : Fin 4} (he : (mD mid)[i]? = some (pc, .istore_n n, a, b, v, ps, po)) (hJ : ∀ t L st σ, J t L st σ → G sd mid P t L st σ) (hN : ∀ L st σ, N L st σ → (∃ e', (mD mid)[i + 1]? = some e') ∧ G sd mid P (i + 1) L st σ) (h : stepw sd (mH mid) (mR mid) P J N a b v ps L st σ (.istore_n n)) : G sd mid P i L st σ := by
  obtain ⟨hp, ha, h1, h2⟩ := ent_facts hm he
  obtain ⟨hdg, hnx⟩ := h1 rfl
  unfold stepw at h
  dsimp only at h
  split at h
  next x st' =>
    obtain ⟨x, rfl, h⟩ := h
    obtain ⟨hs1, hs2, h⟩ := stS_spec h
    refine fallG hp hnx (hN _ _ _ h) (fun p l e s m args below meth c H locs ls D cs as dd Q hC hW hl kk => lv_istore_n hC.1 hC.2.1 hdg rfl hl.1 (by rw [← hl.2]; exact hs2) rfl (fun ls2 hl2 => kk ls2 (hasL_set hl hs1 hl2)))
  next => exact h.elim
theorem sn_astore {sd : Bool} {mid i pc a b : Nat} {P : Option AV → Sg → Prop} {v : Int32} {ps : List (Int32 × Nat)} {po : Nat} {L : Lc} {st : List AV} {σ : Sg} {J : Nat → Lc → List AV → Sg → Prop} {N : Lc → List AV → Sg → Prop} (hm : mid < nM) {n : Nat} (he : (mD mid)[i]? = some (pc, .astore n, a, b, v, ps, po)) (hJ : ∀ t L st σ, J t L st σ → G sd mid P t L st σ) (hN : ∀ L st σ, N L st σ → (∃ e', (mD mid)[i + 1]? = some e') ∧ G sd mid P (i + 1) L st σ) (h : stepw sd (mH mid) (mR mid) P J N a b v ps L st σ (.astore n)) : G sd mid P i L st σ := by
  obtain ⟨hp, ha, h1, h2⟩ := ent_facts hm he
  obtain ⟨hdg, hnx⟩ := h1 rfl
  unfold stepw at h
  dsimp only at h
  split at h
  next x st' =>
    obtain ⟨hs1, hs2, h⟩ := stS_spec h
    refine fallG hp hnx (hN _ _ _ h) (fun p l e s m args below meth c H locs ls D cs as dd Q hC hW hl kk => lv_astore hC.1 hC.2.1 hdg hl.1 (by rw [← hl.2]; exact hs2) rfl (fun ls2 hl2 => kk ls2 (hasL_set hl hs1 hl2)))
  next => exact h.elim
theorem sn_astore_n {sd : Bool} {mid i pc a b : Nat} {P : Option AV → Sg → Prop} {v : Int32} {ps : List (Int32 × Nat)} {po : Nat} {L : Lc} {st : List AV} {σ : Sg} {J : Nat → Lc → List AV → Sg → Prop} {N : Lc → List AV → Sg → Prop} (hm : mid < nM) {n : Fin 4} (he : (mD mid)[i]? = some (pc, .astore_n n, a, b, v, ps, po)) (hJ : ∀ t L st σ, J t L st σ → G sd mid P t L st σ) (hN : ∀ L st σ, N L st σ → (∃ e', (mD mid)[i + 1]? = some e') ∧ G sd mid P (i + 1) L st σ) (h : stepw sd (mH mid) (mR mid) P J N a b v ps L st σ (.astore_n n)) : G sd mid P i L st σ := by
  obtain ⟨hp, ha, h1, h2⟩ := ent_facts hm he
  obtain ⟨hdg, hnx⟩ := h1 rfl
  unfold stepw at h
  dsimp only at h
  split at h
  next x st' =>
    obtain ⟨hs1, hs2, h⟩ := stS_spec h
    refine fallG hp hnx (hN _ _ _ h) (fun p l e s m args below meth c H locs ls D cs as dd Q hC hW hl kk => lv_astore_n hC.1 hC.2.1 hdg rfl hl.1 (by rw [← hl.2]; exact hs2) rfl (fun ls2 hl2 => kk ls2 (hasL_set hl hs1 hl2)))
  next => exact h.elim
theorem sn_lstore {sd : Bool} {mid i pc a b : Nat} {P : Option AV → Sg → Prop} {v : Int32} {ps : List (Int32 × Nat)} {po : Nat} {L : Lc} {st : List AV} {σ : Sg} {J : Nat → Lc → List AV → Sg → Prop} {N : Lc → List AV → Sg → Prop} (hm : mid < nM) {n : Nat} (he : (mD mid)[i]? = some (pc, .lstore n, a, b, v, ps, po)) (hJ : ∀ t L st σ, J t L st σ → G sd mid P t L st σ) (hN : ∀ L st σ, N L st σ → (∃ e', (mD mid)[i + 1]? = some e') ∧ G sd mid P (i + 1) L st σ) (h : stepw sd (mH mid) (mR mid) P J N a b v ps L st σ (.lstore n)) : G sd mid P i L st σ := by
  obtain ⟨hp, ha, h1, h2⟩ := ent_facts hm he
  obtain ⟨hdg, hnx⟩ := h1 rfl
  unfold stepw at h
  dsimp only at h
  split at h
  next x st' =>
    obtain ⟨hs1, hs2, h⟩ := stS2_spec h
    refine fallG hp hnx (hN _ _ _ h) (fun p l e s m args below meth c H locs ls D cs as dd Q hC hW hl kk => lv_lstore hC.1 hC.2.1 hdg hl.1 (by rw [← hl.2]; exact hs2) rfl (fun ls2 hl2 => kk ls2 (hasL_set2 hl hs1 hl2)))
  next => exact h.elim
theorem sn_lstore_n {sd : Bool} {mid i pc a b : Nat} {P : Option AV → Sg → Prop} {v : Int32} {ps : List (Int32 × Nat)} {po : Nat} {L : Lc} {st : List AV} {σ : Sg} {J : Nat → Lc → List AV → Sg → Prop} {N : Lc → List AV → Sg → Prop} (hm : mid < nM) {n : Fin 4} (he : (mD mid)[i]? = some (pc, .lstore_n n, a, b, v, ps, po)) (hJ : ∀ t L st σ, J t L st σ → G sd mid P t L st σ) (hN : ∀ L st σ, N L st σ → (∃ e', (mD mid)[i + 1]? = some e') ∧ G sd mid P (i + 1) L st σ) (h : stepw sd (mH mid) (mR mid) P J N a b v ps L st σ (.lstore_n n)) : G sd mid P i L st σ := by
  obtain ⟨hp, ha, h1, h2⟩ := ent_facts hm he
  obtain ⟨hdg, hnx⟩ := h1 rfl
  unfold stepw at h
  dsimp only at h
  split at h
  next x st' =>
    obtain ⟨hs1, hs2, h⟩ := stS2_spec h
    refine fallG hp hnx (hN _ _ _ h) (fun p l e s m args below meth c H locs ls D cs as dd Q hC hW hl kk => lv_lstore_n hC.1 hC.2.1 hdg rfl hl.1 (by rw [← hl.2]; exact hs2) rfl (fun ls2 hl2 => kk ls2 (hasL_set2 hl hs1 hl2)))
  next => exact h.elim
theorem sn_iinc {sd : Bool} {mid i pc a b : Nat} {P : Option AV → Sg → Prop} {v : Int32} {ps : List (Int32 × Nat)} {po : Nat} {L : Lc} {st : List AV} {σ : Sg} {J : Nat → Lc → List AV → Sg → Prop} {N : Lc → List AV → Sg → Prop} (hm : mid < nM) {n : Nat} {q : Int} (he : (mD mid)[i]? = some (pc, .iinc n q, a, b, v, ps, po)) (hJ : ∀ t L st σ, J t L st σ → G sd mid P t L st σ) (hN : ∀ L st σ, N L st σ → (∃ e', (mD mid)[i + 1]? = some e') ∧ G sd mid P (i + 1) L st σ) (h : stepw sd (mH mid) (mR mid) P J N a b v ps L st σ (.iinc n q)) : G sd mid P i L st σ := by
  obtain ⟨hp, ha, h1, h2⟩ := ent_facts hm he
  obtain ⟨hdg, hnx⟩ := h1 rfl
  unfold stepw at h
  dsimp only at h
  split at h
  next x hx =>
    obtain ⟨y, rfl, h⟩ := h
    obtain ⟨hs1, hs2, h⟩ := stS_spec h
    refine fallG hp hnx (hN _ _ _ h) (fun p l e s m args below meth c H locs ls D cs as dd Q hC hW hl kk => ?_)
    obtain ⟨k9, hk9⟩ := List.getElem?_of_mem (lvOf_mem (as := as).mpr ⟨_, hx, rfl⟩)
    exact lv_iinc (v := x + v) hC.1 hC.2.1 hdg hl.1 hk9 (by rw [of_decide_eq_true ha]) (by rw [← hl.2]; exact hs2) rfl (fun ls2 hl2 => kk ls2 (hasL_set hl hs1 hl2))
  next => exact h.elim
theorem sn_iadd {sd : Bool} {mid i pc a b : Nat} {P : Option AV → Sg → Prop} {v : Int32} {ps : List (Int32 × Nat)} {po : Nat} {L : Lc} {st : List AV} {σ : Sg} {J : Nat → Lc → List AV → Sg → Prop} {N : Lc → List AV → Sg → Prop} (hm : mid < nM) (he : (mD mid)[i]? = some (pc, .iadd, a, b, v, ps, po)) (hJ : ∀ t L st σ, J t L st σ → G sd mid P t L st σ) (hN : ∀ L st σ, N L st σ → (∃ e', (mD mid)[i + 1]? = some e') ∧ G sd mid P (i + 1) L st σ) (h : stepw sd (mH mid) (mR mid) P J N a b v ps L st σ (.iadd)) : G sd mid P i L st σ := by
  obtain ⟨hp, ha, h1, h2⟩ := ent_facts hm he
  obtain ⟨hdg, hnx⟩ := h1 rfl
  unfold stepw at h
  dsimp only at h
  split at h
  next y x st' => refine fallG hp hnx (hN _ _ _ h) (fun p l e s m args below meth c H locs ls D cs as dd Q hC hW hl kk => lv_iadd hC.1 hC.2.1 hdg (kk ls hl))
  next => exact h.elim
theorem sn_isub {sd : Bool} {mid i pc a b : Nat} {P : Option AV → Sg → Prop} {v : Int32} {ps : List (Int32 × Nat)} {po : Nat} {L : Lc} {st : List AV} {σ : Sg} {J : Nat → Lc → List AV → Sg → Prop} {N : Lc → List AV → Sg → Prop} (hm : mid < nM) (he : (mD mid)[i]? = some (pc, .isub, a, b, v, ps, po)) (hJ : ∀ t L st σ, J t L st σ → G sd mid P t L st σ) (hN : ∀ L st σ, N L st σ → (∃ e', (mD mid)[i + 1]? = some e') ∧ G sd mid P (i + 1) L st σ) (h : stepw sd (mH mid) (mR mid) P J N a b v ps L st σ (.isub)) : G sd mid P i L st σ := by
  obtain ⟨hp, ha, h1, h2⟩ := ent_facts hm he
  obtain ⟨hdg, hnx⟩ := h1 rfl
  unfold stepw at h
  dsimp only at h
  split at h
  next y x st' => refine fallG hp hnx (hN _ _ _ h) (fun p l e s m args below meth c H locs ls D cs as dd Q hC hW hl kk => lv_isub hC.1 hC.2.1 hdg (kk ls hl))
  next => exact h.elim
theorem sn_imul {sd : Bool} {mid i pc a b : Nat} {P : Option AV → Sg → Prop} {v : Int32} {ps : List (Int32 × Nat)} {po : Nat} {L : Lc} {st : List AV} {σ : Sg} {J : Nat → Lc → List AV → Sg → Prop} {N : Lc → List AV → Sg → Prop} (hm : mid < nM) (he : (mD mid)[i]? = some (pc, .imul, a, b, v, ps, po)) (hJ : ∀ t L st σ, J t L st σ → G sd mid P t L st σ) (hN : ∀ L st σ, N L st σ → (∃ e', (mD mid)[i + 1]? = some e') ∧ G sd mid P (i + 1) L st σ) (h : stepw sd (mH mid) (mR mid) P J N a b v ps L st σ (.imul)) : G sd mid P i L st σ := by
  obtain ⟨hp, ha, h1, h2⟩ := ent_facts hm he
  obtain ⟨hdg, hnx⟩ := h1 rfl
  unfold stepw at h
  dsimp only at h
  split at h
  next y x st' => refine fallG hp hnx (hN _ _ _ h) (fun p l e s m args below meth c H locs ls D cs as dd Q hC hW hl kk => lv_imul hC.1 hC.2.1 hdg (kk ls hl))
  next => exact h.elim
theorem sn_iand {sd : Bool} {mid i pc a b : Nat} {P : Option AV → Sg → Prop} {v : Int32} {ps : List (Int32 × Nat)} {po : Nat} {L : Lc} {st : List AV} {σ : Sg} {J : Nat → Lc → List AV → Sg → Prop} {N : Lc → List AV → Sg → Prop} (hm : mid < nM) (he : (mD mid)[i]? = some (pc, .iand, a, b, v, ps, po)) (hJ : ∀ t L st σ, J t L st σ → G sd mid P t L st σ) (hN : ∀ L st σ, N L st σ → (∃ e', (mD mid)[i + 1]? = some e') ∧ G sd mid P (i + 1) L st σ) (h : stepw sd (mH mid) (mR mid) P J N a b v ps L st σ (.iand)) : G sd mid P i L st σ := by
  obtain ⟨hp, ha, h1, h2⟩ := ent_facts hm he
  obtain ⟨hdg, hnx⟩ := h1 rfl
  unfold stepw at h
  dsimp only at h
  split at h
  next y x st' => refine fallG hp hnx (hN _ _ _ h) (fun p l e s m args below meth c H locs ls D cs as dd Q hC hW hl kk => lv_iand hC.1 hC.2.1 hdg (kk ls hl))
  next => exact h.elim
theorem sn_ior {sd : Bool} {mid i pc a b : Nat} {P : Option AV → Sg → Prop} {v : Int32} {ps : List (Int32 × Nat)} {po : Nat} {L : Lc} {st : List AV} {σ : Sg} {J : Nat → Lc → List AV → Sg → Prop} {N : Lc → List AV → Sg → Prop} (hm : mid < nM) (he : (mD mid)[i]? = some (pc, .ior, a, b, v, ps, po)) (hJ : ∀ t L st σ, J t L st σ → G sd mid P t L st σ) (hN : ∀ L st σ, N L st σ → (∃ e', (mD mid)[i + 1]? = some e') ∧ G sd mid P (i + 1) L st σ) (h : stepw sd (mH mid) (mR mid) P J N a b v ps L st σ (.ior)) : G sd mid P i L st σ := by
  obtain ⟨hp, ha, h1, h2⟩ := ent_facts hm he
  obtain ⟨hdg, hnx⟩ := h1 rfl
  unfold stepw at h
  dsimp only at h
  split at h
  next y x st' => refine fallG hp hnx (hN _ _ _ h) (fun p l e s m args below meth c H locs ls D cs as dd Q hC hW hl kk => lv_ior hC.1 hC.2.1 hdg (kk ls hl))
  next => exact h.elim
theorem sn_ishl {sd : Bool} {mid i pc a b : Nat} {P : Option AV → Sg → Prop} {v : Int32} {ps : List (Int32 × Nat)} {po : Nat} {L : Lc} {st : List AV} {σ : Sg} {J : Nat → Lc → List AV → Sg → Prop} {N : Lc → List AV → Sg → Prop} (hm : mid < nM) (he : (mD mid)[i]? = some (pc, .ishl, a, b, v, ps, po)) (hJ : ∀ t L st σ, J t L st σ → G sd mid P t L st σ) (hN : ∀ L st σ, N L st σ → (∃ e', (mD mid)[i + 1]? = some e') ∧ G sd mid P (i + 1) L st σ) (h : stepw sd (mH mid) (mR mid) P J N a b v ps L st σ (.ishl)) : G sd mid P i L st σ := by
  obtain ⟨hp, ha, h1, h2⟩ := ent_facts hm he
  obtain ⟨hdg, hnx⟩ := h1 rfl
  unfold stepw at h
  dsimp only at h
  split at h
  next y x st' => refine fallG hp hnx (hN _ _ _ h) (fun p l e s m args below meth c H locs ls D cs as dd Q hC hW hl kk => lv_ishl hC.1 hC.2.1 hdg (kk ls hl))
  next => exact h.elim
theorem sn_ishr {sd : Bool} {mid i pc a b : Nat} {P : Option AV → Sg → Prop} {v : Int32} {ps : List (Int32 × Nat)} {po : Nat} {L : Lc} {st : List AV} {σ : Sg} {J : Nat → Lc → List AV → Sg → Prop} {N : Lc → List AV → Sg → Prop} (hm : mid < nM) (he : (mD mid)[i]? = some (pc, .ishr, a, b, v, ps, po)) (hJ : ∀ t L st σ, J t L st σ → G sd mid P t L st σ) (hN : ∀ L st σ, N L st σ → (∃ e', (mD mid)[i + 1]? = some e') ∧ G sd mid P (i + 1) L st σ) (h : stepw sd (mH mid) (mR mid) P J N a b v ps L st σ (.ishr)) : G sd mid P i L st σ := by
  obtain ⟨hp, ha, h1, h2⟩ := ent_facts hm he
  obtain ⟨hdg, hnx⟩ := h1 rfl
  unfold stepw at h
  dsimp only at h
  split at h
  next y x st' => refine fallG hp hnx (hN _ _ _ h) (fun p l e s m args below meth c H locs ls D cs as dd Q hC hW hl kk => lv_ishr hC.1 hC.2.1 hdg (kk ls hl))
  next => exact h.elim
theorem sn_iushr {sd : Bool} {mid i pc a b : Nat} {P : Option AV → Sg → Prop} {v : Int32} {ps : List (Int32 × Nat)} {po : Nat} {L : Lc} {st : List AV} {σ : Sg} {J : Nat → Lc → List AV → Sg → Prop} {N : Lc → List AV → Sg → Prop} (hm : mid < nM) (he : (mD mid)[i]? = some (pc, .iushr, a, b, v, ps, po)) (hJ : ∀ t L st σ, J t L st σ → G sd mid P t L st σ) (hN : ∀ L st σ, N L st σ → (∃ e', (mD mid)[i + 1]? = some e') ∧ G sd mid P (i + 1) L st σ) (h : stepw sd (mH mid) (mR mid) P J N a b v ps L st σ (.iushr)) : G sd mid P i L st σ := by
  obtain ⟨hp, ha, h1, h2⟩ := ent_facts hm he
  obtain ⟨hdg, hnx⟩ := h1 rfl
  unfold stepw at h
  dsimp only at h
  split at h
  next y x st' => refine fallG hp hnx (hN _ _ _ h) (fun p l e s m args below meth c H locs ls D cs as dd Q hC hW hl kk => lv_iushr hC.1 hC.2.1 hdg rfl (kk ls hl))
  next => exact h.elim
theorem sn_ladd {sd : Bool} {mid i pc a b : Nat} {P : Option AV → Sg → Prop} {v : Int32} {ps : List (Int32 × Nat)} {po : Nat} {L : Lc} {st : List AV} {σ : Sg} {J : Nat → Lc → List AV → Sg → Prop} {N : Lc → List AV → Sg → Prop} (hm : mid < nM) (he : (mD mid)[i]? = some (pc, .ladd, a, b, v, ps, po)) (hJ : ∀ t L st σ, J t L st σ → G sd mid P t L st σ) (hN : ∀ L st σ, N L st σ → (∃ e', (mD mid)[i + 1]? = some e') ∧ G sd mid P (i + 1) L st σ) (h : stepw sd (mH mid) (mR mid) P J N a b v ps L st σ (.ladd)) : G sd mid P i L st σ := by
  obtain ⟨hp, ha, h1, h2⟩ := ent_facts hm he
  obtain ⟨hdg, hnx⟩ := h1 rfl
  unfold stepw at h
  dsimp only at h
  split at h
  next y x st' => refine fallG hp hnx (hN _ _ _ h) (fun p l e s m args below meth c H locs ls D cs as dd Q hC hW hl kk => lv_ladd hC.1 hC.2.1 hdg (kk ls hl))
  next => exact h.elim
theorem sn_lmul {sd : Bool} {mid i pc a b : Nat} {P : Option AV → Sg → Prop} {v : Int32} {ps : List (Int32 × Nat)} {po : Nat} {L : Lc} {st : List AV} {σ : Sg} {J : Nat → Lc → List AV → Sg → Prop} {N : Lc → List AV → Sg → Prop} (hm : mid < nM) (he : (mD mid)[i]? = some (pc, .lmul, a, b, v, ps, po)) (hJ : ∀ t L st σ, J t L st σ → G sd mid P t L st σ) (hN : ∀ L st σ, N L st σ → (∃ e', (mD mid)[i + 1]? = some e') ∧ G sd mid P (i + 1) L st σ) (h : stepw sd (mH mid) (mR mid) P J N a b v ps L st σ (.lmul)) : G sd mid P i L st σ := by
  obtain ⟨hp, ha, h1, h2⟩ := ent_facts hm he
  obtain ⟨hdg, hnx⟩ := h1 rfl
  unfold stepw at h
  dsimp only at h
  split at h
  next y x st' => refine fallG hp hnx (hN _ _ _ h) (fun p l e s m args below meth c H locs ls D cs as dd Q hC hW hl kk => lv_lmul hC.1 hC.2.1 hdg (kk ls hl))
  next => exact h.elim
theorem sn_idiv {sd : Bool} {mid i pc a b : Nat} {P : Option AV → Sg → Prop} {v : Int32} {ps : List (Int32 × Nat)} {po : Nat} {L : Lc} {st : List AV} {σ : Sg} {J : Nat → Lc → List AV → Sg → Prop} {N : Lc → List AV → Sg → Prop} (hm : mid < nM) (he : (mD mid)[i]? = some (pc, .idiv, a, b, v, ps, po)) (hJ : ∀ t L st σ, J t L st σ → G sd mid P t L st σ) (hN : ∀ L st σ, N L st σ → (∃ e', (mD mid)[i + 1]? = some e') ∧ G sd mid P (i + 1) L st σ) (h : stepw sd (mH mid) (mR mid) P J N a b v ps L st σ (.idiv)) : G sd mid P i L st σ := by
  obtain ⟨hp, ha, h1, h2⟩ := ent_facts hm he
  obtain ⟨hdg, hnx⟩ := h1 rfl
  unfold stepw at h
  dsimp only at h
  split at h
  next y x st' =>
    obtain ⟨hy, h⟩ := h
    rw [nI_0] at hy
    refine fallG hp hnx (hN _ _ _ h) (fun p l e s m args below meth c H locs ls D cs as dd Q hC hW hl kk => lv_idiv hC.1 hC.2.1 hdg hy (kk ls hl))
  next => exact h.elim
theorem sn_irem {sd : Bool} {mid i pc a b : Nat} {P : Option AV → Sg → Prop} {v : Int32} {ps : List (Int32 × Nat)} {po : Nat} {L : Lc} {st : List AV} {σ : Sg} {J : Nat → Lc → List AV → Sg → Prop} {N : Lc → List AV → Sg → Prop} (hm : mid < nM) (he : (mD mid)[i]? = some (pc, .irem, a, b, v, ps, po)) (hJ : ∀ t L st σ, J t L st σ → G sd mid P t L st σ) (hN : ∀ L st σ, N L st σ → (∃ e', (mD mid)[i + 1]? = some e') ∧ G sd mid P (i + 1) L st σ) (h : stepw sd (mH mid) (mR mid) P J N a b v ps L st σ (.irem)) : G sd mid P i L st σ := by
  obtain ⟨hp, ha, h1, h2⟩ := ent_facts hm he
  obtain ⟨hdg, hnx⟩ := h1 rfl
  unfold stepw at h
  dsimp only at h
  split at h
  next y x st' =>
    obtain ⟨hy, h⟩ := h
    rw [nI_0] at hy
    refine fallG hp hnx (hN _ _ _ h) (fun p l e s m args below meth c H locs ls D cs as dd Q hC hW hl kk => lv_irem hC.1 hC.2.1 hdg hy (kk ls hl))
  next => exact h.elim
theorem sn_ineg {sd : Bool} {mid i pc a b : Nat} {P : Option AV → Sg → Prop} {v : Int32} {ps : List (Int32 × Nat)} {po : Nat} {L : Lc} {st : List AV} {σ : Sg} {J : Nat → Lc → List AV → Sg → Prop} {N : Lc → List AV → Sg → Prop} (hm : mid < nM) (he : (mD mid)[i]? = some (pc, .ineg, a, b, v, ps, po)) (hJ : ∀ t L st σ, J t L st σ → G sd mid P t L st σ) (hN : ∀ L st σ, N L st σ → (∃ e', (mD mid)[i + 1]? = some e') ∧ G sd mid P (i + 1) L st σ) (h : stepw sd (mH mid) (mR mid) P J N a b v ps L st σ (.ineg)) : G sd mid P i L st σ := by
  obtain ⟨hp, ha, h1, h2⟩ := ent_facts hm he
  obtain ⟨hdg, hnx⟩ := h1 rfl
  unfold stepw at h
  dsimp only at h
  split at h
  next x st' => refine fallG hp hnx (hN _ _ _ h) (fun p l e s m args below meth c H locs ls D cs as dd Q hC hW hl kk => lv_ineg hC.1 hC.2.1 hdg (kk ls hl))
  next => exact h.elim
theorem sn_i2l {sd : Bool} {mid i pc a b : Nat} {P : Option AV → Sg → Prop} {v : Int32} {ps : List (Int32 × Nat)} {po : Nat} {L : Lc} {st : List AV} {σ : Sg} {J : Nat → Lc → List AV → Sg → Prop} {N : Lc → List AV → Sg → Prop} (hm : mid < nM) (he : (mD mid)[i]? = some (pc, .i2l, a, b, v, ps, po)) (hJ : ∀ t L st σ, J t L st σ → G sd mid P t L st σ) (hN : ∀ L st σ, N L st σ → (∃ e', (mD mid)[i + 1]? = some e') ∧ G sd mid P (i + 1) L st σ) (h : stepw sd (mH mid) (mR mid) P J N a b v ps L st σ (.i2l)) : G sd mid P i L st σ := by
  obtain ⟨hp, ha, h1, h2⟩ := ent_facts hm he
  obtain ⟨hdg, hnx⟩ := h1 rfl
  unfold stepw at h
  dsimp only at h
  split at h
  next x st' => refine fallG hp hnx (hN _ _ _ h) (fun p l e s m args below meth c H locs ls D cs as dd Q hC hW hl kk => lv_i2l hC.1 hC.2.1 hdg rfl (kk ls hl))
  next => exact h.elim
theorem sn_dup {sd : Bool} {mid i pc a b : Nat} {P : Option AV → Sg → Prop} {v : Int32} {ps : List (Int32 × Nat)} {po : Nat} {L : Lc} {st : List AV} {σ : Sg} {J : Nat → Lc → List AV → Sg → Prop} {N : Lc → List AV → Sg → Prop} (hm : mid < nM) (he : (mD mid)[i]? = some (pc, .dup, a, b, v, ps, po)) (hJ : ∀ t L st σ, J t L st σ → G sd mid P t L st σ) (hN : ∀ L st σ, N L st σ → (∃ e', (mD mid)[i + 1]? = some e') ∧ G sd mid P (i + 1) L st σ) (h : stepw sd (mH mid) (mR mid) P J N a b v ps L st σ (.dup)) : G sd mid P i L st σ := by
  obtain ⟨hp, ha, h1, h2⟩ := ent_facts hm he
  obtain ⟨hdg, hnx⟩ := h1 rfl
  unfold stepw at h
  dsimp only at h
  split at h
  next x st' => refine fallG hp hnx (hN _ _ _ h) (fun p l e s m args below meth c H locs ls D cs as dd Q hC hW hl kk => lv_dup hC.1 hC.2.1 hdg rfl (kk ls hl))
  next x st' => refine fallG hp hnx (hN _ _ _ h) (fun p l e s m args below meth c H locs ls D cs as dd Q hC hW hl kk => lv_dup hC.1 hC.2.1 hdg rfl (kk ls hl))
  next => exact h.elim
theorem sn_dup2 {sd : Bool} {mid i pc a b : Nat} {P : Option AV → Sg → Prop} {v : Int32} {ps : List (Int32 × Nat)} {po : Nat} {L : Lc} {st : List AV} {σ : Sg} {J : Nat → Lc → List AV → Sg → Prop} {N : Lc → List AV → Sg → Prop} (hm : mid < nM) (he : (mD mid)[i]? = some (pc, .dup2, a, b, v, ps, po)) (hJ : ∀ t L st σ, J t L st σ → G sd mid P t L st σ) (hN : ∀ L st σ, N L st σ → (∃ e', (mD mid)[i + 1]? = some e') ∧ G sd mid P (i + 1) L st σ) (h : stepw sd (mH mid) (mR mid) P J N a b v ps L st σ (.dup2)) : G sd mid P i L st σ := by
  obtain ⟨hp, ha, h1, h2⟩ := ent_facts hm he
  obtain ⟨hdg, hnx⟩ := h1 rfl
  unfold stepw at h
  dsimp only at h
  split at h
  next x y st' => refine fallG hp hnx (hN _ _ _ h) (fun p l e s m args below meth c H locs ls D cs as dd Q hC hW hl kk => lv_dup2_11 hC.1 hC.2.1 hdg rfl rfl (kk ls hl))
  next => exact h.elim
theorem jmpG {sd : Bool} {mid i t : Nat} {P : Option AV → Sg → Prop} {L : Lc} {st st2 : List AV} {σ : Sg} (k : G sd mid P t L st2 σ)
    (row : ∀ (p : Program) (l : Launch) (e : Env) (s : State) (m : MethodId) (args : Array Value) (below : List Frame) (meth : Method) (c : Code) (H : Heap) (locs : List Loc) (ls : Array Slot) (as : Ad) (d : Nat) (Q : State → Prop), Cx mid p s m args meth c → W p l e (rmD d) s m args below meth c H locs 0 0 Q (F0 m (pcM mid t) ls (st2.map (cv as))) → W p l e (rmD d) s m args below meth c H locs 0 0 Q (F0 m (pcM mid i) ls (st.map (cv as)))) : G sd mid P i L st σ := by
  refine G_of (fun r σ' hG => ?_) k
  intro p l e s m args below meth c H locs ls D cs as d hd hC hW hS hl
  exact row p l e s m args below meth c H locs ls as d _ hC (hG p l e s m args below meth c H locs ls D cs as d hd hC hW hS hl)
theorem sn_goto {sd : Bool} {mid i pc a b : Nat} {P : Option AV → Sg → Prop} {v : Int32} {ps : List (Int32 × Nat)} {po : Nat} {L : Lc} {st : List AV} {σ : Sg} {J : Nat → Lc → List AV → Sg → Prop} {N : Lc → List AV → Sg → Prop} (hm : mid < nM) {q : Int} (he : (mD mid)[i]? = some (pc, .goto q, a, b, v, ps, po)) (hJ : ∀ t L st σ, J t L st σ → G sd mid P t L st σ) (hN : ∀ L st σ, N L st σ → (∃ e', (mD mid)[i + 1]? = some e') ∧ G sd mid P (i + 1) L st σ) (h : stepw sd (mH mid) (mR mid) P J N a b v ps L st σ (.goto q)) : G sd mid P i L st σ := by
  obtain ⟨hp, ha, h1, h2⟩ := ent_facts hm he
  obtain ⟨hdg, hnx⟩ := h1 rfl
  refine jmpG (hJ a L st σ h) (fun p l e s m args below meth c H locs ls as d Q hC k => by rw [hp]; exact lv_goto hC.1 hC.2.1 hdg (tg_spec ha) k)
theorem sn_if_icmp {sd : Bool} {mid i pc a b : Nat} {P : Option AV → Sg → Prop} {v : Int32} {ps : List (Int32 × Nat)} {po : Nat} {L : Lc} {st : List AV} {σ : Sg} {J : Nat → Lc → List AV → Sg → Prop} {N : Lc → List AV → Sg → Prop} (hm : mid < nM) {cnd : Jvm.ClassFile.Cond} {q : Int} (he : (mD mid)[i]? = some (pc, .if_icmp cnd q, a, b, v, ps, po)) (hJ : ∀ t L st σ, J t L st σ → G sd mid P t L st σ) (hN : ∀ L st σ, N L st σ → (∃ e', (mD mid)[i + 1]? = some e') ∧ G sd mid P (i + 1) L st σ) (h : stepw sd (mH mid) (mR mid) P J N a b v ps L st σ (.if_icmp cnd q)) : G sd mid P i L st σ := by
  obtain ⟨hp, ha, h1, h2⟩ := ent_facts hm he
  obtain ⟨hdg, hnx⟩ := h1 rfl
  unfold stepw at h
  dsimp only at h
  split at h
  next y x st' =>
    cases cnd with
    | eq =>
      obtain ⟨ht, hf⟩ := h
      by_cases hc : x = y
      · refine jmpG (hJ _ _ _ _ (ht hc)) (fun p l e s m args below meth c H locs ls as d Q hC k => by rw [hp]; exact lv_icmp_eq hC.1 hC.2.1 hdg (tg_spec ha) (fun _ => k) (fun q => absurd hc q))
      · obtain ⟨⟨e', he'⟩, k⟩ := hN _ _ _ (hf hc)
        refine jmpG k (fun p l e s m args below meth c H locs ls as d Q hC k => by
          rw [hnx e' he'] at k
          rw [hp]
          exact lv_icmp_eq hC.1 hC.2.1 hdg (tg_spec ha) (fun q => absurd q hc) (fun _ => k))
    | ne =>
      obtain ⟨ht, hf⟩ := h
      by_cases hc : x = y
      · obtain ⟨⟨e', he'⟩, k⟩ := hN _ _ _ (hf hc)
        refine jmpG k (fun p l e s m args below meth c H locs ls as d Q hC k => by
          rw [hnx e' he'] at k
          rw [hp]
          exact lv_icmp_ne hC.1 hC.2.1 hdg (tg_spec ha) (fun q => absurd hc q) (fun _ => k))
      · refine jmpG (hJ _ _ _ _ (ht hc)) (fun p l e s m args below meth c H locs ls as d Q hC k => by rw [hp]; exact lv_icmp_ne hC.1 hC.2.1 hdg (tg_spec ha) (fun _ => k) (fun q => absurd q hc))
    | lt =>
      obtain ⟨ht, hf⟩ := h
      by_cases hc : x < y
      · refine jmpG (hJ _ _ _ _ (ht hc)) (fun p l e s m args below meth c H locs ls as d Q hC k => by rw [hp]; exact lv_icmp_lt hC.1 hC.2.1 hdg (tg_spec ha) (fun _ => k) (fun q => absurd hc q))
      · obtain ⟨⟨e', he'⟩, k⟩ := hN _ _ _ (hf hc)
        refine jmpG k (fun p l e s m args below meth c H locs ls as d Q hC k => by
          rw [hnx e' he'] at k
          rw [hp]
          exact lv_icmp_lt hC.1 hC.2.1 hdg (tg_spec ha) (fun q => absurd q hc) (fun _ => k))
    | ge =>
      obtain ⟨ht, hf⟩ := h
      by_cases hc : y ≤ x
      · refine jmpG (hJ _ _ _ _ (ht hc)) (fun p l e s m args below meth c H locs ls as d Q hC k => by rw [hp]; exact lv_icmp_ge hC.1 hC.2.1 hdg (tg_spec ha) (fun _ => k) (fun q => absurd hc q))
      · obtain ⟨⟨e', he'⟩, k⟩ := hN _ _ _ (hf hc)
        refine jmpG k (fun p l e s m args below meth c H locs ls as d Q hC k => by
          rw [hnx e' he'] at k
          rw [hp]
          exact lv_icmp_ge hC.1 hC.2.1 hdg (tg_spec ha) (fun q => absurd q hc) (fun _ => k))
    | gt =>
      obtain ⟨ht, hf⟩ := h
      by_cases hc : y < x
      · refine jmpG (hJ _ _ _ _ (ht hc)) (fun p l e s m args below meth c H locs ls as d Q hC k => by rw [hp]; exact lv_icmp_gt hC.1 hC.2.1 hdg (tg_spec ha) (fun _ => k) (fun q => absurd hc q))
      · obtain ⟨⟨e', he'⟩, k⟩ := hN _ _ _ (hf hc)
        refine jmpG k (fun p l e s m args below meth c H locs ls as d Q hC k => by
          rw [hnx e' he'] at k
          rw [hp]
          exact lv_icmp_gt hC.1 hC.2.1 hdg (tg_spec ha) (fun q => absurd q hc) (fun _ => k))
    | le =>
      obtain ⟨ht, hf⟩ := h
      by_cases hc : x ≤ y
      · refine jmpG (hJ _ _ _ _ (ht hc)) (fun p l e s m args below meth c H locs ls as d Q hC k => by rw [hp]; exact lv_icmp_le hC.1 hC.2.1 hdg (tg_spec ha) (fun _ => k) (fun q => absurd hc q))
      · obtain ⟨⟨e', he'⟩, k⟩ := hN _ _ _ (hf hc)
        refine jmpG k (fun p l e s m args below meth c H locs ls as d Q hC k => by
          rw [hnx e' he'] at k
          rw [hp]
          exact lv_icmp_le hC.1 hC.2.1 hdg (tg_spec ha) (fun q => absurd q hc) (fun _ => k))
  next => exact h.elim
theorem sn_ifCond {sd : Bool} {mid i pc a b : Nat} {P : Option AV → Sg → Prop} {v : Int32} {ps : List (Int32 × Nat)} {po : Nat} {L : Lc} {st : List AV} {σ : Sg} {J : Nat → Lc → List AV → Sg → Prop} {N : Lc → List AV → Sg → Prop} (hm : mid < nM) {cnd : Jvm.ClassFile.Cond} {q : Int} (he : (mD mid)[i]? = some (pc, .ifCond cnd q, a, b, v, ps, po)) (hJ : ∀ t L st σ, J t L st σ → G sd mid P t L st σ) (hN : ∀ L st σ, N L st σ → (∃ e', (mD mid)[i + 1]? = some e') ∧ G sd mid P (i + 1) L st σ) (h : stepw sd (mH mid) (mR mid) P J N a b v ps L st σ (.ifCond cnd q)) : G sd mid P i L st σ := by
  obtain ⟨hp, ha, h1, h2⟩ := ent_facts hm he
  obtain ⟨hdg, hnx⟩ := h1 rfl
  unfold stepw at h
  dsimp only at h
  split at h
  next x st' =>
    rw [nI_0] at h
    cases cnd with
    | eq =>
      obtain ⟨ht, hf⟩ := h
      by_cases hc : x = 0
      · refine jmpG (hJ _ _ _ _ (ht hc)) (fun p l e s m args below meth c H locs ls as d Q hC k => by rw [hp]; exact lv_if_eq hC.1 hC.2.1 hdg (tg_spec ha) (fun _ => k) (fun q => absurd hc q))
      · obtain ⟨⟨e', he'⟩, k⟩ := hN _ _ _ (hf hc)
        refine jmpG k (fun p l e s m args below meth c H locs ls as d Q hC k => by
          rw [hnx e' he'] at k
          rw [hp]
          exact lv_if_eq hC.1 hC.2.1 hdg (tg_spec ha) (fun q => absurd q hc) (fun _ => k))
    | ne =>
      obtain ⟨ht, hf⟩ := h
      by_cases hc : x = 0
      · obtain ⟨⟨e', he'⟩, k⟩ := hN _ _ _ (hf hc)
        refine jmpG k (fun p l e s m args below meth c H locs ls as d Q hC k => by
          rw [hnx e' he'] at k
          rw [hp]
          exact lv_if_ne hC.1 hC.2.1 hdg (tg_spec ha) (fun q => absurd hc q) (fun _ => k))
      · refine jmpG (hJ _ _ _ _ (ht hc)) (fun p l e s m args below meth c H locs ls as d Q hC k => by rw [hp]; exact lv_if_ne hC.1 hC.2.1 hdg (tg_spec ha) (fun _ => k) (fun q => absurd q hc))
    | lt =>
      obtain ⟨ht, hf⟩ := h
      by_cases hc : x < 0
      · refine jmpG (hJ _ _ _ _ (ht hc)) (fun p l e s m args below meth c H locs ls as d Q hC k => by rw [hp]; exact lv_if_lt hC.1 hC.2.1 hdg (tg_spec ha) (fun _ => k) (fun q => absurd hc q))
      · obtain ⟨⟨e', he'⟩, k⟩ := hN _ _ _ (hf hc)
        refine jmpG k (fun p l e s m args below meth c H locs ls as d Q hC k => by
          rw [hnx e' he'] at k
          rw [hp]
          exact lv_if_lt hC.1 hC.2.1 hdg (tg_spec ha) (fun q => absurd q hc) (fun _ => k))
    | ge =>
      obtain ⟨ht, hf⟩ := h
      by_cases hc : 0 ≤ x
      · refine jmpG (hJ _ _ _ _ (ht hc)) (fun p l e s m args below meth c H locs ls as d Q hC k => by rw [hp]; exact lv_if_ge hC.1 hC.2.1 hdg (tg_spec ha) (fun _ => k) (fun q => absurd hc q))
      · obtain ⟨⟨e', he'⟩, k⟩ := hN _ _ _ (hf hc)
        refine jmpG k (fun p l e s m args below meth c H locs ls as d Q hC k => by
          rw [hnx e' he'] at k
          rw [hp]
          exact lv_if_ge hC.1 hC.2.1 hdg (tg_spec ha) (fun q => absurd q hc) (fun _ => k))
    | gt =>
      obtain ⟨ht, hf⟩ := h
      by_cases hc : 0 < x
      · refine jmpG (hJ _ _ _ _ (ht hc)) (fun p l e s m args below meth c H locs ls as d Q hC k => by rw [hp]; exact lv_if_gt hC.1 hC.2.1 hdg (tg_spec ha) (fun _ => k) (fun q => absurd hc q))
      · obtain ⟨⟨e', he'⟩, k⟩ := hN _ _ _ (hf hc)
        refine jmpG k (fun p l e s m args below meth c H locs ls as d Q hC k => by
          rw [hnx e' he'] at k
          rw [hp]
          exact lv_if_gt hC.1 hC.2.1 hdg (tg_spec ha) (fun q => absurd q hc) (fun _ => k))
    | le =>
      obtain ⟨ht, hf⟩ := h
      by_cases hc : x ≤ 0
      · refine jmpG (hJ _ _ _ _ (ht hc)) (fun p l e s m args below meth c H locs ls as d Q hC k => by rw [hp]; exact lv_if_le hC.1 hC.2.1 hdg (tg_spec ha) (fun _ => k) (fun q => absurd hc q))
      · obtain ⟨⟨e', he'⟩, k⟩ := hN _ _ _ (hf hc)
        refine jmpG k (fun p l e s m args below meth c H locs ls as d Q hC k => by
          rw [hnx e' he'] at k
          rw [hp]
          exact lv_if_le hC.1 hC.2.1 hdg (tg_spec ha) (fun q => absurd q hc) (fun _ => k))
  next => exact h.elim
theorem swt_spec {x : Int32} {J : Nat → Prop} {dflt : Prop} : ∀ {ps : List (Int32 × Nat)}, swt x J dflt ps → (∃ (q : Nat) (v : Int32) (t : Nat), ps[q]? = some (v, t) ∧ x = v ∧ J t) ∨ ((∀ (q : Nat) (v : Int32) (t : Nat), ps[q]? = some (v, t) → ¬ x = v) ∧ dflt)
  | [], h => Or.inr ⟨fun q v t hq => by simp at hq, h⟩
  | (v, t) :: ps, h => by
    by_cases hx : x = v
    · exact Or.inl ⟨0, v, t, rfl, hx, h.1 hx⟩
    · rcases swt_spec h.2 with ⟨q, v', t', h1, h2, h3⟩ | ⟨h1, h2⟩
      · exact Or.inl ⟨q + 1, v', t', h1, h2, h3⟩
      · refine Or.inr ⟨fun q v' t' hq => ?_, h2⟩
        cases q with
        | zero => cases hq; exact hx
        | succ q => exact h1 q v' t' hq
theorem swt_first {x : Int32} {J : Nat → Prop} {dflt : Prop} : ∀ {ps : List (Int32 × Nat)}, swt x J dflt ps → (∃ (q : Nat) (v : Int32) (t : Nat), ps[q]? = some (v, t) ∧ x = v ∧ (∀ (q' : Nat) (v' : Int32) (t' : Nat), q' < q → ps[q']? = some (v', t') → ¬ x = v') ∧ J t) ∨ ((∀ (q : Nat) (v : Int32) (t : Nat), ps[q]? = some (v, t) → ¬ x = v) ∧ dflt)
  | [], h => Or.inr ⟨fun q v t hq => by simp at hq, h⟩
  | (v, t) :: ps, h => by
    by_cases hx : x = v
    · exact Or.inl ⟨0, v, t, rfl, hx, fun q' _ _ hq' => by omega, h.1 hx⟩
    · rcases swt_first h.2 with ⟨q, v', t', h1, h2, h4, h3⟩ | ⟨h1, h2⟩
      · refine Or.inl ⟨q + 1, v', t', h1, h2, fun q' v2 t2 hq' hs => ?_, h3⟩
        cases q' with
        | zero => cases hs; exact hx
        | succ q' => exact h4 q' v2 t2 (by omega) hs
      · refine Or.inr ⟨fun q v' t' hq => ?_, h2⟩
        cases q with
        | zero => cases hq; exact hx
        | succ q => exact h1 q v' t' hq
theorem swd_of {x : Int32} : ∀ {ps : List (Int32 × Nat)}, (∀ (q : Nat) (v : Int32) (t : Nat), ps[q]? = some (v, t) → ¬ x = v) → swd x ps
  | [], _ => trivial
  | (v, t) :: ps, h => ⟨h 0 v t rfl, swd_of fun q v' t' hq => h (q + 1) v' t' hq⟩
theorem swOk_spec {mid pc : Nat} : ∀ {k : Int} {os : List Int} {ps : List (Int32 × Nat)}, swOk (mD mid) pc k os ps = true → os.length = ps.length ∧ ∀ (q : Nat) (v : Int32) (t : Nat), ps[q]? = some (v, t) → v.toInt = k + (q : Int) ∧ ∃ o : Int, os[q]? = some o ∧ (pc : Int) + o = ((pcM mid t : Nat) : Int)
  | k, [], [], _ => ⟨rfl, fun q v t hq => by simp at hq⟩
  | k, [], _ :: _, h => by simp [swOk] at h
  | k, _ :: _, [], h => by simp [swOk] at h
  | k, o :: os, (v, t) :: ps, h => by
    simp only [swOk, Bool.and_eq_true, decide_eq_true_eq] at h
    obtain ⟨h1, h2, h3⟩ := h
    obtain ⟨g1, g2⟩ := swOk_spec h3
    refine ⟨by simp [g1], fun q v' t' hq => ?_⟩
    cases q with
    | zero => cases hq; exact ⟨by omega, o, rfl, tg_spec h2⟩
    | succ q =>
      obtain ⟨f1, o', f2, f3⟩ := g2 q v' t' hq
      exact ⟨by rw [f1]; push_cast; omega, o', f2, f3⟩
theorem lsOk_spec {mid pc : Nat} {x : Int32} {dflt : Int} : ∀ {os : List (Int × Int)} {ps : List (Int32 × Nat)}, lsOk (mD mid) pc os ps = true → (∀ (q : Nat) (v : Int32) (t : Nat), ps[q]? = some (v, t) → x = v → (∀ (q' : Nat) (v' : Int32) (t' : Nat), q' < q → ps[q']? = some (v', t') → ¬ x = v') → (pc : Int) + Op.lookupswitch.offset os dflt x.toInt = ((pcM mid t : Nat) : Int)) ∧ ((∀ (q : Nat) (v : Int32) (t : Nat), ps[q]? = some (v, t) → ¬ x = v) → Op.lookupswitch.offset os dflt x.toInt = dflt)
  | [], [], _ => ⟨fun q v t hq => by simp at hq, fun _ => by simp [Op.lookupswitch.offset]⟩
  | [], _ :: _, h => by simp [lsOk] at h
  | _ :: _, [], h => by simp [lsOk] at h
  | (k, o) :: os, (v, t) :: ps, h => by
    simp only [lsOk, Bool.and_eq_true, decide_eq_true_eq] at h
    obtain ⟨h1, h2, h3⟩ := h
    obtain ⟨g1, g2⟩ := lsOk_spec (x := x) (dflt := dflt) h3
    have hk : ∀ w : Int32, ¬ x = v → ¬ k = x.toInt := fun _ hx q => hx (Int32.toInt_inj.mp (by rw [h1, q]))
    have off : ¬ x = v → Op.lookupswitch.offset ((k, o) :: os) dflt x.toInt = Op.lookupswitch.offset os dflt x.toInt := fun hx => by
      have := hk 0 hx
      simp [Op.lookupswitch.offset, this]
    refine ⟨fun q v' t' hq hx hb => ?_, fun hn => ?_⟩
    · cases q with
      | zero =>
        cases hq
        subst hx
        have e : Op.lookupswitch.offset ((k, o) :: os) dflt x.toInt = o := by simp [Op.lookupswitch.offset, h1]
        rw [e]; exact tg_spec h2
      | succ q =>
        have hx0 : ¬ x = v := hb 0 v t (by omega) rfl
        rw [off hx0]
        exact g1 q v' t' hq hx (fun q' v2 t2 hq' hs => hb (q' + 1) v2 t2 (by omega) hs)
    · rw [off (hn 0 v t rfl)]
      exact g2 (fun q v' t' hq => hn (q + 1) v' t' hq)
theorem sn_tableswitch {sd : Bool} {mid i pc a b : Nat} {P : Option AV → Sg → Prop} {v : Int32} {ps : List (Int32 × Nat)} {po : Nat} {L : Lc} {st : List AV} {σ : Sg} {J : Nat → Lc → List AV → Sg → Prop} {N : Lc → List AV → Sg → Prop} (hm : mid < nM) {dflt lo hi : Int} {offs : Array Int} (he : (mD mid)[i]? = some (pc, .tableswitch dflt lo hi offs, a, b, v, ps, po)) (hJ : ∀ t L st σ, J t L st σ → G sd mid P t L st σ) (hN : ∀ L st σ, N L st σ → (∃ e', (mD mid)[i + 1]? = some e') ∧ G sd mid P (i + 1) L st σ) (h : stepw sd (mH mid) (mR mid) P J N a b v ps L st σ (.tableswitch dflt lo hi offs)) : G sd mid P i L st σ := by
  obtain ⟨hp, ha, h1, h2⟩ := ent_facts hm he
  obtain ⟨len, hdg⟩ := h2 rfl
  simp only [argOk, Bool.and_eq_true, decide_eq_true_eq] at ha
  obtain ⟨a1, a2, a3⟩ := ha
  obtain ⟨g1, g2⟩ := swOk_spec a2
  unfold stepw at h
  dsimp only at h
  split at h
  next x st' =>
    rcases swt_spec h with ⟨q, v', t, hq, hx, hj⟩ | ⟨hn, hd⟩
    · obtain ⟨f1, o, f2, f3⟩ := g2 q v' t hq
      have hql : q < offs.toList.length := by rw [g1]; exact (List.getElem?_eq_some_iff.mp hq).1
      subst hx
      refine jmpG (hJ _ _ _ _ hj) (fun p l e s m args below meth c H locs ls as d Q hC k => by
        rw [hp]
        refine lv_tableIn (off := o) hC.1 hC.2.1 hdg (by omega) (by omega) ?_ f3 k
        rw [show (x.toInt - lo).toNat = q by omega, ← Array.getElem?_toList]
        exact f2)
    · refine jmpG (hJ _ _ _ _ (hd (swd_of hn))) (fun p l e s m args below meth c H locs ls as d Q hC k => by
        rw [hp]
        refine lv_tableOut hC.1 hC.2.1 hdg ?_ (tg_spec a1) k
        by_cases hlo : x.toInt < lo
        · exact Or.inl hlo
        · by_cases hhi : hi < x.toInt
          · exact Or.inr hhi
          · exfalso
            have hql : (x.toInt - lo).toNat < ps.length := by rw [← g1]; omega
            cases hvt : ps[(x.toInt - lo).toNat] with
            | mk v' t =>
              have hq : ps[(x.toInt - lo).toNat]? = some (v', t) := by rw [List.getElem?_eq_getElem hql, hvt]
              obtain ⟨f1, -⟩ := g2 _ v' t hq
              exact hn _ v' t hq (Int32.toInt_inj.mp (by omega)))
  next => exact h.elim
theorem sn_lookupswitch {sd : Bool} {mid i pc a b : Nat} {P : Option AV → Sg → Prop} {v : Int32} {ps : List (Int32 × Nat)} {po : Nat} {L : Lc} {st : List AV} {σ : Sg} {J : Nat → Lc → List AV → Sg → Prop} {N : Lc → List AV → Sg → Prop} (hm : mid < nM) {dflt : Int} {prs : Array (Int × Int)} (he : (mD mid)[i]? = some (pc, .lookupswitch dflt prs, a, b, v, ps, po)) (hJ : ∀ t L st σ, J t L st σ → G sd mid P t L st σ) (hN : ∀ L st σ, N L st σ → (∃ e', (mD mid)[i + 1]? = some e') ∧ G sd mid P (i + 1) L st σ) (h : stepw sd (mH mid) (mR mid) P J N a b v ps L st σ (.lookupswitch dflt prs)) : G sd mid P i L st σ := by
  obtain ⟨hp, ha, h1, h2⟩ := ent_facts hm he
  obtain ⟨len, hdg⟩ := h2 rfl
  simp only [argOk, Bool.and_eq_true] at ha
  obtain ⟨a1, a2, a3⟩ := ha
  unfold stepw at h
  dsimp only at h
  split at h
  next x st' =>
    obtain ⟨g1, g2⟩ := lsOk_spec (x := x) (dflt := dflt) a2
    rcases swt_first h with ⟨q, v', t, hq, hx, hb, hj⟩ | ⟨hn, hd⟩
    · have f := g1 q v' t hq hx hb
      refine jmpG (hJ _ _ _ _ hj) (fun p l e s m args below meth c H locs ls as d Q hC k => by
        rw [hp]
        exact lv_lookup hC.1 hC.2.1 hdg a3 rfl f k)
    · have f := g2 hn
      refine jmpG (hJ _ _ _ _ (hd (swd_of hn))) (fun p l e s m args below meth c H locs ls as d Q hC k => by
        rw [hp]
        exact lv_lookup hC.1 hC.2.1 hdg a3 f (tg_spec a1) k)
  next => exact h.elim
/-! memory and calls -/
theorem uw0 : (u_ws RX0 TX0 16).map some = [378, 380, 382, 384, 386, 388, 390, 392, 394, 396, 398, 400, 402, 404, 406, 408].map (fun i => lw_tbl[i]?) := by decide +kernel
theorem uw1 : (u_ws RX1 TX1 3).map some = [422, 424, 426].map (fun i => lw_tbl[i]?) := by decide +kernel
theorem uw2 : (u_ws RX2 TX2 9).map some = [336, 338, 340, 342, 344, 346, 348, 350, 352].map (fun i => lw_tbl[i]?) := by decide +kernel
theorem uw3 : (u_ws RX3 TX3 5).map some = [248, 250, 252, 254, 256].map (fun i => lw_tbl[i]?) := by decide +kernel
theorem uw4 : (u_ws RX4 TX4 2).map some = [462, 464].map (fun i => lw_tbl[i]?) := by decide +kernel
theorem uw5 : (u_ws RX5 TX5 5).map some = [441, 443, 445, 447, 449].map (fun i => lw_tbl[i]?) := by decide +kernel
theorem uw6 : (u_ws RX6 TX6 11).map some = [207, 209, 211, 213, 215, 217, 219, 221, 223, 225, 227].map (fun i => lw_tbl[i]?) := by decide +kernel
theorem uw7 : (u_ws RX7 TX7 8).map some = [483, 485, 487, 489, 491, 493, 495, 497].map (fun i => lw_tbl[i]?) := by decide +kernel
theorem uw8 : (u_ws RX8 TX8 15).map some = [150, 152, 154, 156, 158, 160, 162, 164, 166, 168, 170, 172, 174, 176, 178].map (fun i => lw_tbl[i]?) := by decide +kernel
theorem uw9 : (u_ws RX9 TX9 3).map some = [510, 512, 514].map (fun i => lw_tbl[i]?) := by decide +kernel
theorem uw10 : (u_ws RX10 TX10 7).map some = [290, 292, 294, 296, 298, 300, 302].map (fun i => lw_tbl[i]?) := by decide +kernel
theorem uw11 : (u_ws RX11 TX11 10).map some = [527, 529, 531, 533, 535, 537, 539, 541, 543, 545].map (fun i => lw_tbl[i]?) := by decide +kernel
theorem uw12 : (u_ws RX12 TX12 50).map some = [1230, 1232, 1234, 1236, 1238, 1240, 1242, 1244, 1246, 1248, 1250, 1252, 1254, 1256, 1258, 1260, 1262, 1264, 1266, 1268, 1270, 1272, 1274, 1276, 1278, 1280, 1282, 1284, 1286, 1288, 1290, 1292, 1294, 1296, 1298, 1300, 1302, 1304, 1306, 1308, 1310, 1312, 1314, 1316, 1318, 1320, 1322, 1324, 1326, 1328].map (fun i => lw_tbl[i]?) := by decide +kernel
theorem uw_in {ws : List Jvm.Cond} {ps : List Nat} (h : ws.map some = ps.map (fun i => lw_tbl[i]?)) (hg : ws.all goodWord = true) : ∀ w ∈ ws, w ∈ lw_g := by
  intro w hw
  have h1 : some w ∈ ws.map some := List.mem_map.mpr ⟨w, hw, rfl⟩
  rw [h] at h1
  obtain ⟨i, -, hi⟩ := List.mem_map.mp h1
  exact List.mem_filter.mpr ⟨List.mem_of_getElem? hi, List.all_eq_true.mp hg w hw⟩
theorem cls_ok {a : Nat} {q : vw_C} (h : classes[a]? = some q) : (∀ w ∈ u_ws q.1 q.2.1 q.2.2, w ∈ lw_g) ∧ (∃ ty0 : Nat → FieldType, ∀ k, k < q.2.2 → parseFieldDescriptor (q.2.1 k).2.2.1 = some (ty0 k)) ∧ ∀ x, x < q.2.2 → ∀ y, y < q.2.2 → x ≠ y → (q.2.1 x).2.1 ≠ (q.2.1 y).2.1 := by
  match a, h with
  | 0, h => cases h; exact ⟨uw_in uw0 (by decide +kernel), ⟨tyX0, tyX0_ok⟩, nmX0⟩
  | 1, h => cases h; exact ⟨uw_in uw1 (by decide +kernel), ⟨tyX1, tyX1_ok⟩, nmX1⟩
  | 2, h => cases h; exact ⟨uw_in uw2 (by decide +kernel), ⟨tyX2, tyX2_ok⟩, nmX2⟩
  | 3, h => cases h; exact ⟨uw_in uw3 (by decide +kernel), ⟨tyX3, tyX3_ok⟩, nmX3⟩
  | 4, h => cases h; exact ⟨uw_in uw4 (by decide +kernel), ⟨tyX4, tyX4_ok⟩, nmX4⟩
  | 5, h => cases h; exact ⟨uw_in uw5 (by decide +kernel), ⟨tyX5, tyX5_ok⟩, nmX5⟩
  | 6, h => cases h; exact ⟨uw_in uw6 (by decide +kernel), ⟨tyX6, tyX6_ok⟩, nmX6⟩
  | 7, h => cases h; exact ⟨uw_in uw7 (by decide +kernel), ⟨tyX7, tyX7_ok⟩, nmX7⟩
  | 8, h => cases h; exact ⟨uw_in uw8 (by decide +kernel), ⟨tyX8, tyX8_ok⟩, nmX8⟩
  | 9, h => cases h; exact ⟨uw_in uw9 (by decide +kernel), ⟨tyX9, tyX9_ok⟩, nmX9⟩
  | 10, h => cases h; exact ⟨uw_in uw10 (by decide +kernel), ⟨tyX10, tyX10_ok⟩, nmX10⟩
  | 11, h => cases h; exact ⟨uw_in uw11 (by decide +kernel), ⟨tyX11, tyX11_ok⟩, nmX11⟩
  | 12, h => cases h; exact ⟨uw_in uw12 (by decide +kernel), ⟨tyX12, tyX12_ok⟩, nmX12⟩
  | a + 13, h => simp [classes] at h
theorem clT_spec {a b : Nat} {rf nm ds : String} {fin : Bool} {n : Nat} (h : clT a b = some (rf, nm, ds, fin, n)) : ∃ q, classes[a]? = some q ∧ (q.2.1 b).1 = rf ∧ (q.2.1 b).2.1 = nm ∧ (q.2.1 b).2.2.1 = ds ∧ (q.2.1 b).2.2.2 = fin ∧ q.2.2 = n := by
  unfold clT at h
  cases hq : classes[a]? with
  | none => rw [hq] at h; cases h
  | some q =>
    rw [hq] at h
    cases h
    exact ⟨q, rfl, rfl, rfl, rfl, rfl, rfl⟩
def lenK (k : Nat) : Bool := match shp k with
  | some (_, .inr (.inl (_, len))) => Nat.blt (len true) 2147483648 && Nat.blt (len false) 2147483648
  | some (_, .inr (.inr (n, len))) => Nat.blt n 2147483648 && (Nat.blt (len true) 2147483648 && Nat.blt (len false) 2147483648)
  | _ => true
theorem lenK_ok : ∀ k, lenK k = true := by
  intro k
  by_cases h : k < 105
  · exact List.all_eq_true.mp (by decide +kernel : (List.range 105).all lenK = true) k (List.mem_range.mpr h)
  · have : shp k = none := by
      unfold shp
      rw [show Nat.blt k 105 = false by rw [Bool.eq_false_iff]; intro q; exact h (Nat.blt_eq.mp q)]
      rfl
    unfold lenK
    rw [this]
theorem arrC_len {sd : Bool} {k : Nat} {d : Bool} {i : Nat} {z : Bool} {n : Nat} {rw' : Option (Nat × Nat)} (h : arrC sd k d i = some (z, n, rw')) : n < 2147483648 := by
  have hk := lenK_ok k
  unfold arrC at h
  unfold lenK at hk
  split at h
  next b z' len hs =>
    rw [hs] at hk
    simp only [Bool.and_eq_true, Nat.blt_eq] at hk
    split at h
    next hc =>
      cases h
      cases d
      · exact hk.2
      · exact hk.1
    next => cases h
  next b n' len hs =>
    rw [hs] at hk
    simp only [Bool.and_eq_true, Nat.blt_eq] at hk
    split at h
    next i' hc =>
      cases h
      cases d
      · exact hk.2.2
      · exact hk.2.1
    next => cases h
  next => cases h
theorem gridC_len {sd : Bool} {k : Nat} {d : Bool} {i n : Nat} (h : gridC sd k d i = some n) : n < 2147483648 := by
  have hk := lenK_ok k
  unfold gridC at h
  unfold lenK at hk
  split at h
  next b n' len hs =>
    rw [hs] at hk
    simp only [Bool.and_eq_true, Nat.blt_eq] at hk
    split at h
    next hc =>
      cases h
      exact hk.1
    next => cases h
  next => cases h
theorem in_of {j : Int32} {q n : Nat} (hn : n < 2147483648) (hj : j = nI q) (hq : q < n) : vp_in j n ∧ j.toNatClampNeg = q := by
  subst hj
  exact ⟨vp_in_nI hq hn, nI_clamp (by omega)⟩
theorem arrC_spec {sd : Bool} {k : Nat} {d : Bool} {i : Nat} {z : Bool} {n : Nat} {rw' : Option (Nat × Nat)} {Q : Prop} (h : arrC sd k d i = some (z, n, rw')) (hq : rowP rw' Q) (cs : Cs) (as : Ad) : ((k, d, i) ∈ lbs sd ∧ ∀ σ, cel cs as σ k d i = .inl (bif z then cs.2.1 else cs.1, n, .inl (σ k d i))) ∧ Q := by
  unfold arrC at h
  split at h
  next b z' len hs =>
    split at h
    next hc =>
      cases h
      rw [Bool.and_eq_true] at hc
      exact ⟨⟨lbs_mem hs hc.1 hc.2 (Nat.zero_le _), fun σ => by unfold cel; rw [hs]⟩, hq⟩
    next => cases h
  next b n' len hs =>
    split at h
    next i' hc =>
      cases h
      rw [Bool.and_eq_true] at hc
      exact ⟨⟨lbs_mem hs hc.1 hc.2 (by show i' + 1 ≤ n'; exact hq.1), fun σ => by unfold cel; rw [hs]; rfl⟩, hq.2⟩
    next => cases h
  next => cases h
theorem gridC_spec {sd : Bool} {k : Nat} {d : Bool} {i n : Nat} (h : gridC sd k d i = some n) (cs : Cs) (as : Ad) : (k, d, i) ∈ lbs sd ∧ ∀ σ, cel cs as σ k d i = .inl (cs.2.2, n, .inr (.inr (.inr (.inr fun j => if j < n then some (as k d (j + 1)) else none)))) := by
  unfold gridC at h
  split at h
  next b n' len hs =>
    split at h
    next hc =>
      cases h
      rw [Bool.and_eq_true] at hc
      exact ⟨lbs_mem hs hc.1 hc.2 (Nat.zero_le _), fun σ => by unfold cel; rw [hs]⟩
    next => cases h
  next => cases h
theorem objC_spec {sd : Bool} {k : Nat} {d : Bool} {i ci : Nat} {fs : List (Option (Nat × (Bool → Bool)))} (h : objC sd k d i = some (ci, fs)) (cs : Cs) (as : Ad) : (k, d, i) ∈ lbs sd ∧ ∀ σ, cel cs as σ k d i = .inr (ci, fs.mapIdx (objV as (σ k d i) d)) := by
  unfold objC at h
  split at h
  next b ci' fs' hs =>
    split at h
    next hc =>
      cases h
      rw [Bool.and_eq_true] at hc
      exact ⟨lbs_mem hs hc.1 hc.2 (Nat.zero_le _), fun σ => by unfold cel; rw [hs]⟩
    next => cases h
  next => cases h
theorem objV_set {as : Ad} {v : Nat → Int32} {d : Bool} {fs : List (Option (Nat × (Bool → Bool)))} {b : Nat} (h : fs[b]? = some none) (x : Int32) : fs.mapIdx (objV as (upd v b x) d) = (fs.mapIdx (objV as v d)).set b (.int x) := by
  refine List.ext_getElem? fun q => ?_
  rw [List.getElem?_mapIdx]
  by_cases hq : b = q
  · subst hq
    have hl : b < (fs.mapIdx (objV as v d)).length := by rw [List.length_mapIdx]; exact (List.getElem?_eq_some_iff.mp h).1
    rw [List.getElem?_set_self hl, h]
    show some (Value.int (upd v b x b)) = _
    unfold upd
    simp
  · rw [List.getElem?_set_ne hq, List.getElem?_mapIdx]
    cases fs[q]? with
    | none => rfl
    | some f =>
      cases f with
      | none =>
        show some (Value.int (upd v b x q)) = some (Value.int (v q))
        unfold upd
        rw [if_neg (fun e => hq e.symm)]
      | some _ => rfl
theorem sn_getfield {sd : Bool} {mid i pc a b : Nat} {P : Option AV → Sg → Prop} {v : Int32} {ps : List (Int32 × Nat)} {po : Nat} {L : Lc} {st : List AV} {σ : Sg} {J : Nat → Lc → List AV → Sg → Prop} {N : Lc → List AV → Sg → Prop} (hm : mid < nM) {n : Nat} (he : (mD mid)[i]? = some (pc, .getfield n, a, b, v, ps, po)) (hJ : ∀ t L st σ, J t L st σ → G sd mid P t L st σ) (hN : ∀ L st σ, N L st σ → (∃ e', (mD mid)[i + 1]? = some e') ∧ G sd mid P (i + 1) L st σ) (h : stepw sd (mH mid) (mR mid) P J N a b v ps L st σ (.getfield n)) : G sd mid P i L st σ := by
  obtain ⟨hp, ha, h1, h2⟩ := ent_facts hm he
  obtain ⟨hdg, hnx⟩ := h1 rfl
  unfold stepw at h
  dsimp only at h
  split at h
  next k d i' st' =>
    split at h
    next ci fs ho =>
      simp only [argOk] at ha
      split at ha
      next rf nm ds fin n' hcl =>
        rw [Bool.and_eq_true] at ha
        obtain ⟨hb1, hb2⟩ := ha
        have hb2 := of_decide_eq_true hb2
        have hb1 := Nat.blt_eq.mp hb1
        obtain ⟨q, hq, rfl, rfl, rfl, rfl, rfl⟩ := clT_spec hcl
        obtain ⟨c1, -, -⟩ := cls_ok hq
        split at h
        next hci hf =>
          have hci : ci = a := by simpa using hci
          subst hci
          refine fallG hp hnx (hN _ _ _ h) (fun p l e s m args below meth c H locs ls D cs as dd Q hC hW hl kk => ?_)
          obtain ⟨g1, g2⟩ := objC_spec ho cs as
          obtain ⟨q0, -, hq0⟩ := conc_get (cs := cs) (as := as) (σ := σ) g1
          rw [show cel cs as σ (k, d, i').1 (k, d, i').2.1 (k, d, i').2.2 = _ from g2 σ] at hq0
          exact va_get hC.1 hC.2.1 hC.2.2.2.2.2.1 c1 hC.2.2.2.2.1 hW.2.1 hW.1 q0 hq0 hq b hb1 (hts_at hC.2.2.2.2.2.1 hb2) (fun _ h => h) (v := .int (σ k d i' b)) (by rw [List.getElem?_mapIdx, hf]; rfl) hdg (kk ls hl)
        next k' g hci hf =>
          have hci : ci = a := by simpa using hci
          subst hci
          refine fallG hp hnx (hN _ _ _ h) (fun p l e s m args below meth c H locs ls D cs as dd Q hC hW hl kk => ?_)
          obtain ⟨g1, g2⟩ := objC_spec ho cs as
          obtain ⟨q0, -, hq0⟩ := conc_get (cs := cs) (as := as) (σ := σ) g1
          rw [show cel cs as σ (k, d, i').1 (k, d, i').2.1 (k, d, i').2.2 = _ from g2 σ] at hq0
          exact va_get hC.1 hC.2.1 hC.2.2.2.2.2.1 c1 hC.2.2.2.2.1 hW.2.1 hW.1 q0 hq0 hq b hb1 (hts_at hC.2.2.2.2.2.1 hb2) (fun _ h => h) (v := .ref (as k' (g d) 0)) (by rw [List.getElem?_mapIdx, hf]; rfl) hdg (kk ls hl)
        next => exact h.elim
      next => cases ha
    next => exact h.elim
  next => exact h.elim
theorem sn_putfield {sd : Bool} {mid i pc a b : Nat} {P : Option AV → Sg → Prop} {v : Int32} {ps : List (Int32 × Nat)} {po : Nat} {L : Lc} {st : List AV} {σ : Sg} {J : Nat → Lc → List AV → Sg → Prop} {N : Lc → List AV → Sg → Prop} (hm : mid < nM) {n : Nat} (he : (mD mid)[i]? = some (pc, .putfield n, a, b, v, ps, po)) (hJ : ∀ t L st σ, J t L st σ → G sd mid P t L st σ) (hN : ∀ L st σ, N L st σ → (∃ e', (mD mid)[i + 1]? = some e') ∧ G sd mid P (i + 1) L st σ) (h : stepw sd (mH mid) (mR mid) P J N a b v ps L st σ (.putfield n)) : G sd mid P i L st σ := by
  obtain ⟨hp, ha, h1, h2⟩ := ent_facts hm he
  obtain ⟨hdg, hnx⟩ := h1 rfl
  unfold stepw at h
  dsimp only at h
  split at h
  next x k d i' st' =>
    split at h
    next ci fs ho =>
      simp only [argOk] at ha
      split at ha
      next rf nm ds fin n' hcl =>
        simp only [Bool.and_eq_true, decide_eq_true_eq] at ha
        obtain ⟨hb1, hfin, hds, hb2⟩ := ha
        have hb1 := Nat.blt_eq.mp hb1
        obtain ⟨q, hq, rfl, rfl, rfl, rfl, rfl⟩ := clT_spec hcl
        obtain ⟨c1, ⟨ty0, c2⟩, c3⟩ := cls_ok hq
        split at h
        next hci hf =>
          have hci : ci = a := by simpa using hci
          subst hci
          obtain ⟨x, rfl, h⟩ := h
          refine fallS hp hnx (hN _ _ _ h) (fun p l e s m args below meth c H locs ls D cs as d' Q hd hC hW hS hsz kk => ?_)
          obtain ⟨g1, g2⟩ := objC_spec ho cs as
          obtain ⟨q0, hl0, hq0⟩ := conc_get (cs := cs) (as := as) (σ := σ) g1
          rw [show cel cs as σ (k, d, i').1 (k, d, i').2.1 (k, d, i').2.2 = _ from g2 σ] at hq0
          refine va_put hC.1 hC.2.1 hC.2.2.2.2.2.1 c1 ty0 c2 c3 hC.2.2.2.2.1 hW.2.1 hW.1 hW.2.2 hS q0 hq0 hq b hb1 (hts_at hC.2.2.2.2.2.1 hb2) (fun _ h => h) hfin (ty := .int) (v := .int x) (by rw [hds]; decide +kernel) rfl rfl (by rw [List.length_mapIdx]; exact (List.getElem?_eq_some_iff.mp hf).1) hdg (fun H1 locs1 hP1 hD1 hS1 => ?_)
          have e := conc_set (sd := sd) (cs := cs) (as := as) (σ := σ) b x hl0
          rw [g2 (up4 σ k d i' b x), up4_same, objV_set hf] at e
          rw [e] at hP1 hD1
          exact kk H1 locs1 ⟨hP1, hW.2.1, hD1⟩ hS1
        next => exact h.elim
      next => cases ha
    next => exact h.elim
  next => exact h.elim
theorem sn_iaload {sd : Bool} {mid i pc a b : Nat} {P : Option AV → Sg → Prop} {v : Int32} {ps : List (Int32 × Nat)} {po : Nat} {L : Lc} {st : List AV} {σ : Sg} {J : Nat → Lc → List AV → Sg → Prop} {N : Lc → List AV → Sg → Prop} (hm : mid < nM) (he : (mD mid)[i]? = some (pc, .iaload, a, b, v, ps, po)) (hJ : ∀ t L st σ, J t L st σ → G sd mid P t L st σ) (hN : ∀ L st σ, N L st σ → (∃ e', (mD mid)[i + 1]? = some e') ∧ G sd mid P (i + 1) L st σ) (h : stepw sd (mH mid) (mR mid) P J N a b v ps L st σ (.iaload)) : G sd mid P i L st σ := by
  obtain ⟨hp, ha, h1, h2⟩ := ent_facts hm he
  obtain ⟨hdg, hnx⟩ := h1 rfl
  unfold stepw at h
  dsimp only at h
  split at h
  next j k d i' st' =>
    split at h
    next n rw' ho =>
      have hh := fun cs as => (arrC_spec ho h cs as).1
      obtain ⟨-, q9, hj, hq9, h⟩ := arrC_spec ho h (0, 0, 0) (fun _ _ _ => 0)
      obtain ⟨hin, e9⟩ := in_of (arrC_len ho) hj hq9
      subst e9
      refine fallG hp hnx (hN _ _ _ h) (fun p l e s m args below meth c H locs ls D cs as dd Q hC hW hl kk => ?_)
      obtain ⟨g1, g2⟩ := hh cs as
      obtain ⟨q0, -, hq0⟩ := conc_get (cs := cs) (as := as) (σ := σ) g1
      rw [show cel cs as σ (k, d, i').1 (k, d, i').2.1 (k, d, i').2.2 = _ from g2 σ] at hq0
      exact va_iald hC.1 hC.2.1 hW.2.1 hW.1 q0 0 hq0 rfl hin hdg (kk ls hl)
    next => exact h.elim
  next => exact h.elim
theorem sn_baload {sd : Bool} {mid i pc a b : Nat} {P : Option AV → Sg → Prop} {v : Int32} {ps : List (Int32 × Nat)} {po : Nat} {L : Lc} {st : List AV} {σ : Sg} {J : Nat → Lc → List AV → Sg → Prop} {N : Lc → List AV → Sg → Prop} (hm : mid < nM) (he : (mD mid)[i]? = some (pc, .baload, a, b, v, ps, po)) (hJ : ∀ t L st σ, J t L st σ → G sd mid P t L st σ) (hN : ∀ L st σ, N L st σ → (∃ e', (mD mid)[i + 1]? = some e') ∧ G sd mid P (i + 1) L st σ) (h : stepw sd (mH mid) (mR mid) P J N a b v ps L st σ (.baload)) : G sd mid P i L st σ := by
  obtain ⟨hp, ha, h1, h2⟩ := ent_facts hm he
  obtain ⟨hdg, hnx⟩ := h1 rfl
  unfold stepw at h
  dsimp only at h
  split at h
  next j k d i' st' =>
    split at h
    next n rw' ho =>
      have hh := fun cs as => (arrC_spec ho h cs as).1
      obtain ⟨-, q9, hj, hq9, h⟩ := arrC_spec ho h (0, 0, 0) (fun _ _ _ => 0)
      obtain ⟨hin, e9⟩ := in_of (arrC_len ho) hj hq9
      subst e9
      refine fallG hp hnx (hN _ _ _ h) (fun p l e s m args below meth c H locs ls D cs as dd Q hC hW hl kk => ?_)
      obtain ⟨g1, g2⟩ := hh cs as
      obtain ⟨q0, -, hq0⟩ := conc_get (cs := cs) (as := as) (σ := σ) g1
      rw [show cel cs as σ (k, d, i').1 (k, d, i').2.1 (k, d, i').2.2 = _ from g2 σ] at hq0
      exact va_zald hC.1 hC.2.1 hW.2.1 hW.1 q0 1 hq0 rfl hin hdg (kk ls hl)
    next => exact h.elim
  next => exact h.elim
theorem sn_iastore {sd : Bool} {mid i pc a b : Nat} {P : Option AV → Sg → Prop} {v : Int32} {ps : List (Int32 × Nat)} {po : Nat} {L : Lc} {st : List AV} {σ : Sg} {J : Nat → Lc → List AV → Sg → Prop} {N : Lc → List AV → Sg → Prop} (hm : mid < nM) (he : (mD mid)[i]? = some (pc, .iastore, a, b, v, ps, po)) (hJ : ∀ t L st σ, J t L st σ → G sd mid P t L st σ) (hN : ∀ L st σ, N L st σ → (∃ e', (mD mid)[i + 1]? = some e') ∧ G sd mid P (i + 1) L st σ) (h : stepw sd (mH mid) (mR mid) P J N a b v ps L st σ (.iastore)) : G sd mid P i L st σ := by
  obtain ⟨hp, ha, h1, h2⟩ := ent_facts hm he
  obtain ⟨hdg, hnx⟩ := h1 rfl
  unfold stepw at h
  dsimp only at h
  split at h
  next x j k d i' st' =>
    split at h
    next n rw' ho =>
      have hh := fun cs as => (arrC_spec ho h cs as).1
      obtain ⟨-, q9, hj, hq9, y9, rfl, h⟩ := arrC_spec ho h (0, 0, 0) (fun _ _ _ => 0)
      obtain ⟨hin, e9⟩ := in_of (arrC_len ho) hj hq9
      subst e9
      refine fallS hp hnx (hN _ _ _ h) (fun p l e s m args below meth c H locs ls D cs as d' Q hd hC hW hS hsz kk => ?_)
      obtain ⟨g1, g2⟩ := hh cs as
      obtain ⟨q0, hl0, hq0⟩ := conc_get (cs := cs) (as := as) (σ := σ) g1
      rw [show cel cs as σ (k, d, i').1 (k, d, i').2.1 (k, d, i').2.2 = _ from g2 σ] at hq0
      refine va_iast hC.1 hC.2.1 hW.2.1 hW.1 hW.2.2 hS q0 0 hq0 rfl hin hdg (fun H1 locs1 hP1 hD1 hS1 => ?_)
      have e := conc_set (sd := sd) (cs := cs) (as := as) (σ := σ) j.toNatClampNeg x hl0
      rw [g2 (up4 σ k d i' j.toNatClampNeg x), up4_same] at e
      exact kk H1 locs1 ⟨e ▸ hP1, hW.2.1, e ▸ hD1⟩ hS1
    next => exact h.elim
  next => exact h.elim
theorem sn_bastore {sd : Bool} {mid i pc a b : Nat} {P : Option AV → Sg → Prop} {v : Int32} {ps : List (Int32 × Nat)} {po : Nat} {L : Lc} {st : List AV} {σ : Sg} {J : Nat → Lc → List AV → Sg → Prop} {N : Lc → List AV → Sg → Prop} (hm : mid < nM) (he : (mD mid)[i]? = some (pc, .bastore, a, b, v, ps, po)) (hJ : ∀ t L st σ, J t L st σ → G sd mid P t L st σ) (hN : ∀ L st σ, N L st σ → (∃ e', (mD mid)[i + 1]? = some e') ∧ G sd mid P (i + 1) L st σ) (h : stepw sd (mH mid) (mR mid) P J N a b v ps L st σ (.bastore)) : G sd mid P i L st σ := by
  obtain ⟨hp, ha, h1, h2⟩ := ent_facts hm he
  obtain ⟨hdg, hnx⟩ := h1 rfl
  unfold stepw at h
  dsimp only at h
  split at h
  next x j k d i' st' =>
    split at h
    next n rw' ho =>
      have hh := fun cs as => (arrC_spec ho h cs as).1
      obtain ⟨-, q9, hj, hq9, y9, rfl, h⟩ := arrC_spec ho h (0, 0, 0) (fun _ _ _ => 0)
      obtain ⟨hin, e9⟩ := in_of (arrC_len ho) hj hq9
      subst e9
      refine fallS hp hnx (hN _ _ _ h) (fun p l e s m args below meth c H locs ls D cs as d' Q hd hC hW hS hsz kk => ?_)
      obtain ⟨g1, g2⟩ := hh cs as
      obtain ⟨q0, hl0, hq0⟩ := conc_get (cs := cs) (as := as) (σ := σ) g1
      rw [show cel cs as σ (k, d, i').1 (k, d, i').2.1 (k, d, i').2.2 = _ from g2 σ] at hq0
      refine va_zast hC.1 hC.2.1 hW.2.1 hW.1 hW.2.2 hS q0 1 hq0 rfl hin hdg (fun H1 locs1 hP1 hD1 hS1 => ?_)
      have e := conc_set (sd := sd) (cs := cs) (as := as) (σ := σ) j.toNatClampNeg (vp_nar .boolean x) hl0
      rw [g2 (up4 σ k d i' j.toNatClampNeg (vp_nar .boolean x)), up4_same] at e
      exact kk H1 locs1 ⟨e ▸ hP1, hW.2.1, e ▸ hD1⟩ hS1
    next => exact h.elim
  next => exact h.elim
theorem sn_aaload {sd : Bool} {mid i pc a b : Nat} {P : Option AV → Sg → Prop} {v : Int32} {ps : List (Int32 × Nat)} {po : Nat} {L : Lc} {st : List AV} {σ : Sg} {J : Nat → Lc → List AV → Sg → Prop} {N : Lc → List AV → Sg → Prop} (hm : mid < nM) (he : (mD mid)[i]? = some (pc, .aaload, a, b, v, ps, po)) (hJ : ∀ t L st σ, J t L st σ → G sd mid P t L st σ) (hN : ∀ L st σ, N L st σ → (∃ e', (mD mid)[i + 1]? = some e') ∧ G sd mid P (i + 1) L st σ) (h : stepw sd (mH mid) (mR mid) P J N a b v ps L st σ (.aaload)) : G sd mid P i L st σ := by
  obtain ⟨hp, ha, h1, h2⟩ := ent_facts hm he
  obtain ⟨hdg, hnx⟩ := h1 rfl
  unfold stepw at h
  dsimp only at h
  split at h
  next j k d i' st' =>
    split at h
    next n ho =>
      obtain ⟨q9, hj, hq9, h⟩ := h
      obtain ⟨hin, e9⟩ := in_of (gridC_len ho) hj hq9
      subst e9
      refine fallG hp hnx (hN _ _ _ h) (fun p l e s m args below meth c H locs ls D cs as dd Q hC hW hl kk => ?_)
      obtain ⟨g1, g2⟩ := gridC_spec ho cs as
      obtain ⟨q0, -, hq0⟩ := conc_get (cs := cs) (as := as) (σ := σ) g1
      rw [show cel cs as σ (k, d, i').1 (k, d, i').2.1 (k, d, i').2.2 = _ from g2 σ] at hq0
      have hlt : j.toNatClampNeg < n := Nat.not_le.mp fun q => hin (Or.inr q)
      refine W.aald (v := .ref (as k d (j.toNatClampNeg + 1))) (ty := .array .int) hC.1 hC.2.1 (hW.1 q0 _ hq0) ((hW.2.1.2 2 _ rfl).1 n (fun j => va_rf (if j < n then some (as k d (j + 1)) else none))) rfl (fun q => by cases q) (by show ¬ (j < 0 ∨ (arrV _ _ _).slots.size ≤ _); rw [arrV_size]; exact hin) (by show (arrV _ _ _).slots[_]? = _; rw [arrV_read _ _ hlt]; show some (va_rf (if _ then _ else _)) = _; rw [if_pos hlt]; rfl) rfl rfl hdg (kk ls hl)
    next => exact h.elim
  next => exact h.elim
theorem sn_arraylength {sd : Bool} {mid i pc a b : Nat} {P : Option AV → Sg → Prop} {v : Int32} {ps : List (Int32 × Nat)} {po : Nat} {L : Lc} {st : List AV} {σ : Sg} {J : Nat → Lc → List AV → Sg → Prop} {N : Lc → List AV → Sg → Prop} (hm : mid < nM) (he : (mD mid)[i]? = some (pc, .arraylength, a, b, v, ps, po)) (hJ : ∀ t L st σ, J t L st σ → G sd mid P t L st σ) (hN : ∀ L st σ, N L st σ → (∃ e', (mD mid)[i + 1]? = some e') ∧ G sd mid P (i + 1) L st σ) (h : stepw sd (mH mid) (mR mid) P J N a b v ps L st σ (.arraylength)) : G sd mid P i L st σ := by
  obtain ⟨hp, ha, h1, h2⟩ := ent_facts hm he
  obtain ⟨hdg, hnx⟩ := h1 rfl
  unfold stepw at h
  dsimp only at h
  split at h
  next k d i' st' =>
    split at h
    next z n rw' ho =>
      have hh := fun cs as => (arrC_spec ho h cs as).1
      obtain ⟨-, h⟩ := arrC_spec ho h (0, 0, 0) (fun _ _ _ => 0)
      refine fallG hp hnx (hN _ _ _ h) (fun p l e s m args below meth c H locs ls D cs as dd Q hC hW hl kk => ?_)
      obtain ⟨g1, g2⟩ := hh cs as
      obtain ⟨q0, -, hq0⟩ := conc_get (cs := cs) (as := as) (σ := σ) g1
      rw [show cel cs as σ (k, d, i').1 (k, d, i').2.1 (k, d, i').2.2 = _ from g2 σ] at hq0
      cases z with
      | false => exact va_alen hC.1 hC.2.1 hW.2.1 hW.1 q0 0 hq0 (ty := .int) rfl rfl hdg (kk ls hl)
      | true => exact va_alen hC.1 hC.2.1 hW.2.1 hW.1 q0 1 hq0 (ty := .boolean) rfl rfl hdg (kk ls hl)
    next =>
      split at h
      next n ho =>
        refine fallG hp hnx (hN _ _ _ h) (fun p l e s m args below meth c H locs ls D cs as dd Q hC hW hl kk => ?_)
        obtain ⟨g1, g2⟩ := gridC_spec ho cs as
        obtain ⟨q0, -, hq0⟩ := conc_get (cs := cs) (as := as) (σ := σ) g1
        rw [show cel cs as σ (k, d, i').1 (k, d, i').2.1 (k, d, i').2.2 = _ from g2 σ] at hq0
        exact va_alen hC.1 hC.2.1 hW.2.1 hW.1 q0 2 hq0 (ty := .array .int) rfl rfl hdg (kk ls hl)
      next => exact h.elim
  next => exact h.elim
theorem mw_abs : wAt 760 = some (.static Jvm.Lib.Math.abs.name) ∧ wAt 87 = some (.initialized "java/lang/Math") ∧ wAt 761 = some (.code Jvm.Lib.Math.abs.name Jvm.Lib.Math.abs.code 1 (some .int)) := ⟨by decide +kernel, by decide +kernel, by decide +kernel⟩
theorem mw_max : wAt 314 = some (.static Jvm.Lib.Math.max.name) ∧ wAt 87 = some (.initialized "java/lang/Math") ∧ wAt 315 = some (.code Jvm.Lib.Math.max.name Jvm.Lib.Math.max.code 2 (some .int)) := ⟨by decide +kernel, by decide +kernel, by decide +kernel⟩
theorem mw_min : wAt 723 = some (.static Jvm.Lib.Math.min.name) ∧ wAt 87 = some (.initialized "java/lang/Math") ∧ wAt 724 = some (.code Jvm.Lib.Math.min.name Jvm.Lib.Math.min.code 2 (some .int)) := ⟨by decide +kernel, by decide +kernel, by decide +kernel⟩
theorem inf_facts {a : Nat} (h : a < nM) : (wAt (mQ a).1 = some (.code (mY a) (mC a) (mN a) (mR a)) ∧ wAt (mQ a).2.1 = some (.initialized (mY a).cls)) ∧ (mS a = true → wAt (mQ a).2.2.1 = some (.static (mY a))) ∧ (mS a = false → wAt (mQ a).2.2.1 = some (.instanceMethod (mY a)) ∧ wAt (mQ a).2.2.2 = some (.selects (mY a).cls (mY a) (mY a)) ∧ (classes[mK a]?).map Prod.fst = some (mY a).cls) ∧
    Jvm.plainName (mY a).cls = true ∧ mN a ≤ 19 ∧ ((mY a).cls ≠ "java/lang/invoke/MethodHandle" ∧ (mY a).cls ≠ "java/lang/invoke/VarHandle" ∧ (parseMethodDescriptor (mY a).desc).map (fun d => d.parameters.length) = some (mP a)) ∧ pcAt (mD a) 0 = some 0 := by
  have h := met_ok h
  unfold metOk at h
  rw [Bool.and_eq_true] at h
  have h := h.1
  have hw := code_word h
  unfold infOk at h
  simp only [Bool.and_eq_true, decide_eq_true_eq] at h
  obtain ⟨h1, h2, h3, h4, h5, h6, h7, h8, h9⟩ := h
  refine ⟨⟨hw, h2⟩, fun hs => ?_, fun hs => ?_, h4, Nat.le_of_ble_eq_true h5, ⟨h6, h7, h8⟩, h9⟩
  · rw [hs] at h3
    simpa using h3
  · rw [hs] at h3
    simpa only [Bool.and_eq_true, decide_eq_true_eq] using h3
theorem wsM_good {a : Nat} (h : a < nM) : GoodIn lw_g (wsM a) := by
  intro w hw
  have hm : w ∈ lw_g := by
    rcases List.mem_cons.mp hw with rfl | hw
    · exact List.mem_filter.mpr ⟨List.mem_of_getElem? (inf_facts h).1.1, rfl⟩
    · exact hw
  exact ⟨hm, good_of_word (List.mem_filter.mp hm).2⟩
theorem popA_spec : ∀ {n : Nat} {acc st vs rest : List AV}, popA n acc st = some (vs, rest) → ∃ xs, st = xs ++ rest ∧ vs = xs.reverse ++ acc ∧ xs.length = n
  | 0, acc, st, vs, rest, h => by
    cases h
    exact ⟨[], rfl, rfl, rfl⟩
  | n + 1, acc, [], vs, rest, h => by cases h
  | n + 1, acc, v :: st, vs, rest, h => by
    obtain ⟨xs, h1, h2, h3⟩ := popA_spec (n := n) (acc := v :: acc) (st := st) h
    exact ⟨v :: xs, by rw [h1]; rfl, by rw [h2]; simp, by rw [List.length_cons, h3]⟩
theorem catS_eq (as : Ad) : ∀ st : List AV, ((st.map (cv as)).map fun v => v.category).sum = catS st
  | [] => rfl
  | .inl x :: st => by
    simp only [List.map_cons, List.sum_cons]
    rw [catS_eq as st]
    exact Nat.add_comm _ _
  | .inr (.inl x) :: st => by
    simp only [List.map_cons, List.sum_cons]
    rw [catS_eq as st]
    exact Nat.add_comm _ _
  | .inr (.inr x) :: st => by
    simp only [List.map_cons, List.sum_cons]
    rw [catS_eq as st]
    exact Nat.add_comm _ _
theorem Po_blind {sd : Bool} {D : va_G} {cs : Cs} {as : Ad} {σ : Sg} {sz : Nat} {vs : List AV} : FrameBlind (Po sd D cs as σ sz vs) := by
  intro a U g mk q
  obtain ⟨q0, q1, qP, qK, qD⟩ := q
  exact ⟨q0, q1, qP, va_K.moved (u := U) (U := U.calling g mk a) (Vm.Alike.refl U.vm) qK, qD⟩
theorem Aof_up {sd : Bool} {as : Ad} {a b : Nat} (h : a ≤ b) : ∀ q, Aof sd as b q → Aof sd as a q := fun q hq => hq.imp id (fun hq => Nat.le_trans h hq)
theorem conc_A {sd : Bool} {D : va_G} {cs : Cs} {as : Ad} {σ : Sg} {A : Nat → Prop} {sz : Nat} (h : va_D A (conc sd cs as σ)) : va_D (Aof sd as sz) (conc sd cs as σ) := by
  refine ⟨h.1, fun k q hk => ?_⟩
  have hm := List.mem_of_getElem? hk
  obtain ⟨c, hc, rfl⟩ := List.mem_map.mp hm
  exact Or.inl ⟨c, hc, rfl⟩
theorem call_fin {p : Program} {l : Launch} {e : Env} {R : Room} {s : State} {m : MethodId} {args : Array Value} {below : List Frame} {meth : Method} {c : Code} {H : Heap} {locs : List Loc} {Q : State → Prop} {pc : Nat} {ls : Array Slot} {st0 : List Value} {rest : List AV} {sd : Bool} {D : va_G} {cs : Cs} {as : Ad} {r : Option AV} {σ1 : Sg} {a : Array Value}
    (hr : va_Run p l e R s m args below meth c H locs 0 0 0 0 (F0 m pc ls st0) (rest.map (cv as)) (Qo sd D cs as H.size r σ1 a) (Aof sd as H.size)) (hS : va_S (Aof sd as s.heap.size) s.heap H locs)
    (kk : ∀ H1 locs1, Wl sd D cs as σ1 (Aof sd as s.heap.size) s H1 → va_S (Aof sd as s.heap.size) s.heap H1 locs1 → W p l e R s m args below meth c H1 locs1 0 0 Q (F0 m (pc + 3) ls ((r.toList ++ rest).map (cv as)))) : W p l e R s m args below meth c H locs 0 0 Q (F0 m pc ls st0) := by
  have fin : ∀ (t : State) (H1 : Heap), t.heap = H1 → s.vm.Alike t.vm → Bq sd D cs as σ1 (Aof sd as H.size) () t → Wl sd D cs as σ1 (Aof sd as s.heap.size) s H1 := fun t H1 ht hvm hb => by
    obtain ⟨b1, b2, b3⟩ := hb
    exact ⟨ht ▸ b1, va_K.moved hvm.symm b2, b3.weaken (fun k q _ hq => Aof_up hS.1 _ hq)⟩
  have hA : ∀ q, q < H.size → Aof sd as H.size q → Aof sd as s.heap.size q := fun q _ h => Aof_up hS.1 q h
  have hf : ∀ q, Aof sd as H.size q → Aof sd as s.heap.size q := fun q h => Aof_up hS.1 q h
  rcases r with _ | x | x | x
  · exact va_callv (a := a) (S := Unit) (post := fun _ => True) (B := Bq sd D cs as σ1 (Aof sd as H.size)) hr hS hA hf (fun u t H1 locs1 ht hvm _ hb _ _ hS1 => kk H1 locs1 (fin t H1 ht hvm hb) hS1)
  · refine va_calli (a := a) (S := Unit) (post := fun y _ => y = x) (B := Bq sd D cs as σ1 (Aof sd as H.size)) hr hS hA hf (fun y u t H1 locs1 ht hvm hy hb _ _ hS1 => ?_)
    subst hy
    exact kk H1 locs1 (fin t H1 ht hvm hb) hS1
  · refine va_calll (a := a) (S := Unit) (post := fun y _ => y = x) (B := Bq sd D cs as σ1 (Aof sd as H.size)) hr hS hA hf (fun y u t H1 locs1 ht hvm hy hb _ _ hS1 => ?_)
    subst hy
    exact kk H1 locs1 (fin t H1 ht hvm hb) hS1
  · intro T hT X
    obtain ⟨v, st₀, t, T', L, h0, X', hL, e1, e2, hq, st⟩ := hr T hT X
    exact hq.elim
theorem sn_invokestatic {sd : Bool} {mid i pc a b : Nat} {P : Option AV → Sg → Prop} {v : Int32} {ps : List (Int32 × Nat)} {po : Nat} {L : Lc} {st : List AV} {σ : Sg} {J : Nat → Lc → List AV → Sg → Prop} {N : Lc → List AV → Sg → Prop} (hm : mid < nM) {n : Nat} (he : (mD mid)[i]? = some (pc, .invokestatic n, a, b, v, ps, po)) (hJ : ∀ t L st σ, J t L st σ → G sd mid P t L st σ) (hN : ∀ L st σ, N L st σ → (∃ e', (mD mid)[i + 1]? = some e') ∧ G sd mid P (i + 1) L st σ) (h : stepw sd (mH mid) (mR mid) P J N a b v ps L st σ (.invokestatic n)) : G sd mid P i L st σ := by
  obtain ⟨hp, ha, h1, h2⟩ := ent_facts hm he
  obtain ⟨hdg, hnx⟩ := h1 rfl
  unfold stepw at h
  dsimp only at h
  clear he h1
  revert ha h
  match b with
  | 0 =>
    intro h ha
    simp only [argOk, Bool.and_eq_true, decide_eq_true_eq] at ha
    replace h : callSt sd (mH mid) (fun st' σ' => N L st' σ') a st σ := h
    unfold callSt at h
    obtain ⟨hlk, hst⟩ := ha
    split at h
    next vs rest hpop =>
      split at h
      next hc =>
        simp only [Bool.and_eq_true, Nat.blt_eq, Nat.ble_eq] at hc
        obtain ⟨hh, han, hcat⟩ := hc
        obtain ⟨r, σ1, hev, h⟩ := h
        obtain ⟨xs, hx1, hx2, hx3⟩ := popA_spec hpop
        rw [List.append_nil] at hx2
        obtain ⟨⟨i1, i2⟩, i3, i4, i5, i6, i7, i8⟩ := inf_facts han
        refine fallS hp hnx (hN _ _ _ h) (fun p l e s m args below meth c H locs ls D cs as d' Q hd hC hW hS hsz kk => ?_)
        obtain ⟨d2, rfl⟩ : ∃ d2, d' = d2 + 1 := ⟨d' - 1, by omega⟩
        refine call_fin (rest := rest) (va_runS (As := vs.map (cv as)) (n := mP a) (nL := mN mid) (Ts := lw_g) ⟨hC.1, hC.2.1, hC.2.2.2.1, hC.2.2.2.2.1, hC.2.2.2.2.2.1⟩ (hev l D cs as H.size d2 (by omega)) ⟨callB_of (mP a) hC.2.2.2.2.2.1 (wsM_good han) rfl rfl rfl (hts_at hC.2.2.2.2.2.1 i2) (hts_at hC.2.2.2.2.2.1 hlk) i7 ⟨Nat.le_refl _, by show 8 + (mN a + 11) + 38 * d2 ≤ 38 * (d2 + 1); omega⟩, hts_at hC.2.2.2.2.2.1 (i3 hst)⟩ ⟨Po_blind, fun U hU hWm => ⟨rfl, by rw [hU], by rw [hU]; exact hW.1, va_K.moved hWm.alike hW.2.1, hW.2.2.weaken (fun _ _ _ _ => trivial)⟩⟩ rfl (by rw [List.length_map, hx2, List.length_reverse, hx3]) (hsz.trans hC.2.2.2.1) (by rw [hx1, hx2, List.map_append, List.map_reverse, List.reverse_reverse]) (lv_room (by rw [catS_eq]; exact hcat)) hdg ⟨Nat.le_refl _, Nat.le_refl _⟩) hS (fun H1 locs1 hW1 hS1 => kk H1 locs1 hW1 hS1)
      next => exact h.elim
    next => exact h.elim
  | 1 =>
    intro h ha
    simp only [argOk, decide_eq_true_eq] at ha
    replace h : mth1 (mH mid) mAbs (fun st' => N L st' σ) st := h
    unfold mth1 at h
    split at h
    next x rest =>
      split at h
      next hc =>
        simp only [Bool.and_eq_true, Nat.blt_eq, Nat.ble_eq] at hc
        obtain ⟨hh, hcat⟩ := hc
        refine fallS hp hnx (hN _ _ _ h) (fun p l e s m args below meth c H locs ls D cs as d' Q hd hC hW hS hsz kk => ?_)
        refine va_mabs hC.1 hC.2.1 hsz.symm hC.2.2.2.2.1 (hts_at hC.2.2.2.2.2.1 ha) (hts_at hC.2.2.2.2.2.1 mw_abs.1) (hts_at hC.2.2.2.2.2.1 mw_abs.2.1) (hts_at hC.2.2.2.2.2.1 mw_abs.2.2) (by show 1 ≤ d'; omega) (by rw [catS_eq]; show catS rest + 13 ≤ 38 * d'; omega) (Nat.zero_le _) (Nat.zero_le _) hdg (kk H locs hW hS)
      next => exact h.elim
    next => exact h.elim
  | 2 =>
    intro h ha
    simp only [argOk, decide_eq_true_eq] at ha
    replace h : mth2 (mH mid) mMax (fun st' => N L st' σ) st := h
    unfold mth2 at h
    split at h
    next y x rest =>
      split at h
      next hc =>
        simp only [Bool.and_eq_true, Nat.blt_eq, Nat.ble_eq] at hc
        obtain ⟨hh, hcat⟩ := hc
        refine fallS hp hnx (hN _ _ _ h) (fun p l e s m args below meth c H locs ls D cs as d' Q hd hC hW hS hsz kk => ?_)
        refine va_mmax hC.1 hC.2.1 hsz.symm hC.2.2.2.2.1 (hts_at hC.2.2.2.2.2.1 ha) (hts_at hC.2.2.2.2.2.1 mw_max.1) (hts_at hC.2.2.2.2.2.1 mw_max.2.1) (hts_at hC.2.2.2.2.2.1 mw_max.2.2) (by show 1 ≤ d'; omega) (by rw [catS_eq]; show catS rest + 13 ≤ 38 * d'; omega) (Nat.zero_le _) (Nat.zero_le _) hdg (kk H locs hW hS)
      next => exact h.elim
    next => exact h.elim
  | 3 =>
    intro h ha
    simp only [argOk, decide_eq_true_eq] at ha
    replace h : mth2 (mH mid) mMin (fun st' => N L st' σ) st := h
    unfold mth2 at h
    split at h
    next y x rest =>
      split at h
      next hc =>
        simp only [Bool.and_eq_true, Nat.blt_eq, Nat.ble_eq] at hc
        obtain ⟨hh, hcat⟩ := hc
        refine fallS hp hnx (hN _ _ _ h) (fun p l e s m args below meth c H locs ls D cs as d' Q hd hC hW hS hsz kk => ?_)
        refine va_mmin hC.1 hC.2.1 hsz.symm hC.2.2.2.2.1 (hts_at hC.2.2.2.2.2.1 ha) (hts_at hC.2.2.2.2.2.1 mw_min.1) (hts_at hC.2.2.2.2.2.1 mw_min.2.1) (hts_at hC.2.2.2.2.2.1 mw_min.2.2) (by show 1 ≤ d'; omega) (by rw [catS_eq]; show catS rest + 13 ≤ 38 * d'; omega) (Nat.zero_le _) (Nat.zero_le _) hdg (kk H locs hW hS)
      next => exact h.elim
    next => exact h.elim
  | b + 4 => intro h ha; exact h.elim
theorem sn_invokevirtual {sd : Bool} {mid i pc a b : Nat} {P : Option AV → Sg → Prop} {v : Int32} {ps : List (Int32 × Nat)} {po : Nat} {L : Lc} {st : List AV} {σ : Sg} {J : Nat → Lc → List AV → Sg → Prop} {N : Lc → List AV → Sg → Prop} (hm : mid < nM) {n : Nat} (he : (mD mid)[i]? = some (pc, .invokevirtual n, a, b, v, ps, po)) (hJ : ∀ t L st σ, J t L st σ → G sd mid P t L st σ) (hN : ∀ L st σ, N L st σ → (∃ e', (mD mid)[i + 1]? = some e') ∧ G sd mid P (i + 1) L st σ) (h : stepw sd (mH mid) (mR mid) P J N a b v ps L st σ (.invokevirtual n)) : G sd mid P i L st σ := by
  obtain ⟨hp, ha, h1, h2⟩ := ent_facts hm he
  obtain ⟨hdg, hnx⟩ := h1 rfl
  simp only [argOk, Bool.and_eq_true, decide_eq_true_eq] at ha
  obtain ⟨hlk, hst⟩ := ha
  unfold stepw at h
  dsimp only at h
  split at h
  next vs k d i' rest hpop =>
    split at h
    next ci fs ho =>
      split at h
      next hc =>
        simp only [Bool.and_eq_true, Nat.blt_eq, Nat.ble_eq, beq_iff_eq] at hc
        obtain ⟨hh, han, hcat, hci⟩ := hc
        obtain ⟨r, σ1, hev, h⟩ := h
        obtain ⟨xs, hx1, hx2, hx3⟩ := popA_spec hpop
        rw [List.append_nil] at hx2
        obtain ⟨⟨i1, i2⟩, i3, i4, i5, i6, i7, i8⟩ := inf_facts han
        obtain ⟨j1, j2, j3⟩ := i4 hst
        subst hci
        refine fallS hp hnx (hN _ _ _ h) (fun p l e s m args below meth c H locs ls D cs as d' Q hd hC hW hS hsz kk => ?_)
        obtain ⟨d2, rfl⟩ : ∃ d2, d' = d2 + 1 := ⟨d' - 1, by omega⟩
        obtain ⟨g1, g2⟩ := objC_spec ho cs as
        obtain ⟨q0, -, hq0⟩ := conc_get (cs := cs) (as := as) (σ := σ) g1
        rw [show cel cs as σ (k, d, i').1 (k, d, i').2.1 (k, d, i').2.2 = _ from g2 σ] at hq0
        obtain ⟨cq, hcq, hcn⟩ : ∃ cq, classes[mK a]? = some cq ∧ cq.1 = (mY a).cls := by
          cases hz : classes[mK a]? with
          | none => rw [hz] at j3; cases j3
          | some cq => rw [hz] at j3; exact ⟨cq, rfl, Option.some.inj j3⟩
        have hrecv := va_recv hW.2.1 hW.1 hcq hq0
        rw [hcn] at hrecv
        refine call_fin (rest := rest) (va_runV (As := vs.map (cv as)) (b := as k d i') (C := (mY a).cls) (n := mP a) (nL := mN mid) (Ts := lw_g) ⟨hC.1, hC.2.1, hC.2.2.2.1, hC.2.2.2.2.1, hC.2.2.2.2.2.1⟩ (hev l D cs as H.size d2 (by omega)) ⟨callB_of (mP a) hC.2.2.2.2.2.1 (wsM_good han) rfl rfl rfl (hts_at hC.2.2.2.2.2.1 i2) (hts_at hC.2.2.2.2.2.1 hlk) i7 ⟨Nat.le_refl _, by show 8 + (mN a + 11) + 38 * d2 ≤ 38 * (d2 + 1); omega⟩, hts_at hC.2.2.2.2.2.1 j1, hts_at hC.2.2.2.2.2.1 j2⟩ ⟨Po_blind, hrecv, fun U hU hWm => ⟨rfl, by rw [hU], by rw [hU]; exact hW.1, va_K.moved hWm.alike hW.2.1, hW.2.2.weaken (fun _ _ _ _ => trivial)⟩⟩ rfl (by rw [List.length_map, hx2, List.length_reverse, hx3]) (hsz.trans hC.2.2.2.1) (by rw [hx1, hx2, List.map_append, List.map_reverse, List.reverse_reverse]; rfl) (lv_room (by rw [catS_eq]; exact hcat)) hdg ⟨Nat.le_refl _, Nat.le_refl _⟩) hS (fun H1 locs1 hW1 hS1 => kk H1 locs1 hW1 hS1)
      next => exact h.elim
    next => exact h.elim
  next => exact h.elim
theorem sn_ireturn {sd : Bool} {mid i pc a b : Nat} {P : Option AV → Sg → Prop} {v : Int32} {ps : List (Int32 × Nat)} {po : Nat} {L : Lc} {st : List AV} {σ : Sg} {J : Nat → Lc → List AV → Sg → Prop} {N : Lc → List AV → Sg → Prop} (hm : mid < nM) (he : (mD mid)[i]? = some (pc, .ireturn, a, b, v, ps, po)) (hJ : ∀ t L st σ, J t L st σ → G sd mid P t L st σ) (hN : ∀ L st σ, N L st σ → (∃ e', (mD mid)[i + 1]? = some e') ∧ G sd mid P (i + 1) L st σ) (h : stepw sd (mH mid) (mR mid) P J N a b v ps L st σ (.ireturn)) : G sd mid P i L st σ := by
  obtain ⟨hp, ha, h1, h2⟩ := ent_facts hm he
  obtain ⟨hdg, hnx⟩ := h1 rfl
  unfold stepw at h
  dsimp only at h
  split at h
  next x =>
    split at h
    next hrt =>
      obtain ⟨hx, h⟩ := h
      refine ⟨some (.inl x), σ, h, ?_⟩
      intro p l e s m args below meth c H locs ls D cs as d hd hC hW hS hl
      rw [hp]
      exact W.zret (ty := .boolean) hC.1 hC.2.1 (hC.2.2.1.trans hrt) (by rcases hx with rfl | rfl <;> rfl) (fun t ht hWm => ⟨⟨x, (), rfl, rfl, by rw [ht]; exact hW.1, va_K.moved hWm.alike hW.2.1, hW.2.2⟩, hS.F ht⟩) hS.2.2 hdg hC.2.2.2.2.2.2
    next hrt =>
      refine ⟨some (.inl x), σ, h, ?_⟩
      intro p l e s m args below meth c H locs ls D cs as d hd hC hW hS hl
      rw [hp]
      exact W.zret (ty := .int) hC.1 hC.2.1 (hC.2.2.1.trans hrt) rfl (fun t ht hWm => ⟨⟨x, (), rfl, rfl, by rw [ht]; exact hW.1, va_K.moved hWm.alike hW.2.1, hW.2.2⟩, hS.F ht⟩) hS.2.2 hdg hC.2.2.2.2.2.2
    next => exact h.elim
  next => exact h.elim
theorem sn_lreturn {sd : Bool} {mid i pc a b : Nat} {P : Option AV → Sg → Prop} {v : Int32} {ps : List (Int32 × Nat)} {po : Nat} {L : Lc} {st : List AV} {σ : Sg} {J : Nat → Lc → List AV → Sg → Prop} {N : Lc → List AV → Sg → Prop} (hm : mid < nM) (he : (mD mid)[i]? = some (pc, .lreturn, a, b, v, ps, po)) (hJ : ∀ t L st σ, J t L st σ → G sd mid P t L st σ) (hN : ∀ L st σ, N L st σ → (∃ e', (mD mid)[i + 1]? = some e') ∧ G sd mid P (i + 1) L st σ) (h : stepw sd (mH mid) (mR mid) P J N a b v ps L st σ (.lreturn)) : G sd mid P i L st σ := by
  obtain ⟨hp, ha, h1, h2⟩ := ent_facts hm he
  obtain ⟨hdg, hnx⟩ := h1 rfl
  unfold stepw at h
  dsimp only at h
  split at h
  next x =>
    split at h
    next hrt =>
      refine ⟨some (.inr (.inl x)), σ, h, ?_⟩
      intro p l e s m args below meth c H locs ls D cs as d hd hC hW hS hl
      rw [hp]
      exact W.lret hC.1 hC.2.1 (hC.2.2.1.trans hrt) (fun t ht hWm => ⟨⟨x, (), rfl, rfl, by rw [ht]; exact hW.1, va_K.moved hWm.alike hW.2.1, hW.2.2⟩, hS.F ht⟩) hS.2.2 hdg hC.2.2.2.2.2.2
    next => exact h.elim
  next => exact h.elim
theorem sn_return_ {sd : Bool} {mid i pc a b : Nat} {P : Option AV → Sg → Prop} {v : Int32} {ps : List (Int32 × Nat)} {po : Nat} {L : Lc} {st : List AV} {σ : Sg} {J : Nat → Lc → List AV → Sg → Prop} {N : Lc → List AV → Sg → Prop} (hm : mid < nM) (he : (mD mid)[i]? = some (pc, .return_, a, b, v, ps, po)) (hJ : ∀ t L st σ, J t L st σ → G sd mid P t L st σ) (hN : ∀ L st σ, N L st σ → (∃ e', (mD mid)[i + 1]? = some e') ∧ G sd mid P (i + 1) L st σ) (h : stepw sd (mH mid) (mR mid) P J N a b v ps L st σ (.return_)) : G sd mid P i L st σ := by
  obtain ⟨hp, ha, h1, h2⟩ := ent_facts hm he
  obtain ⟨hdg, hnx⟩ := h1 rfl
  unfold stepw at h
  dsimp only at h
  split at h
  next =>
    split at h
    next hrt =>
      refine ⟨none, σ, h, ?_⟩
      intro p l e s m args below meth c H locs ls D cs as d hd hC hW hS hl
      rw [hp]
      exact W.vret hC.1 hC.2.1 (hC.2.2.1.trans hrt) (fun t ht hWm => ⟨⟨(), rfl, trivial, by rw [ht]; exact hW.1, va_K.moved hWm.alike hW.2.1, hW.2.2⟩, hS.F ht⟩) hS.2.2 hdg hC.2.2.2.2.2.2
    next => exact h.elim
  next => exact h.elim
theorem stepw_snd {sd : Bool} {mid i pc a b : Nat} {P : Option AV → Sg → Prop} {v : Int32} {ps : List (Int32 × Nat)} {po : Nat} {L : Lc} {st : List AV} {σ : Sg} {J : Nat → Lc → List AV → Sg → Prop} {N : Lc → List AV → Sg → Prop} {ins : Instr} (hm : mid < nM) (he : (mD mid)[i]? = some (pc, ins, a, b, v, ps, po)) (hJ : ∀ t L st σ, J t L st σ → G sd mid P t L st σ) (hN : ∀ L st σ, N L st σ → (∃ e', (mD mid)[i + 1]? = some e') ∧ G sd mid P (i + 1) L st σ) (h : stepw sd (mH mid) (mR mid) P J N a b v ps L st σ ins) : G sd mid P i L st σ := by
  cases ins with
  | iconst _ => exact sn_iconst hm he hJ hN h
  | bipush _ => exact sn_bipush hm he hJ hN h
  | sipush _ => exact sn_sipush hm he hJ hN h
  | ldc _ => exact sn_ldc hm he hJ hN h
  | ldc_w _ => exact sn_ldc_w hm he hJ hN h
  | ldc2_w _ => exact sn_ldc2_w hm he hJ hN h
  | iload _ => exact sn_iload hm he hJ hN h
  | iload_n _ => exact sn_iload_n hm he hJ hN h
  | lload _ => exact sn_lload hm he hJ hN h
  | lload_n _ => exact sn_lload_n hm he hJ hN h
  | aload _ => exact sn_aload hm he hJ hN h
  | aload_n _ => exact sn_aload_n hm he hJ hN h
  | istore _ => exact sn_istore hm he hJ hN h
  | istore_n _ => exact sn_istore_n hm he hJ hN h
  | astore _ => exact sn_astore hm he hJ hN h
  | astore_n _ => exact sn_astore_n hm he hJ hN h
  | lstore _ => exact sn_lstore hm he hJ hN h
  | lstore_n _ => exact sn_lstore_n hm he hJ hN h
  | iinc _ _ => exact sn_iinc hm he hJ hN h
  | iadd => exact sn_iadd hm he hJ hN h
  | isub => exact sn_isub hm he hJ hN h
  | imul => exact sn_imul hm he hJ hN h
  | iand => exact sn_iand hm he hJ hN h
  | ior => exact sn_ior hm he hJ hN h
  | ishl => exact sn_ishl hm he hJ hN h
  | ishr => exact sn_ishr hm he hJ hN h
  | iushr => exact sn_iushr hm he hJ hN h
  | ladd => exact sn_ladd hm he hJ hN h
  | lmul => exact sn_lmul hm he hJ hN h
  | idiv => exact sn_idiv hm he hJ hN h
  | irem => exact sn_irem hm he hJ hN h
  | ineg => exact sn_ineg hm he hJ hN h
  | i2l => exact sn_i2l hm he hJ hN h
  | dup => exact sn_dup hm he hJ hN h
  | dup2 => exact sn_dup2 hm he hJ hN h
  | goto _ => exact sn_goto hm he hJ hN h
  | if_icmp _ _ => exact sn_if_icmp hm he hJ hN h
  | ifCond _ _ => exact sn_ifCond hm he hJ hN h
  | tableswitch _ _ _ _ => exact sn_tableswitch hm he hJ hN h
  | lookupswitch _ _ => exact sn_lookupswitch hm he hJ hN h
  | getfield _ => exact sn_getfield hm he hJ hN h
  | putfield _ => exact sn_putfield hm he hJ hN h
  | iaload => exact sn_iaload hm he hJ hN h
  | baload => exact sn_baload hm he hJ hN h
  | iastore => exact sn_iastore hm he hJ hN h
  | bastore => exact sn_bastore hm he hJ hN h
  | aaload => exact sn_aaload hm he hJ hN h
  | arraylength => exact sn_arraylength hm he hJ hN h
  | invokestatic _ => exact sn_invokestatic hm he hJ hN h
  | invokevirtual _ => exact sn_invokevirtual hm he hJ hN h
  | ireturn => exact sn_ireturn hm he hJ hN h
  | lreturn => exact sn_lreturn hm he hJ hN h
  | return_ => exact sn_return_ hm he hJ hN h
  | _ => exact (h : False).elim
theorem wp_snd {sd : Bool} {mid : Nat} {P : Option AV → Sg → Prop} {K : Nat → Lc → List AV → Sg → Prop} {cuts : List Nat} (hm : mid < nM) (hK : ∀ i L st σ, K i L st σ → G sd mid P i L st σ) : ∀ (n i : Nat) (suf : List Ent) (L : Lc) (st : List AV) (σ : Sg), suf = (mD mid).drop i → wp sd (mH mid) (mR mid) (mD mid) P K cuts n i suf L st σ → G sd mid P i L st σ
  | 0, i, _, L, st, σ, _, h => hK i L st σ h
  | n + 1, _, [], _, _, _, _, h => h.elim
  | n + 1, i, (pc, ins, a, b, v, ps, po) :: suf, L, st, σ, hs, h => by
    have he : (mD mid)[i]? = some (pc, ins, a, b, v, ps, po) := by
      have : ((mD mid).drop i)[0]? = some (pc, ins, a, b, v, ps, po) := by rw [← hs]; rfl
      rwa [List.getElem?_drop, Nat.add_zero] at this
    have hsuf : suf = (mD mid).drop (i + 1) := by
      have : ((mD mid).drop i).drop 1 = suf := by rw [← hs]; rfl
      rw [← this, List.drop_drop]
    refine stepw_snd hm he (fun t L' st' σ' hj => ?_) (fun L' st' σ' hn => ?_) h
    · split at hj
      next => exact hK t L' st' σ' hj
      next => exact wp_snd hm hK n t _ L' st' σ' rfl hj
    · split at hn
      next => exact hn.elim
      next e' suf' _ =>
        refine ⟨⟨e', ?_⟩, hK (i + 1) L' st' σ' hn⟩
        have : ((mD mid).drop (i + 1))[0]? = some e' := by rw [← hsuf]; rfl
        rwa [List.getElem?_drop, Nat.add_zero] at this
      next e' suf' _ =>
        refine ⟨⟨e', ?_⟩, wp_snd hm hK n (i + 1) _ L' st' σ' hsuf hn⟩
        have : ((mD mid).drop (i + 1))[0]? = some e' := by rw [← hsuf]; rfl
        rwa [List.getElem?_drop, Nat.add_zero] at this
theorem Ev_of_Gd {sd : Bool} {mid : Nat} {vs : List AV} {σ σ' : Sg} {r : Option AV} (hm : mid < nM) (hlen : (argL vs).length ≤ mN mid) (h : Gd sd mid r σ' 0 (initL (mN mid) vs) [] σ) : Ev sd mid vs σ r σ' := by
  intro l D cs as sz d hd
  obtain ⟨-, -, -, i5, -, -, i8⟩ := inf_facts hm
  refine Met.ofW (cc := mC mid) (maxL := mN mid) (ret := mR mid) i5 rfl ?_
  intro p e s m args below meth c s₁ B hml hv
  obtain ⟨rfl, hsz, hP, hK, hD⟩ := hv
  subst hsz
  have hts := atoms_spec (ws := wsM mid) B.pre
  have h0 : pcM mid 0 = 0 := by unfold pcM; rw [i8]; rfl
  have := h p l e s m (vs.map (cv as)).toArray below meth c s.heap [] _ D cs as d hd ⟨B.exec, B.bytes, B.returns, hml, findClass_of_methodNamed B.named, fun w hw => hts w (List.mem_cons_of_mem _ hw), B.notSynchronized⟩ ⟨hP, hK, conc_A (D := D) hD⟩ va_S.rf (hasL_init hlen)
  rw [h0] at this
  rw [lg_entry_eq]
  exact this
theorem Ev_of_G {sd : Bool} {mid : Nat} {vs : List AV} {σ : Sg} {P : Option AV → Sg → Prop} (hm : mid < nM) (hlen : (argL vs).length ≤ mN mid) (h : G sd mid P 0 (initL (mN mid) vs) [] σ) : ∃ r σ', P r σ' ∧ Ev sd mid vs σ r σ' := by
  obtain ⟨r, σ', hp, hg⟩ := h
  exact ⟨r, σ', hp, Ev_of_Gd hm hlen hg⟩
end
section
/-! From a computed walk to a run; small numbers. -/
theorem G_wp {sd : Bool} {mid : Nat} {P : Option AV → Sg → Prop} {i : Nat} {L : Lc} {st : List AV} {σ : Sg} (n : Nat) (cuts : List Nat) (hm : Nat.blt mid nM = true) (h : wp sd (mH mid) (mR mid) (mD mid) P (G sd mid P) cuts n i ((mD mid).drop i) L st σ) : G sd mid P i L st σ :=
  wp_snd (Nat.blt_eq.mp hm) (fun _ _ _ _ h => h) n i _ L st σ rfl h
theorem Ev_wp {sd : Bool} {mid : Nat} {vs : List AV} {r : Option AV} {σ σ' : Sg} (n : Nat) (cuts : List Nat) (hm : Nat.blt mid nM = true) (hl : Nat.ble (argL vs).length (mN mid) = true) (h : wp sd (mH mid) (mR mid) (mD mid) (fun r' s' => r' = r ∧ s' = σ') (G sd mid (fun r' s' => r' = r ∧ s' = σ')) cuts n 0 (mD mid) (initL (mN mid) vs) [] σ) : Ev sd mid vs σ r σ' := by
  obtain ⟨r', s', ⟨rfl, rfl⟩, hev⟩ := Ev_of_G (Nat.blt_eq.mp hm) (Nat.le_of_ble_eq_true hl) (wp_snd (Nat.blt_eq.mp hm) (fun _ _ _ _ h => h) n 0 _ _ [] σ rfl h)
  exact hev
theorem EvP_wp {sd : Bool} {mid : Nat} {vs : List AV} {σ : Sg} {P : Option AV → Sg → Prop} (n : Nat) (cuts : List Nat) (hm : Nat.blt mid nM = true) (hl : Nat.ble (argL vs).length (mN mid) = true) (h : wp sd (mH mid) (mR mid) (mD mid) P (G sd mid P) cuts n 0 (mD mid) (initL (mN mid) vs) [] σ) : ∃ r σ', P r σ' ∧ Ev sd mid vs σ r σ' :=
  Ev_of_G (Nat.blt_eq.mp hm) (Nat.le_of_ble_eq_true hl) (wp_snd (Nat.blt_eq.mp hm) (fun _ _ _ _ h => h) n 0 _ _ [] σ rfl h)
def bI (c : Prop) [Decidable c] : Int32 := if c then nI 1 else nI 0
theorem bI_t {c : Prop} [Decidable c] (h : c) : bI c = nI 1 := if_pos h
theorem bI_f {c : Prop} [Decidable c] (h : ¬ c) : bI c = nI 0 := if_neg h
theorem bI_01 (c : Prop) [Decidable c] : bI c = nI 0 ∨ bI c = nI 1 := by
  by_cases h : c
  · exact Or.inr (bI_t h)
  · exact Or.inl (bI_f h)
theorem bI_nar {c : Prop} [Decidable c] : vp_nar .boolean (bI c) = bI c := by
  rcases bI_01 c with h | h <;> rw [h] <;> rfl
theorem bI_0 {c : Prop} [Decidable c] : bI c = nI 0 ↔ ¬ c := by
  by_cases h : c
  · rw [bI_t h]
    exact ⟨fun q => absurd q (by decide), fun q => absurd h q⟩
  · rw [bI_f h]
    exact ⟨fun _ => h, fun _ => rfl⟩
theorem add_n {x y : Int32} {a b : Nat} (hx : x = nI a) (hy : y = nI b) : x + y = nI (a + b) := by rw [hx, hy, nI_add]
theorem mul_n {x y : Int32} {a b : Nat} (hx : x = nI a) (hy : y = nI b) : x * y = nI (a * b) := by rw [hx, hy, pk_mul]
theorem sub_n {x y : Int32} {a b : Nat} (hx : x = nI a) (hy : y = nI b) (h : b ≤ a) : x - y = nI (a - b) := by rw [hx, hy, pk_sub h]
theorem div_n {x y : Int32} {a b : Nat} (hx : x = nI a) (hy : y = nI b) (h : a < 2147483648 ∧ 0 < b ∧ b < 2147483648) : x / y = nI (a / b) := by rw [hx, hy, pk_div h.1 h.2.1 h.2.2]
theorem rem_n {x y : Int32} {a b : Nat} (hx : x = nI a) (hy : y = nI b) (h : a < 2147483648 ∧ 0 < b ∧ b < 2147483648) : x - x / y * y = nI (a % b) := by rw [hx, hy, pk_rem h.1 h.2.1 h.2.2]
theorem nI_inj {a b : Nat} (h : nI a = nI b) (ha : a < 2147483648) (hb : b < 2147483648) : a = b := (nI_eq ha hb).mp h
theorem br_eq {x y : Int32} {a b : Nat} {A B : Prop} (hx : x = nI a) (hy : y = nI b) (ha : a < 2147483648) (hb : b < 2147483648) (f : a = b → A) (g : ¬ a = b → B) : (x = y → A) ∧ (¬ x = y → B) := by
  subst hx; subst hy
  exact ⟨fun h => f (nI_inj h ha hb), fun h => g (fun q => h (by rw [q]))⟩
theorem br_ne {x y : Int32} {a b : Nat} {A B : Prop} (hx : x = nI a) (hy : y = nI b) (ha : a < 2147483648) (hb : b < 2147483648) (f : ¬ a = b → A) (g : a = b → B) : (¬ x = y → A) ∧ (x = y → B) := by
  subst hx; subst hy
  exact ⟨fun h => f (fun q => h (by rw [q])), fun h => g (nI_inj h ha hb)⟩
theorem br_lt {x y : Int32} {a b : Nat} {A B : Prop} (hx : x = nI a) (hy : y = nI b) (ha : a < 2147483648) (hb : b < 2147483648) (f : a < b → A) (g : b ≤ a → B) : (x < y → A) ∧ (¬ x < y → B) := by
  subst hx; subst hy
  exact ⟨fun h => f ((nI_ltI ha hb).mp h), fun h => g (Nat.not_lt.mp fun q => h ((nI_ltI ha hb).mpr q))⟩
theorem br_ge {x y : Int32} {a b : Nat} {A B : Prop} (hx : x = nI a) (hy : y = nI b) (ha : a < 2147483648) (hb : b < 2147483648) (f : b ≤ a → A) (g : a < b → B) : (y ≤ x → A) ∧ (¬ y ≤ x → B) := by
  subst hx; subst hy
  exact ⟨fun h => f ((nI_leI hb ha).mp h), fun h => g (Nat.not_le.mp fun q => h ((nI_leI hb ha).mpr q))⟩
theorem br_gt {x y : Int32} {a b : Nat} {A B : Prop} (hx : x = nI a) (hy : y = nI b) (ha : a < 2147483648) (hb : b < 2147483648) (f : b < a → A) (g : a ≤ b → B) : (y < x → A) ∧ (¬ y < x → B) := by
  subst hx; subst hy
  exact ⟨fun h => f ((nI_ltI hb ha).mp h), fun h => g (Nat.not_lt.mp fun q => h ((nI_ltI hb ha).mpr q))⟩
theorem br_le {x y : Int32} {a b : Nat} {A B : Prop} (hx : x = nI a) (hy : y = nI b) (ha : a < 2147483648) (hb : b < 2147483648) (f : a ≤ b → A) (g : b < a → B) : (x ≤ y → A) ∧ (¬ x ≤ y → B) := by
  subst hx; subst hy
  exact ⟨fun h => f ((nI_leI ha hb).mp h), fun h => g (Nat.not_le.mp fun q => h ((nI_leI ha hb).mpr q))⟩
theorem brb_eq {c : Prop} [Decidable c] {A B : Prop} (f : ¬ c → A) (g : c → B) : (bI c = nI 0 → A) ∧ (¬ bI c = nI 0 → B) :=
  ⟨fun h => f (bI_0.mp h), fun h => g (Decidable.not_not.mp fun q => h (bI_0.mpr q))⟩
theorem brb_ne {c : Prop} [Decidable c] {A B : Prop} (f : c → A) (g : ¬ c → B) : (¬ bI c = nI 0 → A) ∧ (bI c = nI 0 → B) :=
  ⟨fun h => f (Decidable.not_not.mp fun q => h (bI_0.mpr q)), fun h => g (bI_0.mp h)⟩
theorem up4_s (σ : Sg) (k : Nat) (d : Bool) (i j : Nat) (v : Int32) : up4 σ k d i j v k d i j = v := by simp [up4]
/-- how many of the first n -/
def ct (p : Nat → Bool) : Nat → Nat
  | 0 => 0
  | n + 1 => ct p n + (if p n then 1 else 0)
theorem ct_le (p : Nat → Bool) : ∀ n, ct p n ≤ n
  | 0 => Nat.le_refl _
  | n + 1 => by
    have := ct_le p n
    unfold ct
    split <;> omega
theorem ct_cong {p q : Nat → Bool} : ∀ {n : Nat}, (∀ k, k < n → p k = q k) → ct p n = ct q n
  | 0, _ => rfl
  | n + 1, h => by
    unfold ct
    rw [ct_cong (fun k hk => h k (by omega)), h n (by omega)]
theorem ct_one {p q : Nat → Bool} {i : Nat} : ∀ {n : Nat}, i < n → (∀ k, k < n → k ≠ i → p k = q k) → ct p n + (if q i then 1 else 0) = ct q n + (if p i then 1 else 0)
  | 0, h, _ => absurd h (Nat.not_lt_zero _)
  | n + 1, h, hk => by
    unfold ct
    by_cases e : i = n
    · subst e
      rw [ct_cong (p := p) (q := q) (fun k hk' => hk k (by omega) (by omega))]
      omega
    · have := ct_one (n := n) (i := i) (p := p) (q := q) (by omega) (fun k hk' hne => hk k (by omega) hne)
      rw [hk n (by omega) (by omega)]
      omega
theorem ct_pos {p : Nat → Bool} {i n : Nat} (h : i < n) (hp : p i = true) : 0 < ct p n := by
  induction n with
  | zero => omega
  | succ n ih =>
    unfold ct
    by_cases e : i = n
    · subst e
      rw [hp]
      simp
    · have := ih (by omega)
      omega
theorem ct_zero {p : Nat → Bool} : ∀ {n : Nat}, ct p n = 0 → ∀ k, k < n → p k = false
  | 0, _, k, hk => absurd hk (Nat.not_lt_zero _)
  | n + 1, h, k, hk => by
    unfold ct at h
    by_cases e : k = n
    · subst e
      cases hp : p k with
      | false => rfl
      | true => rw [hp] at h; simp at h
    · exact ct_zero (n := n) (by omega) k (by omega)
theorem EvQ_wp {sd : Bool} {mid : Nat} {vs : List AV} {σ : Sg} {r : Option AV} {Q : Sg → Prop} (n : Nat) (cuts : List Nat) (hm : Nat.blt mid nM = true) (hl : Nat.ble (argL vs).length (mN mid) = true) (h : wp sd (mH mid) (mR mid) (mD mid) (fun r' s' => r' = r ∧ Q s') (G sd mid (fun r' s' => r' = r ∧ Q s')) cuts n 0 (mD mid) (initL (mN mid) vs) [] σ) : ∃ σ', Ev sd mid vs σ r σ' ∧ Q σ' := by
  obtain ⟨r', s', ⟨rfl, hq⟩, hev⟩ := EvP_wp n cuts hm hl h
  exact ⟨s', hev, hq⟩
theorem hasL_fg {as : Ad} {ls : Array Slot} {nL : Nat} {L : Lc} (h : hasL as ls nL L) (j : Nat) : hasL as ls nL (L.set j none) := by
  refine ⟨⟨h.1.1, h.1.2.1, fun q hq => h.1.2.2 q ?_⟩, by rw [List.length_set]; exact h.2⟩
  obtain ⟨i, w⟩ := q
  obtain ⟨v, hv, rfl⟩ := lvOf_mem.mp hq
  refine lvOf_mem.mpr ⟨v, ?_, rfl⟩
  by_cases e : j = i
  · subst e
    have hl : j < L.length := by
      have := (List.getElem?_eq_some_iff.mp hv).1
      rwa [List.length_set] at this
    rw [List.getElem?_set_self hl] at hv
    cases hv
  · rwa [List.getElem?_set_ne e] at hv
/-- a local that isn't needed any more -/
theorem G_fg {sd : Bool} {mid : Nat} {P : Option AV → Sg → Prop} {i : Nat} {L : Lc} {st : List AV} {σ : Sg} (j : Nat) (h : G sd mid P i (L.set j none) st σ) : G sd mid P i L st σ := by
  obtain ⟨r, σ', hp, hg⟩ := h
  exact ⟨r, σ', hp, fun p l e s m args below meth c H locs ls D cs as d hd hC hW hS hl => hg p l e s m args below meth c H locs ls D cs as d hd hC hW hS (hasL_fg hl j)⟩
theorem nI_m1 {n : Nat} (h : n < 2147483648) : ¬ nI n = -1 := by
  intro q
  have h1 := congrArg Int32.toInt q
  rw [nI_toInt h] at h1
  have : (-1 : Int32).toInt = -1 := by decide
  omega
end
section
/-! The model's state: t what was told, D its day's row by fields. -/
abbrev Dy : Type := Nat → Nat → Int32
def up2 (D : Dy) (f i : Nat) (v : Int32) : Dy := fun f' i' => if f' = f ∧ i' = i then v else D f' i'
def fOff : List (Nat × Nat) := [(0, 8), (8, 12), (20, 12), (32, 12), (44, 12), (56, 12), (68, 12), (80, 288), (368, 288), (656, 288), (944, 288), (1232, 60), (1292, 60), (1352, 60), (1412, 60), (1472, 60), (1532, 200), (1732, 200), (1932, 200), (2132, 200), (2332, 200), (2532, 200), (2732, 200), (2932, 200), (3132, 12), (3144, 20), (3164, 20), (3184, 20000)]
def fo (f : Nat) : Nat := (fOff.getD f (0, 0)).1
def fl (f : Nat) : Nat := (fOff.getD f (0, 0)).2
def scr (k j : Nat) : Bool := (k == 71) || (98 ≤ k && k ≤ 104) || (k == 69 && (j == 0 || j == 41 || j == 49))
def Ag (t : Sg) (D : Dy) (τ : Sg) : Prop := (∀ f i, i < fl f → τ 70 false 0 (fo f + i) = D f i) ∧ ∀ k d i j, ¬ k = 70 → scr k j = false → τ k d i j = t k d i j
theorem up2_s (D : Dy) (f i : Nat) (v : Int32) : up2 D f i v f i = v := by simp [up2]
theorem fo_all : (List.range 28).all (fun f => (List.range 28).all fun g => f == g || (Nat.ble (fo f + fl f) (fo g) || Nat.ble (fo g + fl g) (fo f))) = true := by decide +kernel
theorem fl_big {f : Nat} (h : 28 ≤ f) : fl f = 0 := by
  unfold fl
  rw [List.getD_eq_getElem?_getD, List.getElem?_eq_none (by simpa [fOff] using h)]
  rfl
theorem fo_ap {f g i j : Nat} (hi : i < fl f) (hj : j < fl g) (h : fo f + i = fo g + j) : f = g ∧ i = j := by
  have hf : f < 28 := by
    rcases Nat.lt_or_ge f 28 with q | q
    · exact q
    · rw [fl_big q] at hi; omega
  have hg : g < 28 := by
    rcases Nat.lt_or_ge g 28 with q | q
    · exact q
    · rw [fl_big q] at hj; omega
  have h1 := List.all_eq_true.mp (List.all_eq_true.mp fo_all f (List.mem_range.mpr hf)) g (List.mem_range.mpr hg)
  simp only [Bool.or_eq_true, beq_iff_eq, Nat.ble_eq] at h1
  rcases h1 with rfl | h1 | h1
  · exact ⟨rfl, by omega⟩
  · omega
  · omega
theorem Ag_st {t : Sg} {D : Dy} {τ : Sg} (h : Ag t D τ) (f i : Nat) (hi : i < fl f) (v : Int32) : Ag t (up2 D f i v) (up4 τ 70 false 0 (fo f + i) v) := by
  refine ⟨fun g j hj => ?_, fun k d i' j hk hs => ?_⟩
  · unfold up4 up2
    by_cases e : fo g + j = fo f + i
    · obtain ⟨rfl, rfl⟩ := fo_ap hj hi e
      rw [if_pos ⟨rfl, rfl, rfl, rfl⟩, if_pos ⟨rfl, rfl⟩]
    · rw [if_neg (fun q => e q.2.2.2), if_neg (fun q => e (by rw [q.1, q.2]))]
      exact h.1 g j hj
  · rw [up4_ne (fun q => hk (congrArg Prod.fst q))]
    exact h.2 k d i' j hk hs
theorem Ag_scr {t : Sg} {D : Dy} {τ : Sg} (h : Ag t D τ) {k : Nat} {d : Bool} {i j : Nat} {v : Int32} (hk : ¬ k = 70) (hs : scr k j = true) : Ag t D (up4 τ k d i j v) := by
  refine ⟨fun g q hq => ?_, fun k' d' i' j' hk' hs' => ?_⟩
  · rw [up4_ne (fun q => hk (congrArg Prod.fst q).symm)]
    exact h.1 g q hq
  · rw [← h.2 k' d' i' j' hk' hs']
    unfold up4
    rw [if_neg]
    rintro ⟨rfl, -, -, rfl⟩
    rw [hs] at hs'
    cases hs'
theorem Ag_t {t : Sg} {D : Dy} {τ : Sg} (h : Ag t D τ) (k : Nat) (d : Bool) (i j : Nat) (v : Int32) (hk : ¬ k = 70) : Ag (up4 t k d i j v) D (up4 τ k d i j v) := by
  refine ⟨fun g q hq => ?_, fun k' d' i' j' hk' hs' => ?_⟩
  · rw [up4_ne (fun q => hk (congrArg Prod.fst q).symm)]
    exact h.1 g q hq
  · unfold up4
    split
    · rfl
    · exact h.2 k' d' i' j' hk' hs'
theorem Ag_rf (τ : Sg) : Ag τ (fun f i => τ 70 false 0 (fo f + i)) τ := ⟨fun _ _ _ => rfl, fun _ _ _ _ _ _ => rfl⟩
theorem Ag.r0 {t : Sg} {D : Dy} {τ : Sg} (h : Ag t D τ) (i : Nat) (hi : i < 8) : τ 70 false 0 (i) = D 0 i := by rw [← h.1 0 i hi]; congr 1; exact (Nat.zero_add i).symm
theorem Ag.w0 {t : Sg} {D : Dy} {τ : Sg} (h : Ag t D τ) (i : Nat) (hi : i < 8) (v : Int32) : Ag t (up2 D 0 i v) (up4 τ 70 false 0 (i) v) := by have := Ag_st h 0 i hi v; rwa [show fo 0 + i = i from Nat.zero_add i] at this
theorem Ag.r1 {t : Sg} {D : Dy} {τ : Sg} (h : Ag t D τ) (i : Nat) (hi : i < 12) : τ 70 false 0 (8 + i) = D 1 i := h.1 1 i hi
theorem Ag.w1 {t : Sg} {D : Dy} {τ : Sg} (h : Ag t D τ) (i : Nat) (hi : i < 12) (v : Int32) : Ag t (up2 D 1 i v) (up4 τ 70 false 0 (8 + i) v) := Ag_st h 1 i hi v
theorem Ag.r2 {t : Sg} {D : Dy} {τ : Sg} (h : Ag t D τ) (i : Nat) (hi : i < 12) : τ 70 false 0 (20 + i) = D 2 i := h.1 2 i hi
theorem Ag.w2 {t : Sg} {D : Dy} {τ : Sg} (h : Ag t D τ) (i : Nat) (hi : i < 12) (v : Int32) : Ag t (up2 D 2 i v) (up4 τ 70 false 0 (20 + i) v) := Ag_st h 2 i hi v
theorem Ag.r3 {t : Sg} {D : Dy} {τ : Sg} (h : Ag t D τ) (i : Nat) (hi : i < 12) : τ 70 false 0 (32 + i) = D 3 i := h.1 3 i hi
theorem Ag.w3 {t : Sg} {D : Dy} {τ : Sg} (h : Ag t D τ) (i : Nat) (hi : i < 12) (v : Int32) : Ag t (up2 D 3 i v) (up4 τ 70 false 0 (32 + i) v) := Ag_st h 3 i hi v
theorem Ag.r4 {t : Sg} {D : Dy} {τ : Sg} (h : Ag t D τ) (i : Nat) (hi : i < 12) : τ 70 false 0 (44 + i) = D 4 i := h.1 4 i hi
theorem Ag.w4 {t : Sg} {D : Dy} {τ : Sg} (h : Ag t D τ) (i : Nat) (hi : i < 12) (v : Int32) : Ag t (up2 D 4 i v) (up4 τ 70 false 0 (44 + i) v) := Ag_st h 4 i hi v
theorem Ag.r5 {t : Sg} {D : Dy} {τ : Sg} (h : Ag t D τ) (i : Nat) (hi : i < 12) : τ 70 false 0 (56 + i) = D 5 i := h.1 5 i hi
theorem Ag.w5 {t : Sg} {D : Dy} {τ : Sg} (h : Ag t D τ) (i : Nat) (hi : i < 12) (v : Int32) : Ag t (up2 D 5 i v) (up4 τ 70 false 0 (56 + i) v) := Ag_st h 5 i hi v
theorem Ag.r6 {t : Sg} {D : Dy} {τ : Sg} (h : Ag t D τ) (i : Nat) (hi : i < 12) : τ 70 false 0 (68 + i) = D 6 i := h.1 6 i hi
theorem Ag.w6 {t : Sg} {D : Dy} {τ : Sg} (h : Ag t D τ) (i : Nat) (hi : i < 12) (v : Int32) : Ag t (up2 D 6 i v) (up4 τ 70 false 0 (68 + i) v) := Ag_st h 6 i hi v
theorem Ag.r7 {t : Sg} {D : Dy} {τ : Sg} (h : Ag t D τ) (i : Nat) (hi : i < 288) : τ 70 false 0 (80 + i) = D 7 i := h.1 7 i hi
theorem Ag.w7 {t : Sg} {D : Dy} {τ : Sg} (h : Ag t D τ) (i : Nat) (hi : i < 288) (v : Int32) : Ag t (up2 D 7 i v) (up4 τ 70 false 0 (80 + i) v) := Ag_st h 7 i hi v
theorem Ag.r8 {t : Sg} {D : Dy} {τ : Sg} (h : Ag t D τ) (i : Nat) (hi : i < 288) : τ 70 false 0 (368 + i) = D 8 i := h.1 8 i hi
theorem Ag.w8 {t : Sg} {D : Dy} {τ : Sg} (h : Ag t D τ) (i : Nat) (hi : i < 288) (v : Int32) : Ag t (up2 D 8 i v) (up4 τ 70 false 0 (368 + i) v) := Ag_st h 8 i hi v
theorem Ag.r9 {t : Sg} {D : Dy} {τ : Sg} (h : Ag t D τ) (i : Nat) (hi : i < 288) : τ 70 false 0 (656 + i) = D 9 i := h.1 9 i hi
theorem Ag.w9 {t : Sg} {D : Dy} {τ : Sg} (h : Ag t D τ) (i : Nat) (hi : i < 288) (v : Int32) : Ag t (up2 D 9 i v) (up4 τ 70 false 0 (656 + i) v) := Ag_st h 9 i hi v
theorem Ag.r10 {t : Sg} {D : Dy} {τ : Sg} (h : Ag t D τ) (i : Nat) (hi : i < 288) : τ 70 false 0 (944 + i) = D 10 i := h.1 10 i hi
theorem Ag.w10 {t : Sg} {D : Dy} {τ : Sg} (h : Ag t D τ) (i : Nat) (hi : i < 288) (v : Int32) : Ag t (up2 D 10 i v) (up4 τ 70 false 0 (944 + i) v) := Ag_st h 10 i hi v
theorem Ag.r11 {t : Sg} {D : Dy} {τ : Sg} (h : Ag t D τ) (i : Nat) (hi : i < 60) : τ 70 false 0 (1232 + i) = D 11 i := h.1 11 i hi
theorem Ag.w11 {t : Sg} {D : Dy} {τ : Sg} (h : Ag t D τ) (i : Nat) (hi : i < 60) (v : Int32) : Ag t (up2 D 11 i v) (up4 τ 70 false 0 (1232 + i) v) := Ag_st h 11 i hi v
theorem Ag.r12 {t : Sg} {D : Dy} {τ : Sg} (h : Ag t D τ) (i : Nat) (hi : i < 60) : τ 70 false 0 (1292 + i) = D 12 i := h.1 12 i hi
theorem Ag.w12 {t : Sg} {D : Dy} {τ : Sg} (h : Ag t D τ) (i : Nat) (hi : i < 60) (v : Int32) : Ag t (up2 D 12 i v) (up4 τ 70 false 0 (1292 + i) v) := Ag_st h 12 i hi v
theorem Ag.r13 {t : Sg} {D : Dy} {τ : Sg} (h : Ag t D τ) (i : Nat) (hi : i < 60) : τ 70 false 0 (1352 + i) = D 13 i := h.1 13 i hi
theorem Ag.w13 {t : Sg} {D : Dy} {τ : Sg} (h : Ag t D τ) (i : Nat) (hi : i < 60) (v : Int32) : Ag t (up2 D 13 i v) (up4 τ 70 false 0 (1352 + i) v) := Ag_st h 13 i hi v
theorem Ag.r14 {t : Sg} {D : Dy} {τ : Sg} (h : Ag t D τ) (i : Nat) (hi : i < 60) : τ 70 false 0 (1412 + i) = D 14 i := h.1 14 i hi
theorem Ag.w14 {t : Sg} {D : Dy} {τ : Sg} (h : Ag t D τ) (i : Nat) (hi : i < 60) (v : Int32) : Ag t (up2 D 14 i v) (up4 τ 70 false 0 (1412 + i) v) := Ag_st h 14 i hi v
theorem Ag.r15 {t : Sg} {D : Dy} {τ : Sg} (h : Ag t D τ) (i : Nat) (hi : i < 60) : τ 70 false 0 (1472 + i) = D 15 i := h.1 15 i hi
theorem Ag.w15 {t : Sg} {D : Dy} {τ : Sg} (h : Ag t D τ) (i : Nat) (hi : i < 60) (v : Int32) : Ag t (up2 D 15 i v) (up4 τ 70 false 0 (1472 + i) v) := Ag_st h 15 i hi v
theorem Ag.r16 {t : Sg} {D : Dy} {τ : Sg} (h : Ag t D τ) (i : Nat) (hi : i < 200) : τ 70 false 0 (1532 + i) = D 16 i := h.1 16 i hi
theorem Ag.w16 {t : Sg} {D : Dy} {τ : Sg} (h : Ag t D τ) (i : Nat) (hi : i < 200) (v : Int32) : Ag t (up2 D 16 i v) (up4 τ 70 false 0 (1532 + i) v) := Ag_st h 16 i hi v
theorem Ag.r17 {t : Sg} {D : Dy} {τ : Sg} (h : Ag t D τ) (i : Nat) (hi : i < 200) : τ 70 false 0 (1732 + i) = D 17 i := h.1 17 i hi
theorem Ag.w17 {t : Sg} {D : Dy} {τ : Sg} (h : Ag t D τ) (i : Nat) (hi : i < 200) (v : Int32) : Ag t (up2 D 17 i v) (up4 τ 70 false 0 (1732 + i) v) := Ag_st h 17 i hi v
theorem Ag.r18 {t : Sg} {D : Dy} {τ : Sg} (h : Ag t D τ) (i : Nat) (hi : i < 200) : τ 70 false 0 (1932 + i) = D 18 i := h.1 18 i hi
theorem Ag.w18 {t : Sg} {D : Dy} {τ : Sg} (h : Ag t D τ) (i : Nat) (hi : i < 200) (v : Int32) : Ag t (up2 D 18 i v) (up4 τ 70 false 0 (1932 + i) v) := Ag_st h 18 i hi v
theorem Ag.r19 {t : Sg} {D : Dy} {τ : Sg} (h : Ag t D τ) (i : Nat) (hi : i < 200) : τ 70 false 0 (2132 + i) = D 19 i := h.1 19 i hi
theorem Ag.w19 {t : Sg} {D : Dy} {τ : Sg} (h : Ag t D τ) (i : Nat) (hi : i < 200) (v : Int32) : Ag t (up2 D 19 i v) (up4 τ 70 false 0 (2132 + i) v) := Ag_st h 19 i hi v
theorem Ag.r20 {t : Sg} {D : Dy} {τ : Sg} (h : Ag t D τ) (i : Nat) (hi : i < 200) : τ 70 false 0 (2332 + i) = D 20 i := h.1 20 i hi
theorem Ag.w20 {t : Sg} {D : Dy} {τ : Sg} (h : Ag t D τ) (i : Nat) (hi : i < 200) (v : Int32) : Ag t (up2 D 20 i v) (up4 τ 70 false 0 (2332 + i) v) := Ag_st h 20 i hi v
theorem Ag.r21 {t : Sg} {D : Dy} {τ : Sg} (h : Ag t D τ) (i : Nat) (hi : i < 200) : τ 70 false 0 (2532 + i) = D 21 i := h.1 21 i hi
theorem Ag.w21 {t : Sg} {D : Dy} {τ : Sg} (h : Ag t D τ) (i : Nat) (hi : i < 200) (v : Int32) : Ag t (up2 D 21 i v) (up4 τ 70 false 0 (2532 + i) v) := Ag_st h 21 i hi v
theorem Ag.r22 {t : Sg} {D : Dy} {τ : Sg} (h : Ag t D τ) (i : Nat) (hi : i < 200) : τ 70 false 0 (2732 + i) = D 22 i := h.1 22 i hi
theorem Ag.w22 {t : Sg} {D : Dy} {τ : Sg} (h : Ag t D τ) (i : Nat) (hi : i < 200) (v : Int32) : Ag t (up2 D 22 i v) (up4 τ 70 false 0 (2732 + i) v) := Ag_st h 22 i hi v
theorem Ag.r23 {t : Sg} {D : Dy} {τ : Sg} (h : Ag t D τ) (i : Nat) (hi : i < 200) : τ 70 false 0 (2932 + i) = D 23 i := h.1 23 i hi
theorem Ag.w23 {t : Sg} {D : Dy} {τ : Sg} (h : Ag t D τ) (i : Nat) (hi : i < 200) (v : Int32) : Ag t (up2 D 23 i v) (up4 τ 70 false 0 (2932 + i) v) := Ag_st h 23 i hi v
theorem Ag.r24 {t : Sg} {D : Dy} {τ : Sg} (h : Ag t D τ) (i : Nat) (hi : i < 12) : τ 70 false 0 (3132 + i) = D 24 i := h.1 24 i hi
theorem Ag.w24 {t : Sg} {D : Dy} {τ : Sg} (h : Ag t D τ) (i : Nat) (hi : i < 12) (v : Int32) : Ag t (up2 D 24 i v) (up4 τ 70 false 0 (3132 + i) v) := Ag_st h 24 i hi v
theorem Ag.r25 {t : Sg} {D : Dy} {τ : Sg} (h : Ag t D τ) (i : Nat) (hi : i < 20) : τ 70 false 0 (3144 + i) = D 25 i := h.1 25 i hi
theorem Ag.w25 {t : Sg} {D : Dy} {τ : Sg} (h : Ag t D τ) (i : Nat) (hi : i < 20) (v : Int32) : Ag t (up2 D 25 i v) (up4 τ 70 false 0 (3144 + i) v) := Ag_st h 25 i hi v
theorem Ag.r26 {t : Sg} {D : Dy} {τ : Sg} (h : Ag t D τ) (i : Nat) (hi : i < 20) : τ 70 false 0 (3164 + i) = D 26 i := h.1 26 i hi
theorem Ag.w26 {t : Sg} {D : Dy} {τ : Sg} (h : Ag t D τ) (i : Nat) (hi : i < 20) (v : Int32) : Ag t (up2 D 26 i v) (up4 τ 70 false 0 (3164 + i) v) := Ag_st h 26 i hi v
theorem Ag.r27 {t : Sg} {D : Dy} {τ : Sg} (h : Ag t D τ) (i : Nat) (hi : i < 20000) : τ 70 false 0 (3184 + i) = D 27 i := h.1 27 i hi
theorem Ag.w27 {t : Sg} {D : Dy} {τ : Sg} (h : Ag t D τ) (i : Nat) (hi : i < 20000) (v : Int32) : Ag t (up2 D 27 i v) (up4 τ 70 false 0 (3184 + i) v) := Ag_st h 27 i hi v
theorem add_nr {x y : Int32} {k a b : Nat} (hx : x = nI (k + a)) (hy : y = nI b) : x + y = nI (k + (a + b)) := by rw [hx, hy, nI_add, Nat.add_assoc]
def nN (x : Int32) : Nat := x.toNatClampNeg
theorem nN_nI {n : Nat} (h : n < 2147483648) : nN (nI n) = n := nI_clamp h
def nP (t : Sg) : Nat := nN (t 69 false 0 3)
def nB (t : Sg) : Nat := nN (t 69 false 0 7)
def nR (t : Sg) : Nat := nN (t 69 false 0 9)
def nH (t : Sg) : Nat := nN (t 69 false 0 18)
def nSaid (t : Sg) : Nat := nN (t 69 false 0 20)
def nRu (t : Sg) : Nat := nN (t 69 false 0 22)
def nD (t : Sg) : Nat := nN (t 69 false 0 26)
def nSi (t : Sg) : Nat := nN (t 69 false 0 31)
def nWi (t : Sg) : Nat := nN (t 69 false 0 34)
def nTe (t : Sg) : Nat := nN (t 69 false 0 38)
/-- a cell holds a number of at most m -/
def Is (x : Int32) (m : Nat) : Prop := x = nI (nN x) ∧ nN x ≤ m
theorem Is_of {n m : Nat} (h : n ≤ m) (hm : m < 2147483648) : Is (nI n) m := by
  unfold Is
  rw [nN_nI (by omega)]
  exact ⟨rfl, h⟩
/-- how many of each were told -/
def WN (t : Sg) : Prop := Is (t 69 false 0 3) 12 ∧ Is (t 69 false 0 7) 60 ∧ Is (t 69 false 0 9) 200
theorem WN.P {t : Sg} (h : WN t) : nP t ≤ 12 := h.1.2
theorem WN.B {t : Sg} (h : WN t) : nB t ≤ 60 := h.2.1.2
theorem WN.R {t : Sg} (h : WN t) : nR t ≤ 200 := h.2.2.2
theorem Ag.P {t : Sg} {D : Dy} {τ : Sg} (h : Ag t D τ) (hT : WN t) : τ 69 false 0 3 = nI (nP t) := (h.2 69 _ _ _ (by decide) rfl).trans hT.1.1
theorem Ag.B {t : Sg} {D : Dy} {τ : Sg} (h : Ag t D τ) (hT : WN t) : τ 69 false 0 7 = nI (nB t) := (h.2 69 _ _ _ (by decide) rfl).trans hT.2.1.1
theorem Ag.R {t : Sg} {D : Dy} {τ : Sg} (h : Ag t D τ) (hT : WN t) : τ 69 false 0 9 = nI (nR t) := (h.2 69 _ _ _ (by decide) rfl).trans hT.2.2.1
def isA (D : Dy) (p b : Nat) : Bool := decide (D 11 b = nI 0) && decide (D 12 b = nI p)
def isG (D : Dy) (p b : Nat) : Bool := isA D p b && decide (D 14 b = nI 0)
def thr (t : Sg) (D : Dy) (p : Nat) : Nat := ct (isA D p) (nB t)
def gdn (t : Sg) (D : Dy) (p : Nat) : Nat := ct (isG D p) (nB t)
def fre (t : Sg) (D : Dy) (p : Nat) : Int32 := t 74 false 0 p - nI (thr t D p)
def pik (D : Dy) (p : Nat) : Nat → Option Nat
  | 0 => none
  | n + 1 => if isG D p n = true ∧ (∀ m, pik D p n = some m → D 13 n < D 13 m) then some n else pik D p n
def oI : Option Nat → Int32
  | none => -1
  | some n => nI n
def lgs (D : Dy) (w p r b : Int32) : Dy := if nN (D 0 7) < 4000 then up2 (up2 (up2 (up2 (up2 (up2 D 27 (5 * nN (D 0 7)) w) 27 (5 * nN (D 0 7) + 1) (D 0 0)) 27 (5 * nN (D 0 7) + 2) p) 27 (5 * nN (D 0 7) + 3) r) 27 (5 * nN (D 0 7) + 4) b) 0 7 (nI (nN (D 0 7) + 1)) else D
def tls (D : Dy) (r : Nat) : Dy := up2 (up2 (up2 (up2 (up2 (up2 D 16 r (nI 0)) 17 r (-1)) 18 r (-1)) 19 r (-1)) 20 r (-1)) 21 r (nI 0)
def way (t : Sg) (p q : Nat) : Int32 := nI 1 + (mAbs (t 72 false 0 p - t 72 false 0 q) + mAbs (t 73 false 0 p - t 73 false 0 q)) / nI 10
theorem ct_S (p : Nat → Bool) (n : Nat) : ct p (n + 1) = ct p n + (if p n then 1 else 0) := rfl
theorem neg_sub (x : Int32) : -x = 0 - x := (Int32.zero_sub x).symm
theorem i_nlt {x y : Int32} (h : ¬ x < y) : y ≤ x := Int32.not_lt.mp h
theorem i_nle {x y : Int32} (h : ¬ x ≤ y) : y < x := Int32.not_le.mp h
theorem mv_in {sd : Bool} {τ : Sg} {v a b : Int32} : Ev sd 45 [.inl v, .inl a, .inl b] τ (some (.inl (bI (a ≤ v ∧ v ≤ b)))) τ := by
  refine Ev_wp 20 [] rfl rfl ?_
  refine ⟨fun h => ?_, fun h => ⟨fun h2 => ?_, fun h2 => ?_⟩⟩
  · exact ⟨Or.inl rfl, by rw [bI_f (fun q => absurd h (Int32.not_lt.mpr q.1))], rfl⟩
  · exact ⟨Or.inl rfl, by rw [bI_f (fun q => absurd h2 (Int32.not_lt.mpr q.2))], rfl⟩
  · exact ⟨Or.inr rfl, by rw [bI_t ⟨i_nlt h, i_nlt h2⟩], rfl⟩
theorem mv_size {sd : Bool} {τ : Sg} {v : Int32} : Ev sd 56 [.inl v] τ (some (.inl (mAbs v))) τ := by
  refine Ev_wp 20 [] rfl rfl ?_
  refine ⟨fun h => ?_, fun h => ?_⟩
  · rw [nI_0] at h
    exact ⟨by unfold mAbs; rw [if_pos h], rfl⟩
  · rw [nI_0] at h
    exact ⟨by unfold mAbs; rw [if_neg h, neg_sub], rfl⟩
theorem mv_there_l {t : Sg} {D : Dy} {τ : Sg} (hA : Ag t D τ) (hT : WN t) {x : Int32} {p : Nat} (hx : x = nI p) : ∀ (k b : Nat), b + k = nB t → ∀ n, n = ct (isA D p) b → G true 49 (fun r' s' => r' = some (.inl (nI (thr t D p))) ∧ s' = τ) 4 [some (.inr (.inr (69, false, 0))), some (.inl x), some (.inl (nI n)), some (.inl (nI b))] [] τ := by
  have eB := hA.B hT
  have hB := hT.B
  intro k
  induction k with
  | zero =>
    intro b hb n hn
    have hn2 := hn ▸ ct_le (isA D p) b
    refine G_wp 100 [4] rfl ?_
    refine br_ge rfl eB (by omega) (by omega) (fun h7 => ?_) (fun h7 => ?_)
    · rw [show b = nB t by omega] at hn
      exact ⟨by rw [hn]; rfl, rfl⟩
    · exact absurd h7 (by omega)
  | succ k ih =>
    intro b hb n hn
    have hn2 := hn ▸ ct_le (isA D p) b
    refine G_wp 100 [4] rfl ?_
    refine br_ge rfl eB (by omega) (by omega) (fun h7 => ?_) (fun h7 => ?_)
    · exact absurd h7 (by omega)
    · refine ⟨1232 + b, (add_n rfl rfl), (by show _ < 23184; omega), ?_⟩
      rw [hA.r11 b (by omega)]
      refine ⟨fun h15 => ?_, fun h15 => ?_⟩
      · refine ⟨nI (n + 0), (add_n rfl rfl), nI (b + 1), nI_add _ _, ?_⟩
        refine ih (b + 1) (by omega) _ ?_
        rw [ct_S, hn]
        simp_all [isA]
      · refine ⟨1292 + b, (add_n rfl rfl), (by show _ < 23184; omega), ?_⟩
        rw [hA.r12 b (by omega)]
        refine ⟨fun h23 => ?_, fun h23 => ?_⟩
        · refine ⟨nI (n + 0), (add_n rfl rfl), nI (b + 1), nI_add _ _, ?_⟩
          refine ih (b + 1) (by omega) _ ?_
          rw [ct_S, hn]
          simp_all [isA]
        · refine ⟨nI (n + 1), (add_n rfl rfl), nI (b + 1), nI_add _ _, ?_⟩
          refine ih (b + 1) (by omega) _ ?_
          rw [ct_S, hn]
          simp_all [isA]
theorem mv_there {t : Sg} {D : Dy} {τ : Sg} (hA : Ag t D τ) (hT : WN t) {x : Int32} {p : Nat} (hx : x = nI p) : Ev true 49 [.inr (.inr (69, false, 0)), .inl x] τ (some (.inl (nI (thr t D p)))) τ := by
  refine Ev_wp 100 [4] rfl rfl ?_
  refine ⟨_, rfl, _, rfl, ?_⟩
  exact mv_there_l hA hT hx (nB t) 0 (by omega) 0 rfl
theorem mv_good_l {t : Sg} {D : Dy} {τ : Sg} (hA : Ag t D τ) (hT : WN t) {x : Int32} {p : Nat} (hx : x = nI p) : ∀ (k b : Nat), b + k = nB t → ∀ n, n = ct (isG D p) b → G true 50 (fun r' s' => r' = some (.inl (nI (gdn t D p))) ∧ s' = τ) 4 [some (.inr (.inr (69, false, 0))), some (.inl x), some (.inl (nI n)), some (.inl (nI b))] [] τ := by
  have eB := hA.B hT
  have hB := hT.B
  intro k
  induction k with
  | zero =>
    intro b hb n hn
    have hn2 := hn ▸ ct_le (isG D p) b
    refine G_wp 100 [4] rfl ?_
    refine br_ge rfl eB (by omega) (by omega) (fun h7 => ?_) (fun h7 => ?_)
    · rw [show b = nB t by omega] at hn
      exact ⟨by rw [hn]; rfl, rfl⟩
    · exact absurd h7 (by omega)
  | succ k ih =>
    intro b hb n hn
    have hn2 := hn ▸ ct_le (isG D p) b
    refine G_wp 100 [4] rfl ?_
    refine br_ge rfl eB (by omega) (by omega) (fun h7 => ?_) (fun h7 => ?_)
    · exact absurd h7 (by omega)
    · refine ⟨1232 + b, (add_n rfl rfl), (by show _ < 23184; omega), ?_⟩
      rw [hA.r11 b (by omega)]
      refine ⟨fun h15 => ?_, fun h15 => ?_⟩
      · refine ⟨nI (n + 0), (add_n rfl rfl), nI (b + 1), nI_add _ _, ?_⟩
        refine ih (b + 1) (by omega) _ ?_
        rw [ct_S, hn]
        simp_all [isG, isA]
      · refine ⟨1292 + b, (add_n rfl rfl), (by show _ < 23184; omega), ?_⟩
        rw [hA.r12 b (by omega)]
        refine ⟨fun h23 => ?_, fun h23 => ?_⟩
        · refine ⟨nI (n + 0), (add_n rfl rfl), nI (b + 1), nI_add _ _, ?_⟩
          refine ih (b + 1) (by omega) _ ?_
          rw [ct_S, hn]
          simp_all [isG, isA]
        · refine ⟨1412 + b, (add_n rfl rfl), (by show _ < 23184; omega), ?_⟩
          rw [hA.r14 b (by omega)]
          refine ⟨fun h30 => ?_, fun h30 => ?_⟩
          · refine ⟨nI (n + 0), (add_n rfl rfl), nI (b + 1), nI_add _ _, ?_⟩
            refine ih (b + 1) (by omega) _ ?_
            rw [ct_S, hn]
            simp_all [isG, isA]
          · refine ⟨nI (n + 1), (add_n rfl rfl), nI (b + 1), nI_add _ _, ?_⟩
            refine ih (b + 1) (by omega) _ ?_
            rw [ct_S, hn]
            simp_all [isG, isA]
theorem mv_good {t : Sg} {D : Dy} {τ : Sg} (hA : Ag t D τ) (hT : WN t) {x : Int32} {p : Nat} (hx : x = nI p) : Ev true 50 [.inr (.inr (69, false, 0)), .inl x] τ (some (.inl (nI (gdn t D p)))) τ := by
  refine Ev_wp 100 [4] rfl rfl ?_
  refine ⟨_, rfl, _, rfl, ?_⟩
  exact mv_good_l hA hT hx (nB t) 0 (by omega) 0 rfl
theorem mv_free {t : Sg} {D : Dy} {τ : Sg} (hA : Ag t D τ) (hT : WN t) {x : Int32} {p : Nat} (hx : x = nI p) (hp : p < nP t) : Ev true 111 [.inr (.inr (69, false, 0)), .inl (x)] τ (some (.inl (fre t D p))) τ := by
  have hP := hT.P
  refine Ev_wp 29 [] rfl rfl ?_
  refine ⟨p, hx, (by show _ < 12; omega), ?_⟩
  rw [hA.2 74 _ _ _ (by decide) rfl]
  refine ⟨_, _, mv_there hA hT hx, ?_⟩
  exact ⟨rfl, rfl⟩
theorem mv_way {t : Sg} {D : Dy} {τ : Sg} (hA : Ag t D τ) (hT : WN t) {x y : Int32} {p q : Nat} (hx : x = nI p) (hp : p < nP t) (hy : y = nI q) (hq : q < nP t) : Ev true 118 [.inr (.inr (69, false, 0)), .inl (x), .inl (y)] τ (some (.inl (way t p q))) τ := by
  have hP := hT.P
  refine Ev_wp 46 [] rfl rfl ?_
  refine ⟨p, hx, (by show _ < 12; omega), ?_⟩
  rw [hA.2 72 _ _ _ (by decide) rfl]
  refine ⟨q, hy, (by show _ < 12; omega), ?_⟩
  rw [hA.2 72 _ _ _ (by decide) rfl]
  refine ⟨_, _, mv_size, p, hx, (by show _ < 12; omega), ?_⟩
  rw [hA.2 73 _ _ _ (by decide) rfl]
  refine ⟨q, hy, (by show _ < 12; omega), ?_⟩
  rw [hA.2 73 _ _ _ (by decide) rfl]
  refine ⟨_, _, mv_size, (by decide), ?_⟩
  exact ⟨rfl, rfl⟩
theorem in_lt {x : Int32} {n : Nat} (hn : n < 2147483648) : (nI 0 ≤ x ∧ x ≤ nI n - nI 1) ↔ ∃ p, x = nI p ∧ p < n := by
  constructor
  · rintro ⟨h1, h2⟩
    cases n with
    | zero =>
      have h3 : nI 0 - nI 1 = -1 := by decide
      rw [h3] at h2
      rw [nI_0] at h1
      have := Int32.le_iff_toInt_le.mp h1
      have := Int32.le_iff_toInt_le.mp h2
      simp at *
      omega
    | succ n =>
      have h3 : nI (n + 1) - nI 1 = nI n := nI_pred n
      rw [h3] at h2
      rw [nI_0] at h1
      obtain ⟨j, hj, e⟩ := nI_of2 (M := nI n) (n := n) (nI_toInt (by omega)) (Int32.not_lt.mpr h1) h2
      exact ⟨j, e, by omega⟩
  · rintro ⟨p, rfl, hp⟩
    cases n with
    | zero => omega
    | succ n =>
      rw [show nI (n + 1) - nI 1 = nI n from nI_pred n]
      exact ⟨nI_le (Nat.zero_le _) (by omega), nI_le (by omega) (by omega)⟩
theorem isP_iff {t : Sg} (hT : WN t) {x : Int32} : (nI 0 ≤ x ∧ x ≤ t 69 false 0 3 - nI 1) ↔ ∃ p, x = nI p ∧ p < nP t := by
  rw [hT.1.1]
  exact in_lt (by have := hT.1.2; omega)
theorem isK_iff {t : Sg} (hT : WN t) {x : Int32} : (nI 0 ≤ x ∧ x ≤ t 69 false 0 7 - nI 1) ↔ ∃ p, x = nI p ∧ p < nB t := by
  rw [hT.2.1.1]
  exact in_lt (by have := hT.2.1.2; omega)
theorem isR_iff {t : Sg} (hT : WN t) {x : Int32} : (nI 0 ≤ x ∧ x ≤ t 69 false 0 9 - nI 1) ↔ ∃ p, x = nI p ∧ p < nR t := by
  rw [hT.2.2.1]
  exact in_lt (by have := hT.2.2.2; omega)
theorem mv_isPost {t : Sg} {D : Dy} {τ : Sg} (hA : Ag t D τ) {x : Int32} : Ev true 108 [.inr (.inr (69, false, 0)), .inl x] τ (some (.inl (bI (nI 0 ≤ x ∧ x ≤ t 69 false 0 3 - nI 1)))) τ := by
  rw [← hA.2 69 false 0 3 (by decide) rfl]
  refine Ev_wp 30 [] rfl rfl ?_
  exact ⟨_, _, mv_in, bI_01 _, rfl, rfl⟩
theorem mv_isBike {t : Sg} {D : Dy} {τ : Sg} (hA : Ag t D τ) {x : Int32} : Ev true 109 [.inr (.inr (69, false, 0)), .inl x] τ (some (.inl (bI (nI 0 ≤ x ∧ x ≤ t 69 false 0 7 - nI 1)))) τ := by
  rw [← hA.2 69 false 0 7 (by decide) rfl]
  refine Ev_wp 30 [] rfl rfl ?_
  exact ⟨_, _, mv_in, bI_01 _, rfl, rfl⟩
theorem mv_isBegun {t : Sg} {D : Dy} {τ : Sg} (hA : Ag t D τ) : Ev true 48 [.inr (.inr (69, false, 0))] τ (some (.inl (bI (nI 0 < D 0 0 ∨ nI 0 < t 69 false 0 18)))) τ := by
  have e := hA.2 69 false 0 18 (by decide) rfl
  refine Ev_wp 30 [] rfl rfl ?_
  refine ⟨0, rfl, (by show _ < 23184; omega), ?_⟩
  rw [hA.r0 0 (by decide)]
  refine ⟨fun h => ⟨Or.inr rfl, by rw [bI_t (Or.inl h)], rfl⟩, fun h => ⟨fun h2 => ?_, fun h2 => ?_⟩⟩
  · rw [e] at h2
    exact ⟨Or.inl rfl, by rw [bI_f (fun q => q.elim h (fun q => absurd q (Int32.not_lt.mpr h2)))], rfl⟩
  · rw [e] at h2
    exact ⟨Or.inr rfl, by rw [bI_t (Or.inr (i_nle h2))], rfl⟩
theorem mv_logs {t : Sg} {D : Dy} {τ : Sg} (hA : Ag t D τ) (hL : Is (D 0 7) 4000) {v1 v2 v3 v4 : Int32} : ∃ τ', Ev true 47 [.inr (.inr (69, false, 0)), .inl (v1), .inl (v2), .inl (v3), .inl (v4)] τ none τ' ∧ Ag t (lgs D v1 v2 v3 v4) τ' := by
  have hL2 := hL.2
  refine EvQ_wp 81 [] rfl rfl ?_
  refine ⟨7, rfl, (by show _ < 23184; omega), ?_⟩
  rw [hA.r0 7 (by decide)]
  refine br_ge (by first | exact hL.1 | (simp [up2]; exact hL.1)) rfl (by omega) (by omega) (fun h5 => ?_) (fun h5 => ?_)
  · refine ⟨rfl, ?_⟩
    have e : lgs D v1 v2 v3 v4 = D := by
      unfold lgs
      first | rw [if_pos h5] | rw [if_neg (by omega)]
      try simp [up2]
    rw [e]
    exact hA
  · refine ⟨7, rfl, (by show _ < 23184; omega), ?_⟩
    rw [hA.r0 7 (by decide)]
    refine ⟨nI (3184 + (5 * (nN (D 0 7)))), (add_n rfl (mul_n rfl (by first | exact hL.1 | (simp [up2]; exact hL.1)))), 3184 + (5 * (nN (D 0 7))), rfl, (by show _ < 23184; omega), _, rfl, ?_⟩
    replace hA := hA.w27 (5 * (nN (D 0 7))) (by omega) v1
    refine ⟨0, rfl, (by show _ < 23184; omega), ?_⟩
    rw [hA.r0 0 (by decide)]
    refine ⟨3184 + ((5 * (nN (D 0 7))) + 1), (add_nr rfl rfl), (by show _ < 23184; omega), _, rfl, ?_⟩
    replace hA := hA.w27 ((5 * (nN (D 0 7))) + 1) (by omega) ((up2 D 27 (5 * (nN (D 0 7))) v1) 0 0)
    refine ⟨3184 + ((5 * (nN (D 0 7))) + 2), (add_nr rfl rfl), (by show _ < 23184; omega), _, rfl, ?_⟩
    replace hA := hA.w27 ((5 * (nN (D 0 7))) + 2) (by omega) v2
    refine ⟨3184 + ((5 * (nN (D 0 7))) + 3), (add_nr rfl rfl), (by show _ < 23184; omega), _, rfl, ?_⟩
    replace hA := hA.w27 ((5 * (nN (D 0 7))) + 3) (by omega) v3
    refine ⟨3184 + ((5 * (nN (D 0 7))) + 4), (add_nr rfl rfl), (by show _ < 23184; omega), _, rfl, ?_⟩
    replace hA := hA.w27 ((5 * (nN (D 0 7))) + 4) (by omega) v4
    refine ⟨7, rfl, (by show _ < 23184; omega), ?_⟩
    rw [hA.r0 7 (by decide)]
    refine ⟨7, rfl, (by show _ < 23184; omega), nI ((nN (D 0 7)) + 1), (add_n (by first | exact hL.1 | (simp [up2]; exact hL.1)) rfl), ?_⟩
    replace hA := hA.w0 7 (by decide) (nI ((nN (D 0 7)) + 1))
    refine ⟨rfl, ?_⟩
    have e : lgs D v1 v2 v3 v4 = (up2 (up2 (up2 (up2 (up2 (up2 D 27 (5 * (nN (D 0 7))) v1) 27 ((5 * (nN (D 0 7))) + 1) ((up2 D 27 (5 * (nN (D 0 7))) v1) 0 0)) 27 ((5 * (nN (D 0 7))) + 2) v2) 27 ((5 * (nN (D 0 7))) + 3) v3) 27 ((5 * (nN (D 0 7))) + 4) v4) 0 7 (nI ((nN (D 0 7)) + 1))) := by
      unfold lgs
      first | rw [if_pos h5] | rw [if_neg (by omega)]
      try simp [up2]
    rw [e]
    exact hA
theorem mv_tells {t : Sg} {D : Dy} {τ : Sg} (hA : Ag t D τ) {x : Int32} {r : Nat} (hx : x = nI r) (hr : r < 200) : ∃ τ', Ev true 46 [.inr (.inr (69, false, 0)), .inl (x)] τ none τ' ∧ Ag t (tls D r) τ' := by
  refine EvQ_wp 63 [] rfl rfl ?_
  refine ⟨1532 + r, (add_n rfl hx), (by show _ < 23184; omega), _, rfl, ?_⟩
  replace hA := hA.w16 r (by omega) (nI (0))
  refine ⟨1732 + r, (add_n rfl hx), (by show _ < 23184; omega), _, rfl, ?_⟩
  replace hA := hA.w17 r (by omega) (-1)
  refine ⟨1932 + r, (add_n rfl hx), (by show _ < 23184; omega), _, rfl, ?_⟩
  replace hA := hA.w18 r (by omega) (-1)
  refine ⟨2132 + r, (add_n rfl hx), (by show _ < 23184; omega), _, rfl, ?_⟩
  replace hA := hA.w19 r (by omega) (-1)
  refine ⟨2332 + r, (add_n rfl hx), (by show _ < 23184; omega), _, rfl, ?_⟩
  replace hA := hA.w20 r (by omega) (-1)
  refine ⟨2532 + r, (add_n rfl hx), (by show _ < 23184; omega), _, rfl, ?_⟩
  replace hA := hA.w21 r (by omega) (nI (0))
  refine ⟨rfl, ?_⟩
  have e : tls D r = (up2 (up2 (up2 (up2 (up2 (up2 D 16 r (nI (0))) 17 r (-1)) 18 r (-1)) 19 r (-1)) 20 r (-1)) 21 r (nI (0))) := by
    rfl
  rw [e]
  exact hA
theorem pik_S (D : Dy) (p n : Nat) : pik D p (n + 1) = if isG D p n = true ∧ (∀ m, pik D p n = some m → D 13 n < D 13 m) then some n else pik D p n := rfl
theorem pik_lt (D : Dy) (p : Nat) : ∀ (n m : Nat), pik D p n = some m → m < n ∧ isG D p m = true
  | 0, m, h => by cases h
  | n + 1, m, h => by
    rw [pik_S] at h
    split at h
    next hc => cases h; exact ⟨by omega, hc.1⟩
    next => have := pik_lt D p n m h; exact ⟨by omega, this.2⟩
theorem mv_pick_l {t : Sg} {D : Dy} {τ : Sg} (hA : Ag t D τ) (hT : WN t) {x : Int32} {p : Nat} (hx : x = nI p) : ∀ (k b : Nat), b + k = nB t → G true 57 (fun r' s' => r' = some (.inl (oI (pik D p (nB t)))) ∧ s' = τ) 4 [some (.inr (.inr (69, false, 0))), some (.inl x), some (.inl (oI (pik D p b))), some (.inl (nI b)), none] [] τ := by
  have eB := hA.B hT
  have hB := hT.B
  intro k
  induction k with
  | zero =>
    intro b hb
    refine G_wp 100 [4] rfl ?_
    cases hpk : pik D p b with
    | none =>
      refine br_ge rfl eB (by omega) (by omega) (fun h7 => ?_) (fun h7 => ?_)
      · exact ⟨by rw [show b = nB t by omega] at hpk; rw [hpk], rfl⟩
      · exact absurd h7 (by omega)
    | some m =>
      refine br_ge rfl eB (by omega) (by omega) (fun h7 => ?_) (fun h7 => ?_)
      · exact ⟨by rw [show b = nB t by omega] at hpk; rw [hpk], rfl⟩
      · exact absurd h7 (by omega)
  | succ k ih =>
    intro b hb
    refine G_wp 100 [4] rfl ?_
    cases hpk : pik D p b with
    | none =>
      refine br_ge rfl eB (by omega) (by omega) (fun h7 => ?_) (fun h7 => ?_)
      · exact absurd h7 (by omega)
      · refine ⟨1232 + b, (add_n rfl rfl), (by show _ < 23184; omega), ?_⟩
        rw [hA.r11 b (by omega)]
        refine ⟨fun h14 => ?_, fun h14 => ?_⟩
        · refine ⟨_, rfl, ?_⟩
          refine br_eq rfl rfl (by omega) (by omega) (fun h35 => ?_) (fun h35 => ?_)
          · refine ⟨oI (pik D p (b + 1)), (by rw [pik_S]; first | (rw [if_pos (by simp_all [isG, isA])]; rfl) | (rw [if_neg (by simp_all [isG, isA])]; simp [hpk, oI])), nI (b + 1), nI_add _ _, ?_⟩
            refine G_fg 4 ?_
            exact ih (b + 1) (by omega)
          · exact absurd h35 (by omega)
        · refine ⟨1292 + b, (add_n rfl rfl), (by show _ < 23184; omega), ?_⟩
          rw [hA.r12 b (by omega)]
          refine ⟨fun h22 => ?_, fun h22 => ?_⟩
          · refine ⟨_, rfl, ?_⟩
            refine br_eq rfl rfl (by omega) (by omega) (fun h35 => ?_) (fun h35 => ?_)
            · refine ⟨oI (pik D p (b + 1)), (by rw [pik_S]; first | (rw [if_pos (by simp_all [isG, isA])]; rfl) | (rw [if_neg (by simp_all [isG, isA])]; simp [hpk, oI])), nI (b + 1), nI_add _ _, ?_⟩
              refine G_fg 4 ?_
              exact ih (b + 1) (by omega)
            · exact absurd h35 (by omega)
          · refine ⟨1412 + b, (add_n rfl rfl), (by show _ < 23184; omega), ?_⟩
            rw [hA.r14 b (by omega)]
            refine ⟨fun h29 => ?_, fun h29 => ?_⟩
            · refine ⟨_, rfl, ?_⟩
              refine br_eq rfl rfl (by omega) (by omega) (fun h35 => ?_) (fun h35 => ?_)
              · refine ⟨oI (pik D p (b + 1)), (by rw [pik_S]; first | (rw [if_pos (by simp_all [isG, isA])]; rfl) | (rw [if_neg (by simp_all [isG, isA])]; simp [hpk, oI])), nI (b + 1), nI_add _ _, ?_⟩
                refine G_fg 4 ?_
                exact ih (b + 1) (by omega)
              · exact absurd h35 (by omega)
            · refine ⟨_, rfl, ?_⟩
              refine br_eq rfl rfl (by omega) (by omega) (fun h35 => ?_) (fun h35 => ?_)
              · exact absurd h35 (by omega)
              · refine ⟨fun h38 => ?_, fun h38 => ?_⟩
                · refine ⟨oI (pik D p (b + 1)), (by rw [pik_S]; first | (rw [if_pos (by simp_all [isG, isA])]; rfl) | (rw [if_neg (by simp_all [isG, isA])]; simp [hpk, oI])), nI (b + 1), nI_add _ _, ?_⟩
                  refine G_fg 4 ?_
                  exact ih (b + 1) (by omega)
                · exact absurd h38 (by simp [oI])
    | some m =>
      have hm := (pik_lt D p b m hpk).1
      refine br_ge rfl eB (by omega) (by omega) (fun h7 => ?_) (fun h7 => ?_)
      · exact absurd h7 (by omega)
      · refine ⟨1232 + b, (add_n rfl rfl), (by show _ < 23184; omega), ?_⟩
        rw [hA.r11 b (by omega)]
        refine ⟨fun h14 => ?_, fun h14 => ?_⟩
        · refine ⟨_, rfl, ?_⟩
          refine br_eq rfl rfl (by omega) (by omega) (fun h35 => ?_) (fun h35 => ?_)
          · refine ⟨oI (pik D p (b + 1)), (by rw [pik_S]; first | (rw [if_pos (by simp_all [isG, isA])]; rfl) | (rw [if_neg (by simp_all [isG, isA])]; simp [hpk, oI])), nI (b + 1), nI_add _ _, ?_⟩
            refine G_fg 4 ?_
            exact ih (b + 1) (by omega)
          · exact absurd h35 (by omega)
        · refine ⟨1292 + b, (add_n rfl rfl), (by show _ < 23184; omega), ?_⟩
          rw [hA.r12 b (by omega)]
          refine ⟨fun h22 => ?_, fun h22 => ?_⟩
          · refine ⟨_, rfl, ?_⟩
            refine br_eq rfl rfl (by omega) (by omega) (fun h35 => ?_) (fun h35 => ?_)
            · refine ⟨oI (pik D p (b + 1)), (by rw [pik_S]; first | (rw [if_pos (by simp_all [isG, isA])]; rfl) | (rw [if_neg (by simp_all [isG, isA])]; simp [hpk, oI])), nI (b + 1), nI_add _ _, ?_⟩
              refine G_fg 4 ?_
              exact ih (b + 1) (by omega)
            · exact absurd h35 (by omega)
          · refine ⟨1412 + b, (add_n rfl rfl), (by show _ < 23184; omega), ?_⟩
            rw [hA.r14 b (by omega)]
            refine ⟨fun h29 => ?_, fun h29 => ?_⟩
            · refine ⟨_, rfl, ?_⟩
              refine br_eq rfl rfl (by omega) (by omega) (fun h35 => ?_) (fun h35 => ?_)
              · refine ⟨oI (pik D p (b + 1)), (by rw [pik_S]; first | (rw [if_pos (by simp_all [isG, isA])]; rfl) | (rw [if_neg (by simp_all [isG, isA])]; simp [hpk, oI])), nI (b + 1), nI_add _ _, ?_⟩
                refine G_fg 4 ?_
                exact ih (b + 1) (by omega)
              · exact absurd h35 (by omega)
            · refine ⟨_, rfl, ?_⟩
              refine br_eq rfl rfl (by omega) (by omega) (fun h35 => ?_) (fun h35 => ?_)
              · exact absurd h35 (by omega)
              · refine ⟨fun h38 => ?_, fun h38 => ?_⟩
                · exact absurd h38 (nI_m1 (by omega))
                · refine ⟨1352 + b, (add_n rfl rfl), (by show _ < 23184; omega), ?_⟩
                  rw [hA.r13 b (by omega)]
                  refine ⟨1352 + m, (add_n rfl rfl), (by show _ < 23184; omega), ?_⟩
                  rw [hA.r13 m (by omega)]
                  refine ⟨fun h51 => ?_, fun h51 => ?_⟩
                  · refine ⟨oI (pik D p (b + 1)), (by rw [pik_S]; first | (rw [if_pos (by simp_all [isG, isA])]; rfl) | (rw [if_neg (by simp_all [isG, isA])]; simp [hpk, oI])), nI (b + 1), nI_add _ _, ?_⟩
                    refine G_fg 4 ?_
                    exact ih (b + 1) (by omega)
                  · refine ⟨oI (pik D p (b + 1)), (by rw [pik_S]; first | (rw [if_pos (by simp_all [isG, isA])]; rfl) | (rw [if_neg (by simp_all [isG, isA])]; simp [hpk, oI])), nI (b + 1), nI_add _ _, ?_⟩
                    refine G_fg 4 ?_
                    exact ih (b + 1) (by omega)
theorem mv_pick {t : Sg} {D : Dy} {τ : Sg} (hA : Ag t D τ) (hT : WN t) {x : Int32} {p : Nat} (hx : x = nI p) : Ev true 57 [.inr (.inr (69, false, 0)), .inl x] τ (some (.inl (oI (pik D p (nB t))))) τ := by
  refine Ev_wp 100 [4] rfl rfl ?_
  refine ⟨_, rfl, _, rfl, ?_⟩
  exact mv_pick_l hA hT hx (nB t) 0 (by omega)
end
section
/-! What is done by hand, on the model's state. -/
def canB (t : Sg) (D : Dy) (w a : Nat) (b : Int32) : Prop := match w with
  | 0 => True
  | 1 => ¬ D 2 a = b
  | 2 => D 11 a = nI 0 ∧ D 14 a = nI 0
  | 3 => D 11 a = nI 0
  | 4 => D 11 a = nI 4 ∧ nI 0 < fre t D (nN b)
  | _ => nN (D 0 6) < 20
/-- a thing by hand, as it may be told -/
def hOk (t : Sg) (w a : Nat) (b : Int32) : Prop := match w with
  | 0 => a < nP t
  | 1 => a < nP t ∧ (b = nI 0 ∨ b = nI 1)
  | 2 => a < nB t
  | 3 => a < nB t
  | 4 => a < nB t ∧ ∃ p, b = nI p ∧ p < nP t
  | 5 => a < nP t
  | _ => False
def dos (D : Dy) (w a : Nat) (b : Int32) : Dy := match w with
  | 0 => up2 D 1 a b
  | 1 => lgs (up2 D 2 a b) (if b = nI 1 then nI 12 else nI 11) (nI a) (-1) (-1)
  | 2 => up2 D 14 a (nI 1)
  | 3 => lgs (up2 D 11 a (nI 4)) (nI 9) (D 12 a) (-1) (nI a)
  | 4 => lgs (up2 (up2 D 11 a (nI 0)) 12 a b) (nI 10) b (-1) (nI a)
  | _ => up2 (up2 (up2 D 25 (nN (D 0 6)) (nI a)) 26 (nN (D 0 6)) b) 0 6 (nI (nN (D 0 6) + 1))
noncomputable def bD (c : Prop) : Int32 := @ite _ c (Classical.propDecidable c) (nI 1) (nI 0)
theorem bD_t {c : Prop} (h : c) : bD c = nI 1 := if_pos h
theorem bD_f {c : Prop} (h : ¬ c) : bD c = nI 0 := if_neg h
theorem bD_01 (c : Prop) : bD c = nI 0 ∨ bD c = nI 1 := by
  rcases Classical.em c with h | h
  · exact Or.inr (bD_t h)
  · exact Or.inl (bD_f h)
theorem bD_0 {c : Prop} : bD c = nI 0 ↔ ¬ c := by
  rcases Classical.em c with h | h
  · rw [bD_t h]
    exact ⟨fun q => absurd q (by decide), fun q => absurd h q⟩
  · rw [bD_f h]
    exact ⟨fun _ => h, fun _ => rfl⟩
theorem brd_eq {c A B : Prop} (f : ¬ c → A) (g : c → B) : (bD c = nI 0 → A) ∧ (¬ bD c = nI 0 → B) :=
  ⟨fun h => f (bD_0.mp h), fun h => g (Classical.not_not.mp fun q => h (bD_0.mpr q))⟩
theorem brd_ne {c A B : Prop} (f : c → A) (g : ¬ c → B) : (¬ bD c = nI 0 → A) ∧ (bD c = nI 0 → B) :=
  ⟨fun h => f (Classical.not_not.mp fun q => h (bD_0.mpr q)), fun h => g (bD_0.mp h)⟩
theorem lgs_7 {D : Dy} (h : Is (D 0 7) 4000) (w p r b : Int32) : Is (lgs D w p r b 0 7) 4000 := by
  unfold lgs
  split
  next hc =>
    rw [up2_s]
    exact Is_of (by omega) (by omega)
  next => exact h
theorem lgs_o {D : Dy} {w p r b : Int32} {f i : Nat} (h1 : ¬ f = 27) (h2 : ¬ (f = 0 ∧ i = 7)) : lgs D w p r b f i = D f i := by
  unfold lgs
  split
  · simp only [up2]
    rw [if_neg h2, if_neg (fun q => h1 q.1), if_neg (fun q => h1 q.1), if_neg (fun q => h1 q.1), if_neg (fun q => h1 q.1), if_neg (fun q => h1 q.1)]
  · rfl
theorem up2_n {D : Dy} {f i : Nat} {v : Int32} {g j : Nat} (h : ¬ (g = f ∧ j = i)) : up2 D f i v g j = D g j := if_neg h
theorem mv_can0 {t : Sg} {D : Dy} {τ : Sg} (hA : Ag t D τ) (hT : WN t) {a : Nat} {x b : Int32} (hx : x = nI a)  : Ev true 151 [.inr (.inr (69, false, 0)), .inl (nI (0)), .inl (x), .inl (b)] τ (some (.inl (bD (canB t D 0 a b)))) τ := by
  have hP := hT.P
  have hB := hT.B
  refine Ev_wp 24 [] rfl rfl ?_
  refine ⟨fun h1 => ?_, fun h1 => ?_, fun h1 => ?_, fun h1 => ?_, fun h1 => ?_, ?_⟩
  · refine ⟨Or.inr rfl, ?_⟩
    exact ⟨by simp_all [bD, canB], rfl⟩
  · exact absurd h1 (by decide)
  · exact absurd h1 (by decide)
  · exact absurd h1 (by decide)
  · exact absurd h1 (by decide)
  · intro h1; exact absurd rfl h1.1
theorem mv_can1 {t : Sg} {D : Dy} {τ : Sg} (hA : Ag t D τ) (hT : WN t) {a : Nat} {x b : Int32} (hx : x = nI a) (ha : a < nP t) : Ev true 151 [.inr (.inr (69, false, 0)), .inl (nI (1)), .inl (x), .inl (b)] τ (some (.inl (bD (canB t D 1 a b)))) τ := by
  have hP := hT.P
  have hB := hT.B
  refine Ev_wp 35 [] rfl rfl ?_
  refine ⟨fun h1 => ?_, fun h1 => ?_, fun h1 => ?_, fun h1 => ?_, fun h1 => ?_, ?_⟩
  · exact absurd h1 (by decide)
  · refine ⟨20 + a, (add_n rfl hx), (by show _ < 23184; omega), ?_⟩
    rw [hA.r2 a (by omega)]
    refine ⟨fun h11 => ?_, fun h11 => ?_⟩
    · refine ⟨Or.inl rfl, ?_⟩
      exact ⟨by simp_all [bD, canB], rfl⟩
    · refine ⟨Or.inr rfl, ?_⟩
      exact ⟨by simp_all [bD, canB], rfl⟩
  · exact absurd h1 (by decide)
  · exact absurd h1 (by decide)
  · exact absurd h1 (by decide)
  · intro h1; exact absurd rfl h1.2.1
theorem mv_can2 {t : Sg} {D : Dy} {τ : Sg} (hA : Ag t D τ) (hT : WN t) {a : Nat} {x b : Int32} (hx : x = nI a) (ha : a < nB t) : Ev true 151 [.inr (.inr (69, false, 0)), .inl (nI (2)), .inl (x), .inl (b)] τ (some (.inl (bD (canB t D 2 a b)))) τ := by
  have hP := hT.P
  have hB := hT.B
  refine Ev_wp 43 [] rfl rfl ?_
  refine ⟨fun h1 => ?_, fun h1 => ?_, fun h1 => ?_, fun h1 => ?_, fun h1 => ?_, ?_⟩
  · exact absurd h1 (by decide)
  · exact absurd h1 (by decide)
  · refine ⟨1232 + a, (add_n rfl hx), (by show _ < 23184; omega), ?_⟩
    rw [hA.r11 a (by omega)]
    refine ⟨fun h22 => ?_, fun h22 => ?_⟩
    · refine ⟨Or.inl rfl, ?_⟩
      exact ⟨by simp_all [bD, canB], rfl⟩
    · refine ⟨1412 + a, (add_n rfl hx), (by show _ < 23184; omega), ?_⟩
      rw [hA.r14 a (by omega)]
      refine ⟨fun h29 => ?_, fun h29 => ?_⟩
      · refine ⟨Or.inl rfl, ?_⟩
        exact ⟨by simp_all [bD, canB], rfl⟩
      · refine ⟨Or.inr rfl, ?_⟩
        exact ⟨by simp_all [bD, canB], rfl⟩
  · exact absurd h1 (by decide)
  · exact absurd h1 (by decide)
  · intro h1; exact absurd rfl h1.2.2.1
theorem mv_can3 {t : Sg} {D : Dy} {τ : Sg} (hA : Ag t D τ) (hT : WN t) {a : Nat} {x b : Int32} (hx : x = nI a) (ha : a < nB t) : Ev true 151 [.inr (.inr (69, false, 0)), .inl (nI (3)), .inl (x), .inl (b)] τ (some (.inl (bD (canB t D 3 a b)))) τ := by
  have hP := hT.P
  have hB := hT.B
  refine Ev_wp 34 [] rfl rfl ?_
  refine ⟨fun h1 => ?_, fun h1 => ?_, fun h1 => ?_, fun h1 => ?_, fun h1 => ?_, ?_⟩
  · exact absurd h1 (by decide)
  · exact absurd h1 (by decide)
  · exact absurd h1 (by decide)
  · refine ⟨1232 + a, (add_n rfl hx), (by show _ < 23184; omega), ?_⟩
    rw [hA.r11 a (by omega)]
    refine ⟨fun h40 => ?_, fun h40 => ?_⟩
    · refine ⟨Or.inl rfl, ?_⟩
      exact ⟨by simp_all [bD, canB], rfl⟩
    · refine ⟨Or.inr rfl, ?_⟩
      exact ⟨by simp_all [bD, canB], rfl⟩
  · exact absurd h1 (by decide)
  · intro h1; exact absurd rfl h1.2.2.2.1
theorem mv_can4 {t : Sg} {D : Dy} {τ : Sg} (hA : Ag t D τ) (hT : WN t) {a : Nat} {x b : Int32} (hx : x = nI a) (ha : a < nB t) {p : Nat} (hp : b = nI p) (hp2 : p < nP t) : Ev true 151 [.inr (.inr (69, false, 0)), .inl (nI (4)), .inl (x), .inl (b)] τ (some (.inl (bD (canB t D 4 a b)))) τ := by
  have hP := hT.P
  have hB := hT.B
  have en : nN b = p := by rw [hp]; exact nN_nI (by omega)
  refine Ev_wp 41 [] rfl rfl ?_
  refine ⟨fun h1 => ?_, fun h1 => ?_, fun h1 => ?_, fun h1 => ?_, fun h1 => ?_, ?_⟩
  · exact absurd h1 (by decide)
  · exact absurd h1 (by decide)
  · exact absurd h1 (by decide)
  · exact absurd h1 (by decide)
  · refine ⟨1232 + a, (add_n rfl hx), (by show _ < 23184; omega), ?_⟩
    rw [hA.r11 a (by omega)]
    refine ⟨fun h52 => ?_, fun h52 => ?_⟩
    · refine ⟨Or.inl rfl, ?_⟩
      exact ⟨by simp_all [bD, canB] <;> (intro q; exact absurd q (Int32.not_lt.mpr h56)), rfl⟩
    · refine ⟨_, _, mv_free hA hT hp hp2, ?_⟩
      refine ⟨fun h56 => ?_, fun h56 => ?_⟩
      · refine ⟨Or.inl rfl, ?_⟩
        exact ⟨by simp_all [bD, canB] <;> (intro q; exact absurd q (Int32.not_lt.mpr h56)), rfl⟩
      · refine ⟨Or.inr rfl, ?_⟩
        exact ⟨by simp_all [bD, canB] <;> (intro q; exact absurd q (Int32.not_lt.mpr h56)), rfl⟩
  · intro h1; exact absurd rfl h1.2.2.2.2.1
theorem mv_can5 {t : Sg} {D : Dy} {τ : Sg} (hA : Ag t D τ) (hT : WN t) {a : Nat} {x b : Int32} (hx : x = nI a) (h6 : Is (D 0 6) 20) : Ev true 151 [.inr (.inr (69, false, 0)), .inl (nI (5)), .inl (x), .inl (b)] τ (some (.inl (bD (canB t D 5 a b)))) τ := by
  have hP := hT.P
  have hB := hT.B
  have h62 := h6.2
  refine Ev_wp 33 [] rfl rfl ?_
  refine ⟨fun h1 => ?_, fun h1 => ?_, fun h1 => ?_, fun h1 => ?_, fun h1 => ?_, ?_⟩
  · exact absurd h1 (by decide)
  · exact absurd h1 (by decide)
  · exact absurd h1 (by decide)
  · exact absurd h1 (by decide)
  · exact absurd h1 (by decide)
  · intro h1
    refine ⟨6, rfl, (by show _ < 23184; omega), ?_⟩
    rw [hA.r0 6 (by decide)]
    refine br_ge h6.1 rfl (by omega) (by omega) (fun h66 => ?_) (fun h66 => ?_)
    · refine ⟨Or.inl rfl, ?_⟩
      exact ⟨by simp_all [bD, canB] <;> (intro q; omega), rfl⟩
    · refine ⟨Or.inr rfl, ?_⟩
      exact ⟨by simp_all [bD, canB] <;> (intro q; omega), rfl⟩
theorem mv_does0 {t : Sg} {D : Dy} {τ : Sg} (hA : Ag t D τ) (hT : WN t) {a : Nat} {x b : Int32} (hx : x = nI a) (ha : a < nP t) : ∃ τ', Ev true 114 [.inr (.inr (69, false, 0)), .inl (nI (0)), .inl (x), .inl (b)] τ none τ' ∧ Ag t (dos D 0 a b) τ' := by
  have hP := hT.P
  have hB := hT.B
  refine EvQ_wp 30 [] rfl rfl ?_
  refine ⟨fun h1 => ?_, fun h1 => ?_, fun h1 => ?_, fun h1 => ?_, fun h1 => ?_, ?_⟩
  · refine ⟨8 + a, (add_n rfl hx), (by show _ < 23184; omega), _, rfl, ?_⟩
    replace hA := hA.w1 a (by omega) b
    refine ⟨rfl, ?_⟩
    have e : dos D 0 a b = (up2 D 1 a b) := by
      first | rfl | (unfold dos; simp_all [up2]) 
    rw [e]
    exact hA
  · exact absurd h1 (by decide)
  · exact absurd h1 (by decide)
  · exact absurd h1 (by decide)
  · exact absurd h1 (by decide)
  · intro h1; exact absurd rfl h1.1
theorem mv_does1 {t : Sg} {D : Dy} {τ : Sg} (hA : Ag t D τ) (hT : WN t) {a : Nat} {x b : Int32} (hx : x = nI a) (ha : a < nP t) (h7 : Is (D 0 7) 4000) : ∃ τ', Ev true 114 [.inr (.inr (69, false, 0)), .inl (nI (1)), .inl (x), .inl (b)] τ none τ' ∧ Ag t (dos D 1 a b) τ' := by
  have hP := hT.P
  have hB := hT.B
  refine EvQ_wp 46 [] rfl rfl ?_
  refine ⟨fun h1 => ?_, fun h1 => ?_, fun h1 => ?_, fun h1 => ?_, fun h1 => ?_, ?_⟩
  · exact absurd h1 (by decide)
  · refine ⟨20 + a, (add_n rfl hx), (by show _ < 23184; omega), _, rfl, ?_⟩
    replace hA := hA.w2 a (by omega) b
    refine ⟨fun h20 => ?_, fun h20 => ?_⟩
    · have h7 : Is ((up2 D 2 a b) 0 7) 4000 := by simp [up2]; exact h7
      obtain ⟨τ1, ev1, hA⟩ := mv_logs hA h7 (v1 := (nI (11))) (v2 := x) (v3 := (-1)) (v4 := (-1))
      refine ⟨_, _, ev1, ?_⟩
      refine ⟨rfl, ?_⟩
      have e : dos D 1 a b = (lgs (up2 D 2 a b) (nI (11)) x (-1) (-1)) := by
        first | rfl | (unfold dos; simp_all [up2]) 
      rw [e]
      exact hA
    · have h7 : Is ((up2 D 2 a b) 0 7) 4000 := by simp [up2]; exact h7
      obtain ⟨τ1, ev1, hA⟩ := mv_logs hA h7 (v1 := (nI (12))) (v2 := x) (v3 := (-1)) (v4 := (-1))
      refine ⟨_, _, ev1, ?_⟩
      refine ⟨rfl, ?_⟩
      have e : dos D 1 a b = (lgs (up2 D 2 a b) (nI (12)) x (-1) (-1)) := by
        first | rfl | (unfold dos; simp_all [up2]) 
      rw [e]
      exact hA
  · exact absurd h1 (by decide)
  · exact absurd h1 (by decide)
  · exact absurd h1 (by decide)
  · intro h1; exact absurd rfl h1.2.1
theorem mv_does2 {t : Sg} {D : Dy} {τ : Sg} (hA : Ag t D τ) (hT : WN t) {a : Nat} {x b : Int32} (hx : x = nI a) (ha : a < nB t) : ∃ τ', Ev true 114 [.inr (.inr (69, false, 0)), .inl (nI (2)), .inl (x), .inl (b)] τ none τ' ∧ Ag t (dos D 2 a b) τ' := by
  have hP := hT.P
  have hB := hT.B
  refine EvQ_wp 30 [] rfl rfl ?_
  refine ⟨fun h1 => ?_, fun h1 => ?_, fun h1 => ?_, fun h1 => ?_, fun h1 => ?_, ?_⟩
  · exact absurd h1 (by decide)
  · exact absurd h1 (by decide)
  · refine ⟨1412 + a, (add_n rfl hx), (by show _ < 23184; omega), _, rfl, ?_⟩
    replace hA := hA.w14 a (by omega) (nI (1))
    refine ⟨rfl, ?_⟩
    have e : dos D 2 a b = (up2 D 14 a (nI (1))) := by
      first | rfl | (unfold dos; simp_all [up2]) 
    rw [e]
    exact hA
  · exact absurd h1 (by decide)
  · exact absurd h1 (by decide)
  · intro h1; exact absurd rfl h1.2.2.1
theorem mv_does3 {t : Sg} {D : Dy} {τ : Sg} (hA : Ag t D τ) (hT : WN t) {a : Nat} {x b : Int32} (hx : x = nI a) (ha : a < nB t) (h7 : Is (D 0 7) 4000) : ∃ τ', Ev true 114 [.inr (.inr (69, false, 0)), .inl (nI (3)), .inl (x), .inl (b)] τ none τ' ∧ Ag t (dos D 3 a b) τ' := by
  have hP := hT.P
  have hB := hT.B
  refine EvQ_wp 41 [] rfl rfl ?_
  refine ⟨fun h1 => ?_, fun h1 => ?_, fun h1 => ?_, fun h1 => ?_, fun h1 => ?_, ?_⟩
  · exact absurd h1 (by decide)
  · exact absurd h1 (by decide)
  · exact absurd h1 (by decide)
  · refine ⟨1232 + a, (add_n rfl hx), (by show _ < 23184; omega), _, rfl, ?_⟩
    replace hA := hA.w11 a (by omega) (nI (4))
    refine ⟨1292 + a, (add_n rfl hx), (by show _ < 23184; omega), ?_⟩
    rw [hA.r12 a (by omega)]
    have h7 : Is ((up2 D 11 a (nI (4))) 0 7) 4000 := by simp [up2]; exact h7
    obtain ⟨τ1, ev1, hA⟩ := mv_logs hA h7 (v1 := (nI (9))) (v2 := ((up2 D 11 a (nI (4))) 12 a)) (v3 := (-1)) (v4 := x)
    refine ⟨_, _, ev1, ?_⟩
    refine ⟨rfl, ?_⟩
    have e : dos D 3 a b = (lgs (up2 D 11 a (nI (4))) (nI (9)) ((up2 D 11 a (nI (4))) 12 a) (-1) x) := by
      first | rfl | (unfold dos; simp_all [up2]) 
    rw [e]
    exact hA
  · exact absurd h1 (by decide)
  · intro h1; exact absurd rfl h1.2.2.2.1
theorem mv_does4 {t : Sg} {D : Dy} {τ : Sg} (hA : Ag t D τ) (hT : WN t) {a : Nat} {x b : Int32} (hx : x = nI a) (ha : a < nB t) (h7 : Is (D 0 7) 4000) : ∃ τ', Ev true 114 [.inr (.inr (69, false, 0)), .inl (nI (4)), .inl (x), .inl (b)] τ none τ' ∧ Ag t (dos D 4 a b) τ' := by
  have hP := hT.P
  have hB := hT.B
  refine EvQ_wp 43 [] rfl rfl ?_
  refine ⟨fun h1 => ?_, fun h1 => ?_, fun h1 => ?_, fun h1 => ?_, fun h1 => ?_, ?_⟩
  · exact absurd h1 (by decide)
  · exact absurd h1 (by decide)
  · exact absurd h1 (by decide)
  · exact absurd h1 (by decide)
  · refine ⟨1232 + a, (add_n rfl hx), (by show _ < 23184; omega), _, rfl, ?_⟩
    replace hA := hA.w11 a (by omega) (nI (0))
    refine ⟨1292 + a, (add_n rfl hx), (by show _ < 23184; omega), _, rfl, ?_⟩
    replace hA := hA.w12 a (by omega) b
    have h7 : Is ((up2 (up2 D 11 a (nI (0))) 12 a b) 0 7) 4000 := by simp [up2]; exact h7
    obtain ⟨τ1, ev1, hA⟩ := mv_logs hA h7 (v1 := (nI (10))) (v2 := b) (v3 := (-1)) (v4 := x)
    refine ⟨_, _, ev1, ?_⟩
    refine ⟨rfl, ?_⟩
    have e : dos D 4 a b = (lgs (up2 (up2 D 11 a (nI (0))) 12 a b) (nI (10)) b (-1) x) := by
      first | rfl | (unfold dos; simp_all [up2]) 
    rw [e]
    exact hA
  · intro h1; exact absurd rfl h1.2.2.2.2.1
theorem mv_does5 {t : Sg} {D : Dy} {τ : Sg} (hA : Ag t D τ) (hT : WN t) {a : Nat} {x b : Int32} (hx : x = nI a) (h6 : Is (D 0 6) 20) (h62 : nN (D 0 6) < 20) : ∃ τ', Ev true 114 [.inr (.inr (69, false, 0)), .inl (nI (5)), .inl (x), .inl (b)] τ none τ' ∧ Ag t (dos D 5 a b) τ' := by
  have hP := hT.P
  have hB := hT.B
  refine EvQ_wp 51 [] rfl rfl ?_
  refine ⟨fun h1 => ?_, fun h1 => ?_, fun h1 => ?_, fun h1 => ?_, fun h1 => ?_, ?_⟩
  · exact absurd h1 (by decide)
  · exact absurd h1 (by decide)
  · exact absurd h1 (by decide)
  · exact absurd h1 (by decide)
  · exact absurd h1 (by decide)
  · intro h1
    refine ⟨6, rfl, (by show _ < 23184; omega), ?_⟩
    rw [hA.r0 6 (by decide)]
    refine ⟨3144 + (nN (D 0 6)), (add_n rfl (by first | exact h6.1 | (simp [up2]; exact h6.1))), (by show _ < 23184; omega), nI (a), hx, ?_⟩
    replace hA := hA.w25 (nN (D 0 6)) (by omega) (nI (a))
    refine ⟨6, rfl, (by show _ < 23184; omega), ?_⟩
    rw [hA.r0 6 (by decide)]
    refine ⟨3164 + (nN (D 0 6)), (add_n rfl (by first | exact h6.1 | (simp [up2]; exact h6.1))), (by show _ < 23184; omega), _, rfl, ?_⟩
    replace hA := hA.w26 (nN (D 0 6)) (by omega) b
    refine ⟨6, rfl, (by show _ < 23184; omega), ?_⟩
    rw [hA.r0 6 (by decide)]
    refine ⟨6, rfl, (by show _ < 23184; omega), nI ((nN (D 0 6)) + 1), (add_n (by first | exact h6.1 | (simp [up2]; exact h6.1)) rfl), ?_⟩
    replace hA := hA.w0 6 (by decide) (nI ((nN (D 0 6)) + 1))
    refine ⟨rfl, ?_⟩
    have e : dos D 5 a b = (up2 (up2 (up2 D 25 (nN (D 0 6)) (nI (a))) 26 (nN (D 0 6)) b) 0 6 (nI ((nN (D 0 6)) + 1))) := by
      first | rfl | (unfold dos; simp_all [up2]) 
    rw [e]
    exact hA
theorem mv_can {t : Sg} {D : Dy} {τ : Sg} (hA : Ag t D τ) (hT : WN t) (h6 : Is (D 0 6) 20) {w a : Nat} {y x b : Int32} (hy : y = nI w) (hx : x = nI a) (hk : hOk t w a b) : Ev true 151 [.inr (.inr (69, false, 0)), .inl y, .inl x, .inl b] τ (some (.inl (bD (canB t D w a b)))) τ := by
  subst hy
  match w, hk with
  | 0, hk => exact mv_can0 hA hT hx
  | 1, hk => exact mv_can1 hA hT hx hk.1
  | 2, hk => exact mv_can2 hA hT hx hk
  | 3, hk => exact mv_can3 hA hT hx hk
  | 4, hk =>
    obtain ⟨h1, p, h2, h3⟩ := hk
    exact mv_can4 hA hT hx h1 h2 h3
  | 5, hk => exact mv_can5 hA hT hx h6
  | w + 6, hk => exact hk.elim
theorem mv_does {t : Sg} {D : Dy} {τ : Sg} (hA : Ag t D τ) (hT : WN t) (h6 : Is (D 0 6) 20) (h7 : Is (D 0 7) 4000) {w a : Nat} {y x b : Int32} (hy : y = nI w) (hx : x = nI a) (hk : hOk t w a b) (hc : canB t D w a b) : ∃ τ', Ev true 114 [.inr (.inr (69, false, 0)), .inl y, .inl x, .inl b] τ none τ' ∧ Ag t (dos D w a b) τ' := by
  subst hy
  match w, hk, hc with
  | 0, hk, hc => exact mv_does0 hA hT hx hk
  | 1, hk, hc => exact mv_does1 hA hT hx hk.1 h7
  | 2, hk, hc => exact mv_does2 hA hT hx hk
  | 3, hk, hc => exact mv_does3 hA hT hx hk h7
  | 4, hk, hc => exact mv_does4 hA hT hx hk.1 h7
  | 5, hk, hc => exact mv_does5 hA hT hx h6 hc
  | w + 6, hk, hc => exact hk.elim
def hnd (t : Sg) (m w a b : Int32) : Sg := up4 (up4 (up4 (up4 (up4 t 82 false 0 (4 * nH t) m) 82 false 0 (4 * nH t + 1) w) 82 false 0 (4 * nH t + 2) a) 82 false 0 (4 * nH t + 3) b) 69 false 0 18 (nI (nH t + 1))
theorem hnd_WN {t : Sg} {m w a b : Int32} (h : WN t) : WN (hnd t m w a b) := by simpa [WN, hnd, up4] using h
theorem hnd_ok {t : Sg} {m w' a' b' : Int32} {w a : Nat} {b : Int32} : hOk (hnd t m w' a' b') w a b = hOk t w a b := by
  have h1 : nP (hnd t m w' a' b') = nP t := by simp [nP, hnd, up4]
  have h2 : nB (hnd t m w' a' b') = nB t := by simp [nB, hnd, up4]
  unfold hOk
  rw [h1, h2]
theorem hnd_thr {t : Sg} {m w a b : Int32} {D : Dy} {p : Nat} : thr (hnd t m w a b) D p = thr t D p := by
  have h2 : nB (hnd t m w a b) = nB t := by simp [nB, hnd, up4]
  unfold thr
  rw [h2]
theorem hnd_can {t : Sg} {m w' a' b' : Int32} {D : Dy} {w a : Nat} {b : Int32} : canB (hnd t m w' a' b') D w a b = canB t D w a b := by
  have h1 : ∀ p, fre (hnd t m w' a' b') D p = fre t D p := fun p => by
    unfold fre
    rw [hnd_thr]
    simp [hnd, up4]
  unfold canB
  simp only [h1]
theorem mv_byHand {t : Sg} {D : Dy} {τ : Sg} (hA : Ag t D τ) (hT : WN t) (h6 : Is (D 0 6) 20) (h7 : Is (D 0 7) 4000) (hH : Is (t 69 false 0 18) 199) {w a : Nat} {y x b : Int32} (hy : y = nI w) (hx : x = nI a) (hk : hOk t w a b) (hc : canB t D w a b) : ∃ τ', Ev true 152 [.inr (.inr (69, false, 0)), .inl (y), .inl (x), .inl (b)] τ none τ' ∧ Ag (hnd t (D 0 0) (nI w) (nI a) b) (dos D w a b) τ' := by
  have eH : τ 69 false 0 18 = nI (nH t) := (hA.2 69 _ _ _ (by decide) rfl).trans hH.1
  have hH2 : nH t ≤ 199 := hH.2
  refine EvQ_wp 73 [] rfl rfl ?_
  refine ⟨0, rfl, (by show _ < 23184; omega), ?_⟩
  rw [hA.r0 0 (by decide)]
  refine ⟨4 * (nH t), (mul_n rfl eH), (by show _ < 800; omega), _, rfl, ?_⟩
  replace hA := Ag_t hA 82 false 0 (4 * (nH t)) (D 0 0) (by decide)
  refine ⟨(4 * (nH t)) + 1, (add_n (mul_n rfl eH) rfl), (by show _ < 800; omega), nI (w), hy, ?_⟩
  replace hA := Ag_t hA 82 false 0 ((4 * (nH t)) + 1) (nI (w)) (by decide)
  refine ⟨(4 * (nH t)) + 2, (add_n (mul_n rfl eH) rfl), (by show _ < 800; omega), nI (a), hx, ?_⟩
  replace hA := Ag_t hA 82 false 0 ((4 * (nH t)) + 2) (nI (a)) (by decide)
  refine ⟨(4 * (nH t)) + 3, (add_n (mul_n rfl eH) rfl), (by show _ < 800; omega), _, rfl, ?_⟩
  replace hA := Ag_t hA 82 false 0 ((4 * (nH t)) + 3) b (by decide)
  refine ⟨nI ((nH t) + 1), (add_n eH rfl), ?_⟩
  replace hA := Ag_t hA 69 false 0 18 (nI ((nH t) + 1)) (by decide)
  have hA : Ag (hnd t (D 0 0) (nI w) (nI a) b) D _ := hA
  obtain ⟨τ1, ev1, hA⟩ := mv_does hA (hnd_WN hT) h6 h7 hy hx (by rw [hnd_ok]; exact hk) (by rw [hnd_can]; exact hc)
  refine ⟨_, _, ev1, ?_⟩
  exact ⟨rfl, hA⟩
theorem mv_handled_no {t : Sg} {D : Dy} {τ : Sg} (hA : Ag t D τ) (hT : WN t) (h6 : Is (D 0 6) 20) {w a : Nat} {y x b : Int32} (hy : y = nI w) (hx : x = nI a) (hk : hOk t w a b) (hc : ¬ canB t D w a b) : Ev true 188 [.inr (.inr (69, false, 0)), .inl y, .inl x, .inl b] τ (some (.inl (-3))) τ := by
  refine Ev_wp 40 [] rfl rfl ?_
  refine ⟨_, _, mv_can hA hT h6 hy hx hk, ?_⟩
  refine brd_ne (fun h => absurd h hc) (fun h => ?_)
  exact ⟨rfl, rfl⟩
theorem mv_handled_full {t : Sg} {D : Dy} {τ : Sg} (hA : Ag t D τ) (hT : WN t) (h6 : Is (D 0 6) 20) {w a : Nat} {y x b : Int32} (hy : y = nI w) (hx : x = nI a) (hk : hOk t w a b) (hc : canB t D w a b) (hH : t 69 false 0 18 = nI 200) : Ev true 188 [.inr (.inr (69, false, 0)), .inl y, .inl x, .inl b] τ (some (.inl (-4))) τ := by
  have eH : τ 69 false 0 18 = nI 200 := (hA.2 69 _ _ _ (by decide) rfl).trans hH
  refine Ev_wp 40 [] rfl rfl ?_
  refine ⟨_, _, mv_can hA hT h6 hy hx hk, ?_⟩
  refine brd_ne (fun h => ?_) (fun h => absurd hc h)
  refine br_ne eH rfl (by omega) (by omega) (fun h2 => absurd rfl h2) (fun h2 => ?_)
  exact ⟨rfl, rfl⟩
theorem mv_handled {t : Sg} {D : Dy} {τ : Sg} (hA : Ag t D τ) (hT : WN t) (h6 : Is (D 0 6) 20) (h7 : Is (D 0 7) 4000) (hH : Is (t 69 false 0 18) 199) {w a : Nat} {y x b : Int32} (hy : y = nI w) (hx : x = nI a) (hk : hOk t w a b) (hc : canB t D w a b) : ∃ τ', Ev true 188 [.inr (.inr (69, false, 0)), .inl y, .inl x, .inl b] τ (some (.inl (nI 1))) τ' ∧ Ag (hnd t (D 0 0) (nI w) (nI a) b) (dos D w a b) τ' := by
  have eH : τ 69 false 0 18 = nI (nH t) := (hA.2 69 _ _ _ (by decide) rfl).trans hH.1
  have hH2 : nH t ≤ 199 := hH.2
  refine EvQ_wp 40 [] rfl rfl ?_
  refine ⟨_, _, mv_can hA hT h6 hy hx hk, ?_⟩
  refine brd_ne (fun h => ?_) (fun h => absurd hc h)
  refine br_ne eH rfl (by omega) (by omega) (fun h2 => ?_) (fun h2 => absurd h2 (by omega))
  obtain ⟨τ1, ev1, hA⟩ := mv_byHand hA hT h6 h7 hH hy hx hk hc
  exact ⟨_, _, ev1, rfl, hA⟩
end
