/-! Names of the claim: words of the tables, classes, fields, methods (out of the printed names). -/
-- ===== PART A: goes FIRST, ahead of the names: the tables' words, and 'selects' of the private methods out of them =====
/-- a private method of a class that the tables say can be made, by its rows of tables_1 -/
def lw_okq (q : MethodName × Nat) : Prop := (q.1.cls ≠ "java/lang/invoke/MethodHandle" ∧ q.1.cls ≠ "java/lang/invoke/VarHandle") ∧ Cond.instantiable q.1.cls q.2 ∈ tables_1 ∧ Cond.privateMethod q.1 ∈ tables_1 ∧ Cond.instanceMethod q.1 ∈ tables_1
theorem lw_p0 : lw_okq (⟨"BikeTown", "hasBegun", "()Z"⟩, 10) := ⟨⟨by decide +kernel, by decide +kernel⟩, List.mem_of_getElem? (i := 18) (by decide +kernel), List.mem_of_getElem? (i := 478) (by decide +kernel), List.mem_of_getElem? (i := 479) (by decide +kernel)⟩
theorem lw_p1 : lw_okq (⟨"BikeTown$Day", "settle", "(II)V"⟩, 16) := ⟨⟨by decide +kernel, by decide +kernel⟩, List.mem_of_getElem? (i := 182) (by decide +kernel), List.mem_of_getElem? (i := 510) (by decide +kernel), List.mem_of_getElem? (i := 511) (by decide +kernel)⟩
theorem lw_p2 : lw_okq (⟨"BikeTown", "byHand", "(III)I"⟩, 10) := ⟨⟨by decide +kernel, by decide +kernel⟩, List.mem_of_getElem? (i := 18) (by decide +kernel), List.mem_of_getElem? (i := 538) (by decide +kernel), List.mem_of_getElem? (i := 539) (by decide +kernel)⟩
theorem lw_p3 : lw_okq (⟨"BikeTown$Day", "setOpen", "(IZ)V"⟩, 16) := ⟨⟨by decide +kernel, by decide +kernel⟩, List.mem_of_getElem? (i := 182) (by decide +kernel), List.mem_of_getElem? (i := 555) (by decide +kernel), List.mem_of_getElem? (i := 556) (by decide +kernel)⟩
theorem lw_p4 : lw_okq (⟨"BikeTown$Day", "tellFaulty", "(I)V"⟩, 16) := ⟨⟨by decide +kernel, by decide +kernel⟩, List.mem_of_getElem? (i := 182) (by decide +kernel), List.mem_of_getElem? (i := 563) (by decide +kernel), List.mem_of_getElem? (i := 564) (by decide +kernel)⟩
theorem lw_p5 : lw_okq (⟨"BikeTown$Day", "isAt", "(II)Z"⟩, 16) := ⟨⟨by decide +kernel, by decide +kernel⟩, List.mem_of_getElem? (i := 182) (by decide +kernel), List.mem_of_getElem? (i := 568) (by decide +kernel), List.mem_of_getElem? (i := 569) (by decide +kernel)⟩
theorem lw_p6 : lw_okq (⟨"BikeTown$Day", "lift", "(II)V"⟩, 16) := ⟨⟨by decide +kernel, by decide +kernel⟩, List.mem_of_getElem? (i := 182) (by decide +kernel), List.mem_of_getElem? (i := 572) (by decide +kernel), List.mem_of_getElem? (i := 573) (by decide +kernel)⟩
theorem lw_p7 : lw_okq (⟨"BikeTown$Day", "endRides", "()V"⟩, 16) := ⟨⟨by decide +kernel, by decide +kernel⟩, List.mem_of_getElem? (i := 182) (by decide +kernel), List.mem_of_getElem? (i := 657) (by decide +kernel), List.mem_of_getElem? (i := 658) (by decide +kernel)⟩
theorem lw_p8 : lw_okq (⟨"BikeTown$Day", "endRide", "(I)V"⟩, 16) := ⟨⟨by decide +kernel, by decide +kernel⟩, List.mem_of_getElem? (i := 182) (by decide +kernel), List.mem_of_getElem? (i := 661) (by decide +kernel), List.mem_of_getElem? (i := 662) (by decide +kernel)⟩
theorem lw_p9 : lw_okq (⟨"BikeTown$Day", "takesBikes", "(I)Z"⟩, 16) := ⟨⟨by decide +kernel, by decide +kernel⟩, List.mem_of_getElem? (i := 182) (by decide +kernel), List.mem_of_getElem? (i := 666) (by decide +kernel), List.mem_of_getElem? (i := 667) (by decide +kernel)⟩
theorem lw_p10 : lw_okq (⟨"BikeTown$Day", "leaveBike", "(III)V"⟩, 16) := ⟨⟨by decide +kernel, by decide +kernel⟩, List.mem_of_getElem? (i := 182) (by decide +kernel), List.mem_of_getElem? (i := 670) (by decide +kernel), List.mem_of_getElem? (i := 671) (by decide +kernel)⟩
theorem lw_p11 : lw_okq (⟨"BikeTown$Day", "nearestThatTakes", "(I)I"⟩, 16) := ⟨⟨by decide +kernel, by decide +kernel⟩, List.mem_of_getElem? (i := 182) (by decide +kernel), List.mem_of_getElem? (i := 674) (by decide +kernel), List.mem_of_getElem? (i := 675) (by decide +kernel)⟩
theorem lw_p12 : lw_okq (⟨"BikeTown$Day", "mendBikes", "()V"⟩, 16) := ⟨⟨by decide +kernel, by decide +kernel⟩, List.mem_of_getElem? (i := 182) (by decide +kernel), List.mem_of_getElem? (i := 685) (by decide +kernel), List.mem_of_getElem? (i := 686) (by decide +kernel)⟩
theorem lw_p13 : lw_okq (⟨"BikeTown$Day", "followRules", "()V"⟩, 16) := ⟨⟨by decide +kernel, by decide +kernel⟩, List.mem_of_getElem? (i := 182) (by decide +kernel), List.mem_of_getElem? (i := 689) (by decide +kernel), List.mem_of_getElem? (i := 690) (by decide +kernel)⟩
theorem lw_p14 : lw_okq (⟨"BikeTown$Day", "followRule", "(II)V"⟩, 16) := ⟨⟨by decide +kernel, by decide +kernel⟩, List.mem_of_getElem? (i := 182) (by decide +kernel), List.mem_of_getElem? (i := 693) (by decide +kernel), List.mem_of_getElem? (i := 694) (by decide +kernel)⟩
theorem lw_p15 : lw_okq (⟨"BikeTown$Day", "nameAll", "(I)V"⟩, 16) := ⟨⟨by decide +kernel, by decide +kernel⟩, List.mem_of_getElem? (i := 182) (by decide +kernel), List.mem_of_getElem? (i := 697) (by decide +kernel), List.mem_of_getElem? (i := 698) (by decide +kernel)⟩
def lw_privs_1 : List (MethodName × Nat) := [(⟨"BikeTown", "hasBegun", "()Z"⟩, 10), (⟨"BikeTown$Day", "settle", "(II)V"⟩, 16), (⟨"BikeTown", "byHand", "(III)I"⟩, 10), (⟨"BikeTown$Day", "setOpen", "(IZ)V"⟩, 16), (⟨"BikeTown$Day", "tellFaulty", "(I)V"⟩, 16), (⟨"BikeTown$Day", "isAt", "(II)Z"⟩, 16), (⟨"BikeTown$Day", "lift", "(II)V"⟩, 16), (⟨"BikeTown$Day", "endRides", "()V"⟩, 16), (⟨"BikeTown$Day", "endRide", "(I)V"⟩, 16), (⟨"BikeTown$Day", "takesBikes", "(I)Z"⟩, 16), (⟨"BikeTown$Day", "leaveBike", "(III)V"⟩, 16), (⟨"BikeTown$Day", "nearestThatTakes", "(I)I"⟩, 16), (⟨"BikeTown$Day", "mendBikes", "()V"⟩, 16), (⟨"BikeTown$Day", "followRules", "()V"⟩, 16), (⟨"BikeTown$Day", "followRule", "(II)V"⟩, 16), (⟨"BikeTown$Day", "nameAll", "(I)V"⟩, 16)]
theorem lw_r1 : ∀ q ∈ lw_privs_1, lw_okq q := List.forall_mem_cons.mpr ⟨lw_p0, List.forall_mem_cons.mpr ⟨lw_p1, List.forall_mem_cons.mpr ⟨lw_p2, List.forall_mem_cons.mpr ⟨lw_p3, List.forall_mem_cons.mpr ⟨lw_p4, List.forall_mem_cons.mpr ⟨lw_p5, List.forall_mem_cons.mpr ⟨lw_p6, List.forall_mem_cons.mpr ⟨lw_p7, List.forall_mem_cons.mpr ⟨lw_p8, List.forall_mem_cons.mpr ⟨lw_p9, List.forall_mem_cons.mpr ⟨lw_p10, List.forall_mem_cons.mpr ⟨lw_p11, List.forall_mem_cons.mpr ⟨lw_p12, List.forall_mem_cons.mpr ⟨lw_p13, List.forall_mem_cons.mpr ⟨lw_p14, List.forall_mem_cons.mpr ⟨lw_p15, fun _ h => absurd h List.not_mem_nil⟩⟩⟩⟩⟩⟩⟩⟩⟩⟩⟩⟩⟩⟩⟩⟩
theorem lw_p16 : lw_okq (⟨"BikeTown$Day", "hour", "()I"⟩, 16) := ⟨⟨by decide +kernel, by decide +kernel⟩, List.mem_of_getElem? (i := 182) (by decide +kernel), List.mem_of_getElem? (i := 701) (by decide +kernel), List.mem_of_getElem? (i := 702) (by decide +kernel)⟩
theorem lw_p17 : lw_okq (⟨"BikeTown$Rules", "begin", "(IZ)V"⟩, 11) := ⟨⟨by decide +kernel, by decide +kernel⟩, List.mem_of_getElem? (i := 105) (by decide +kernel), List.mem_of_getElem? (i := 709) (by decide +kernel), List.mem_of_getElem? (i := 710) (by decide +kernel)⟩
theorem lw_p18 : lw_okq (⟨"BikeTown$Rules", "compare", "([II[I)Z"⟩, 11) := ⟨⟨by decide +kernel, by decide +kernel⟩, List.mem_of_getElem? (i := 105) (by decide +kernel), List.mem_of_getElem? (i := 713) (by decide +kernel), List.mem_of_getElem? (i := 714) (by decide +kernel)⟩
theorem lw_p19 : lw_okq (⟨"BikeTown$Rules", "readSum", "([II[I)I"⟩, 11) := ⟨⟨by decide +kernel, by decide +kernel⟩, List.mem_of_getElem? (i := 105) (by decide +kernel), List.mem_of_getElem? (i := 717) (by decide +kernel), List.mem_of_getElem? (i := 718) (by decide +kernel)⟩
theorem lw_p20 : lw_okq (⟨"BikeTown$Day", "firstFaulty", "(I)I"⟩, 16) := ⟨⟨by decide +kernel, by decide +kernel⟩, List.mem_of_getElem? (i := 182) (by decide +kernel), List.mem_of_getElem? (i := 731) (by decide +kernel), List.mem_of_getElem? (i := 732) (by decide +kernel)⟩
theorem lw_p21 : lw_okq (⟨"BikeTown$Day", "sendToShop", "(I)V"⟩, 16) := ⟨⟨by decide +kernel, by decide +kernel⟩, List.mem_of_getElem? (i := 182) (by decide +kernel), List.mem_of_getElem? (i := 735) (by decide +kernel), List.mem_of_getElem? (i := 736) (by decide +kernel)⟩
theorem lw_p22 : lw_okq (⟨"BikeTown$Day", "driveVan", "()V"⟩, 16) := ⟨⟨by decide +kernel, by decide +kernel⟩, List.mem_of_getElem? (i := 182) (by decide +kernel), List.mem_of_getElem? (i := 739) (by decide +kernel), List.mem_of_getElem? (i := 740) (by decide +kernel)⟩
theorem lw_p23 : lw_okq (⟨"BikeTown$Day", "doStop", "(II)V"⟩, 16) := ⟨⟨by decide +kernel, by decide +kernel⟩, List.mem_of_getElem? (i := 182) (by decide +kernel), List.mem_of_getElem? (i := 743) (by decide +kernel), List.mem_of_getElem? (i := 744) (by decide +kernel)⟩
theorem lw_p24 : lw_okq (⟨"BikeTown$Day", "vanTakes", "(I)V"⟩, 16) := ⟨⟨by decide +kernel, by decide +kernel⟩, List.mem_of_getElem? (i := 182) (by decide +kernel), List.mem_of_getElem? (i := 747) (by decide +kernel), List.mem_of_getElem? (i := 748) (by decide +kernel)⟩
theorem lw_p25 : lw_okq (⟨"BikeTown$Day", "bestBike", "(I)I"⟩, 16) := ⟨⟨by decide +kernel, by decide +kernel⟩, List.mem_of_getElem? (i := 182) (by decide +kernel), List.mem_of_getElem? (i := 751) (by decide +kernel), List.mem_of_getElem? (i := 752) (by decide +kernel)⟩
theorem lw_p26 : lw_okq (⟨"BikeTown$Day", "vanLeaves", "(I)V"⟩, 16) := ⟨⟨by decide +kernel, by decide +kernel⟩, List.mem_of_getElem? (i := 182) (by decide +kernel), List.mem_of_getElem? (i := 759) (by decide +kernel), List.mem_of_getElem? (i := 760) (by decide +kernel)⟩
theorem lw_p27 : lw_okq (⟨"BikeTown$Day", "lookAtRiders", "()V"⟩, 16) := ⟨⟨by decide +kernel, by decide +kernel⟩, List.mem_of_getElem? (i := 182) (by decide +kernel), List.mem_of_getElem? (i := 771) (by decide +kernel), List.mem_of_getElem? (i := 772) (by decide +kernel)⟩
theorem lw_p28 : lw_okq (⟨"BikeTown$Day", "lookAtRider", "(I)V"⟩, 16) := ⟨⟨by decide +kernel, by decide +kernel⟩, List.mem_of_getElem? (i := 182) (by decide +kernel), List.mem_of_getElem? (i := 775) (by decide +kernel), List.mem_of_getElem? (i := 776) (by decide +kernel)⟩
theorem lw_p29 : lw_okq (⟨"BikeTown$Day", "lose", "(III)V"⟩, 16) := ⟨⟨by decide +kernel, by decide +kernel⟩, List.mem_of_getElem? (i := 182) (by decide +kernel), List.mem_of_getElem? (i := 779) (by decide +kernel), List.mem_of_getElem? (i := 780) (by decide +kernel)⟩
theorem lw_p30 : lw_okq (⟨"BikeTown$Day", "takeBike", "(III)V"⟩, 16) := ⟨⟨by decide +kernel, by decide +kernel⟩, List.mem_of_getElem? (i := 182) (by decide +kernel), List.mem_of_getElem? (i := 783) (by decide +kernel), List.mem_of_getElem? (i := 784) (by decide +kernel)⟩
theorem lw_p31 : lw_okq (⟨"BikeTown$Day", "countEmpty", "()V"⟩, 16) := ⟨⟨by decide +kernel, by decide +kernel⟩, List.mem_of_getElem? (i := 182) (by decide +kernel), List.mem_of_getElem? (i := 791) (by decide +kernel), List.mem_of_getElem? (i := 792) (by decide +kernel)⟩
def lw_privs_2 : List (MethodName × Nat) := [(⟨"BikeTown$Day", "hour", "()I"⟩, 16), (⟨"BikeTown$Rules", "begin", "(IZ)V"⟩, 11), (⟨"BikeTown$Rules", "compare", "([II[I)Z"⟩, 11), (⟨"BikeTown$Rules", "readSum", "([II[I)I"⟩, 11), (⟨"BikeTown$Day", "firstFaulty", "(I)I"⟩, 16), (⟨"BikeTown$Day", "sendToShop", "(I)V"⟩, 16), (⟨"BikeTown$Day", "driveVan", "()V"⟩, 16), (⟨"BikeTown$Day", "doStop", "(II)V"⟩, 16), (⟨"BikeTown$Day", "vanTakes", "(I)V"⟩, 16), (⟨"BikeTown$Day", "bestBike", "(I)I"⟩, 16), (⟨"BikeTown$Day", "vanLeaves", "(I)V"⟩, 16), (⟨"BikeTown$Day", "lookAtRiders", "()V"⟩, 16), (⟨"BikeTown$Day", "lookAtRider", "(I)V"⟩, 16), (⟨"BikeTown$Day", "lose", "(III)V"⟩, 16), (⟨"BikeTown$Day", "takeBike", "(III)V"⟩, 16), (⟨"BikeTown$Day", "countEmpty", "()V"⟩, 16)]
theorem lw_r2 : ∀ q ∈ lw_privs_2, lw_okq q := List.forall_mem_cons.mpr ⟨lw_p16, List.forall_mem_cons.mpr ⟨lw_p17, List.forall_mem_cons.mpr ⟨lw_p18, List.forall_mem_cons.mpr ⟨lw_p19, List.forall_mem_cons.mpr ⟨lw_p20, List.forall_mem_cons.mpr ⟨lw_p21, List.forall_mem_cons.mpr ⟨lw_p22, List.forall_mem_cons.mpr ⟨lw_p23, List.forall_mem_cons.mpr ⟨lw_p24, List.forall_mem_cons.mpr ⟨lw_p25, List.forall_mem_cons.mpr ⟨lw_p26, List.forall_mem_cons.mpr ⟨lw_p27, List.forall_mem_cons.mpr ⟨lw_p28, List.forall_mem_cons.mpr ⟨lw_p29, List.forall_mem_cons.mpr ⟨lw_p30, List.forall_mem_cons.mpr ⟨lw_p31, fun _ h => absurd h List.not_mem_nil⟩⟩⟩⟩⟩⟩⟩⟩⟩⟩⟩⟩⟩⟩⟩⟩
theorem lw_p32 : lw_okq (⟨"BikeTown$Days", "countWith", "(I)I"⟩, 3) := ⟨⟨by decide +kernel, by decide +kernel⟩, List.mem_of_getElem? (i := 334) (by decide +kernel), List.mem_of_getElem? (i := 879) (by decide +kernel), List.mem_of_getElem? (i := 880) (by decide +kernel)⟩
theorem lw_p33 : lw_okq (⟨"BikeTown", "sumOver", "([[I)I"⟩, 10) := ⟨⟨by decide +kernel, by decide +kernel⟩, List.mem_of_getElem? (i := 18) (by decide +kernel), List.mem_of_getElem? (i := 897) (by decide +kernel), List.mem_of_getElem? (i := 898) (by decide +kernel)⟩
theorem lw_p34 : lw_okq (⟨"BikeTown$Round", "gather", "()V"⟩, 5) := ⟨⟨by decide +kernel, by decide +kernel⟩, List.mem_of_getElem? (i := 352) (by decide +kernel), List.mem_of_getElem? (i := 918) (by decide +kernel), List.mem_of_getElem? (i := 919) (by decide +kernel)⟩
theorem lw_p35 : lw_okq (⟨"BikeTown$Round", "sumOfWants", "(I)I"⟩, 5) := ⟨⟨by decide +kernel, by decide +kernel⟩, List.mem_of_getElem? (i := 352) (by decide +kernel), List.mem_of_getElem? (i := 922) (by decide +kernel), List.mem_of_getElem? (i := 923) (by decide +kernel)⟩
theorem lw_p36 : lw_okq (⟨"BikeTown$Round", "waysFrom", "(LBikeTown$Told;III)I"⟩, 5) := ⟨⟨by decide +kernel, by decide +kernel⟩, List.mem_of_getElem? (i := 352) (by decide +kernel), List.mem_of_getElem? (i := 929) (by decide +kernel), List.mem_of_getElem? (i := 930) (by decide +kernel)⟩
theorem lw_p37 : lw_okq (⟨"BikeTown$Round", "waysVia", "(LBikeTown$Told;III)I"⟩, 5) := ⟨⟨by decide +kernel, by decide +kernel⟩, List.mem_of_getElem? (i := 352) (by decide +kernel), List.mem_of_getElem? (i := 934) (by decide +kernel), List.mem_of_getElem? (i := 935) (by decide +kernel)⟩
theorem lw_p38 : lw_okq (⟨"BikeTown$Round", "firstOfBest", "(LBikeTown$Told;LBikeTown$Van;)I"⟩, 5) := ⟨⟨by decide +kernel, by decide +kernel⟩, List.mem_of_getElem? (i := 352) (by decide +kernel), List.mem_of_getElem? (i := 940) (by decide +kernel), List.mem_of_getElem? (i := 941) (by decide +kernel)⟩
theorem lw_p39 : lw_okq (⟨"BikeTown$Round", "waysOver", "(LBikeTown$Told;LBikeTown$Van;I)I"⟩, 5) := ⟨⟨by decide +kernel, by decide +kernel⟩, List.mem_of_getElem? (i := 352) (by decide +kernel), List.mem_of_getElem? (i := 944) (by decide +kernel), List.mem_of_getElem? (i := 945) (by decide +kernel)⟩
theorem lw_p40 : lw_okq (⟨"BikeTown$Round", "nextOfBest", "(LBikeTown$Told;II)I"⟩, 5) := ⟨⟨by decide +kernel, by decide +kernel⟩, List.mem_of_getElem? (i := 352) (by decide +kernel), List.mem_of_getElem? (i := 956) (by decide +kernel), List.mem_of_getElem? (i := 957) (by decide +kernel)⟩
theorem lw_p41 : lw_okq (⟨"BikeTown$Houses", "isStill", "(II)Z"⟩, 2) := ⟨⟨by decide +kernel, by decide +kernel⟩, List.mem_of_getElem? (i := 375) (by decide +kernel), List.mem_of_getElem? (i := 979) (by decide +kernel), List.mem_of_getElem? (i := 980) (by decide +kernel)⟩
theorem lw_p42 : lw_okq (⟨"BikeTown$Houses", "bestLevel", "(III)I"⟩, 2) := ⟨⟨by decide +kernel, by decide +kernel⟩, List.mem_of_getElem? (i := 375) (by decide +kernel), List.mem_of_getElem? (i := 983) (by decide +kernel), List.mem_of_getElem? (i := 984) (by decide +kernel)⟩
theorem lw_p43 : lw_okq (⟨"BikeTown$Houses", "gainAt", "(IIII)I"⟩, 2) := ⟨⟨by decide +kernel, by decide +kernel⟩, List.mem_of_getElem? (i := 375) (by decide +kernel), List.mem_of_getElem? (i := 987) (by decide +kernel), List.mem_of_getElem? (i := 988) (by decide +kernel)⟩
theorem lw_p44 : lw_okq (⟨"BikeTown$Sites", "measure", "(III)I"⟩, 8) := ⟨⟨by decide +kernel, by decide +kernel⟩, List.mem_of_getElem? (i := 390) (by decide +kernel), List.mem_of_getElem? (i := 1032) (by decide +kernel), List.mem_of_getElem? (i := 1033) (by decide +kernel)⟩
theorem lw_p45 : lw_okq (⟨"BikeTownModel", "begins", "()V"⟩, 50) := ⟨⟨by decide +kernel, by decide +kernel⟩, List.mem_of_getElem? (i := 1089) (by decide +kernel), List.mem_of_getElem? (i := 1095) (by decide +kernel), List.mem_of_getElem? (i := 1096) (by decide +kernel)⟩
theorem lw_p46 : lw_okq (⟨"BikeTownModel", "tells", "(I)V"⟩, 50) := ⟨⟨by decide +kernel, by decide +kernel⟩, List.mem_of_getElem? (i := 1089) (by decide +kernel), List.mem_of_getElem? (i := 1099) (by decide +kernel), List.mem_of_getElem? (i := 1100) (by decide +kernel)⟩
theorem lw_p47 : lw_okq (⟨"BikeTownModel", "isBegun", "()Z"⟩, 50) := ⟨⟨by decide +kernel, by decide +kernel⟩, List.mem_of_getElem? (i := 1089) (by decide +kernel), List.mem_of_getElem? (i := 1261) (by decide +kernel), List.mem_of_getElem? (i := 1262) (by decide +kernel)⟩
def lw_privs_3 : List (MethodName × Nat) := [(⟨"BikeTown$Days", "countWith", "(I)I"⟩, 3), (⟨"BikeTown", "sumOver", "([[I)I"⟩, 10), (⟨"BikeTown$Round", "gather", "()V"⟩, 5), (⟨"BikeTown$Round", "sumOfWants", "(I)I"⟩, 5), (⟨"BikeTown$Round", "waysFrom", "(LBikeTown$Told;III)I"⟩, 5), (⟨"BikeTown$Round", "waysVia", "(LBikeTown$Told;III)I"⟩, 5), (⟨"BikeTown$Round", "firstOfBest", "(LBikeTown$Told;LBikeTown$Van;)I"⟩, 5), (⟨"BikeTown$Round", "waysOver", "(LBikeTown$Told;LBikeTown$Van;I)I"⟩, 5), (⟨"BikeTown$Round", "nextOfBest", "(LBikeTown$Told;II)I"⟩, 5), (⟨"BikeTown$Houses", "isStill", "(II)Z"⟩, 2), (⟨"BikeTown$Houses", "bestLevel", "(III)I"⟩, 2), (⟨"BikeTown$Houses", "gainAt", "(IIII)I"⟩, 2), (⟨"BikeTown$Sites", "measure", "(III)I"⟩, 8), (⟨"BikeTownModel", "begins", "()V"⟩, 50), (⟨"BikeTownModel", "tells", "(I)V"⟩, 50), (⟨"BikeTownModel", "isBegun", "()Z"⟩, 50)]
theorem lw_r3 : ∀ q ∈ lw_privs_3, lw_okq q := List.forall_mem_cons.mpr ⟨lw_p32, List.forall_mem_cons.mpr ⟨lw_p33, List.forall_mem_cons.mpr ⟨lw_p34, List.forall_mem_cons.mpr ⟨lw_p35, List.forall_mem_cons.mpr ⟨lw_p36, List.forall_mem_cons.mpr ⟨lw_p37, List.forall_mem_cons.mpr ⟨lw_p38, List.forall_mem_cons.mpr ⟨lw_p39, List.forall_mem_cons.mpr ⟨lw_p40, List.forall_mem_cons.mpr ⟨lw_p41, List.forall_mem_cons.mpr ⟨lw_p42, List.forall_mem_cons.mpr ⟨lw_p43, List.forall_mem_cons.mpr ⟨lw_p44, List.forall_mem_cons.mpr ⟨lw_p45, List.forall_mem_cons.mpr ⟨lw_p46, List.forall_mem_cons.mpr ⟨lw_p47, fun _ h => absurd h List.not_mem_nil⟩⟩⟩⟩⟩⟩⟩⟩⟩⟩⟩⟩⟩⟩⟩⟩
theorem lw_p48 : lw_okq (⟨"BikeTownModel", "isPost", "(I)Z"⟩, 50) := ⟨⟨by decide +kernel, by decide +kernel⟩, List.mem_of_getElem? (i := 1089) (by decide +kernel), List.mem_of_getElem? (i := 1269) (by decide +kernel), List.mem_of_getElem? (i := 1270) (by decide +kernel)⟩
theorem lw_p49 : lw_okq (⟨"BikeTownModel", "free", "(I)I"⟩, 50) := ⟨⟨by decide +kernel, by decide +kernel⟩, List.mem_of_getElem? (i := 1089) (by decide +kernel), List.mem_of_getElem? (i := 1273) (by decide +kernel), List.mem_of_getElem? (i := 1274) (by decide +kernel)⟩
theorem lw_p50 : lw_okq (⟨"BikeTownModel", "there", "(I)I"⟩, 50) := ⟨⟨by decide +kernel, by decide +kernel⟩, List.mem_of_getElem? (i := 1089) (by decide +kernel), List.mem_of_getElem? (i := 1277) (by decide +kernel), List.mem_of_getElem? (i := 1278) (by decide +kernel)⟩
theorem lw_p51 : lw_okq (⟨"BikeTownModel", "handled", "(III)I"⟩, 50) := ⟨⟨by decide +kernel, by decide +kernel⟩, List.mem_of_getElem? (i := 1089) (by decide +kernel), List.mem_of_getElem? (i := 1297) (by decide +kernel), List.mem_of_getElem? (i := 1298) (by decide +kernel)⟩
theorem lw_p52 : lw_okq (⟨"BikeTownModel", "can", "(III)Z"⟩, 50) := ⟨⟨by decide +kernel, by decide +kernel⟩, List.mem_of_getElem? (i := 1089) (by decide +kernel), List.mem_of_getElem? (i := 1301) (by decide +kernel), List.mem_of_getElem? (i := 1302) (by decide +kernel)⟩
theorem lw_p53 : lw_okq (⟨"BikeTownModel", "byHand", "(III)V"⟩, 50) := ⟨⟨by decide +kernel, by decide +kernel⟩, List.mem_of_getElem? (i := 1089) (by decide +kernel), List.mem_of_getElem? (i := 1305) (by decide +kernel), List.mem_of_getElem? (i := 1306) (by decide +kernel)⟩
theorem lw_p54 : lw_okq (⟨"BikeTownModel", "does", "(III)V"⟩, 50) := ⟨⟨by decide +kernel, by decide +kernel⟩, List.mem_of_getElem? (i := 1089) (by decide +kernel), List.mem_of_getElem? (i := 1309) (by decide +kernel), List.mem_of_getElem? (i := 1310) (by decide +kernel)⟩
theorem lw_p55 : lw_okq (⟨"BikeTownModel", "logs", "(IIII)V"⟩, 50) := ⟨⟨by decide +kernel, by decide +kernel⟩, List.mem_of_getElem? (i := 1089) (by decide +kernel), List.mem_of_getElem? (i := 1313) (by decide +kernel), List.mem_of_getElem? (i := 1314) (by decide +kernel)⟩
theorem lw_p56 : lw_okq (⟨"BikeTownModel", "isBike", "(I)Z"⟩, 50) := ⟨⟨by decide +kernel, by decide +kernel⟩, List.mem_of_getElem? (i := 1089) (by decide +kernel), List.mem_of_getElem? (i := 1325) (by decide +kernel), List.mem_of_getElem? (i := 1326) (by decide +kernel)⟩
theorem lw_p57 : lw_okq (⟨"BikeTownModel", "faultOf", "()I"⟩, 50) := ⟨⟨by decide +kernel, by decide +kernel⟩, List.mem_of_getElem? (i := 1089) (by decide +kernel), List.mem_of_getElem? (i := 1353) (by decide +kernel), List.mem_of_getElem? (i := 1354) (by decide +kernel)⟩
theorem lw_p58 : lw_okq (⟨"BikeTownModel", "goes", "()V"⟩, 50) := ⟨⟨by decide +kernel, by decide +kernel⟩, List.mem_of_getElem? (i := 1089) (by decide +kernel), List.mem_of_getElem? (i := 1372) (by decide +kernel), List.mem_of_getElem? (i := 1373) (by decide +kernel)⟩
theorem lw_p59 : lw_okq (⟨"BikeTownModel", "rides", "(I)V"⟩, 50) := ⟨⟨by decide +kernel, by decide +kernel⟩, List.mem_of_getElem? (i := 1089) (by decide +kernel), List.mem_of_getElem? (i := 1376) (by decide +kernel), List.mem_of_getElem? (i := 1377) (by decide +kernel)⟩
theorem lw_p60 : lw_okq (⟨"BikeTownModel", "wayOf", "(II)I"⟩, 50) := ⟨⟨by decide +kernel, by decide +kernel⟩, List.mem_of_getElem? (i := 1089) (by decide +kernel), List.mem_of_getElem? (i := 1380) (by decide +kernel), List.mem_of_getElem? (i := 1381) (by decide +kernel)⟩
theorem lw_p61 : lw_okq (⟨"BikeTownModel", "isSo", "(II)Z"⟩, 50) := ⟨⟨by decide +kernel, by decide +kernel⟩, List.mem_of_getElem? (i := 1089) (by decide +kernel), List.mem_of_getElem? (i := 1387) (by decide +kernel), List.mem_of_getElem? (i := 1388) (by decide +kernel)⟩
theorem lw_p62 : lw_okq (⟨"BikeTownModel", "symbol", "(I)I"⟩, 50) := ⟨⟨by decide +kernel, by decide +kernel⟩, List.mem_of_getElem? (i := 1089) (by decide +kernel), List.mem_of_getElem? (i := 1391) (by decide +kernel), List.mem_of_getElem? (i := 1392) (by decide +kernel)⟩
theorem lw_p63 : lw_okq (⟨"BikeTownModel", "turned", "(II)I"⟩, 50) := ⟨⟨by decide +kernel, by decide +kernel⟩, List.mem_of_getElem? (i := 1089) (by decide +kernel), List.mem_of_getElem? (i := 1398) (by decide +kernel), List.mem_of_getElem? (i := 1399) (by decide +kernel)⟩
def lw_privs_4 : List (MethodName × Nat) := [(⟨"BikeTownModel", "isPost", "(I)Z"⟩, 50), (⟨"BikeTownModel", "free", "(I)I"⟩, 50), (⟨"BikeTownModel", "there", "(I)I"⟩, 50), (⟨"BikeTownModel", "handled", "(III)I"⟩, 50), (⟨"BikeTownModel", "can", "(III)Z"⟩, 50), (⟨"BikeTownModel", "byHand", "(III)V"⟩, 50), (⟨"BikeTownModel", "does", "(III)V"⟩, 50), (⟨"BikeTownModel", "logs", "(IIII)V"⟩, 50), (⟨"BikeTownModel", "isBike", "(I)Z"⟩, 50), (⟨"BikeTownModel", "faultOf", "()I"⟩, 50), (⟨"BikeTownModel", "goes", "()V"⟩, 50), (⟨"BikeTownModel", "rides", "(I)V"⟩, 50), (⟨"BikeTownModel", "wayOf", "(II)I"⟩, 50), (⟨"BikeTownModel", "isSo", "(II)Z"⟩, 50), (⟨"BikeTownModel", "symbol", "(I)I"⟩, 50), (⟨"BikeTownModel", "turned", "(II)I"⟩, 50)]
theorem lw_r4 : ∀ q ∈ lw_privs_4, lw_okq q := List.forall_mem_cons.mpr ⟨lw_p48, List.forall_mem_cons.mpr ⟨lw_p49, List.forall_mem_cons.mpr ⟨lw_p50, List.forall_mem_cons.mpr ⟨lw_p51, List.forall_mem_cons.mpr ⟨lw_p52, List.forall_mem_cons.mpr ⟨lw_p53, List.forall_mem_cons.mpr ⟨lw_p54, List.forall_mem_cons.mpr ⟨lw_p55, List.forall_mem_cons.mpr ⟨lw_p56, List.forall_mem_cons.mpr ⟨lw_p57, List.forall_mem_cons.mpr ⟨lw_p58, List.forall_mem_cons.mpr ⟨lw_p59, List.forall_mem_cons.mpr ⟨lw_p60, List.forall_mem_cons.mpr ⟨lw_p61, List.forall_mem_cons.mpr ⟨lw_p62, List.forall_mem_cons.mpr ⟨lw_p63, fun _ h => absurd h List.not_mem_nil⟩⟩⟩⟩⟩⟩⟩⟩⟩⟩⟩⟩⟩⟩⟩⟩
theorem lw_p64 : lw_okq (⟨"BikeTownModel", "sum", "(II)I"⟩, 50) := ⟨⟨by decide +kernel, by decide +kernel⟩, List.mem_of_getElem? (i := 1089) (by decide +kernel), List.mem_of_getElem? (i := 1402) (by decide +kernel), List.mem_of_getElem? (i := 1403) (by decide +kernel)⟩
theorem lw_p65 : lw_okq (⟨"BikeTownModel", "good", "(I)I"⟩, 50) := ⟨⟨by decide +kernel, by decide +kernel⟩, List.mem_of_getElem? (i := 1089) (by decide +kernel), List.mem_of_getElem? (i := 1406) (by decide +kernel), List.mem_of_getElem? (i := 1407) (by decide +kernel)⟩
theorem lw_p66 : lw_okq (⟨"BikeTownModel", "acts", "(II)V"⟩, 50) := ⟨⟨by decide +kernel, by decide +kernel⟩, List.mem_of_getElem? (i := 1089) (by decide +kernel), List.mem_of_getElem? (i := 1410) (by decide +kernel), List.mem_of_getElem? (i := 1411) (by decide +kernel)⟩
theorem lw_p67 : lw_okq (⟨"BikeTownModel", "drives", "()V"⟩, 50) := ⟨⟨by decide +kernel, by decide +kernel⟩, List.mem_of_getElem? (i := 1089) (by decide +kernel), List.mem_of_getElem? (i := 1414) (by decide +kernel), List.mem_of_getElem? (i := 1415) (by decide +kernel)⟩
theorem lw_p68 : lw_okq (⟨"BikeTownModel", "stops", "()V"⟩, 50) := ⟨⟨by decide +kernel, by decide +kernel⟩, List.mem_of_getElem? (i := 1089) (by decide +kernel), List.mem_of_getElem? (i := 1418) (by decide +kernel), List.mem_of_getElem? (i := 1419) (by decide +kernel)⟩
theorem lw_p69 : lw_okq (⟨"BikeTownModel", "pick", "(I)I"⟩, 50) := ⟨⟨by decide +kernel, by decide +kernel⟩, List.mem_of_getElem? (i := 1089) (by decide +kernel), List.mem_of_getElem? (i := 1422) (by decide +kernel), List.mem_of_getElem? (i := 1423) (by decide +kernel)⟩
theorem lw_p70 : lw_okq (⟨"BikeTownModel", "comes", "(I)V"⟩, 50) := ⟨⟨by decide +kernel, by decide +kernel⟩, List.mem_of_getElem? (i := 1089) (by decide +kernel), List.mem_of_getElem? (i := 1426) (by decide +kernel), List.mem_of_getElem? (i := 1427) (by decide +kernel)⟩
theorem lw_p71 : lw_okq (⟨"BikeTownModel", "loses", "(II)V"⟩, 50) := ⟨⟨by decide +kernel, by decide +kernel⟩, List.mem_of_getElem? (i := 1089) (by decide +kernel), List.mem_of_getElem? (i := 1430) (by decide +kernel), List.mem_of_getElem? (i := 1431) (by decide +kernel)⟩
theorem lw_p72 : lw_okq (⟨"BikeTownModel", "rounds", "()I"⟩, 50) := ⟨⟨by decide +kernel, by decide +kernel⟩, List.mem_of_getElem? (i := 1089) (by decide +kernel), List.mem_of_getElem? (i := 1486) (by decide +kernel), List.mem_of_getElem? (i := 1487) (by decide +kernel)⟩
theorem lw_p73 : lw_okq (⟨"BikeTownModel", "roundWay", "(II)I"⟩, 50) := ⟨⟨by decide +kernel, by decide +kernel⟩, List.mem_of_getElem? (i := 1089) (by decide +kernel), List.mem_of_getElem? (i := 1491) (by decide +kernel), List.mem_of_getElem? (i := 1492) (by decide +kernel)⟩
theorem lw_p74 : lw_okq (⟨"BikeTownModel", "isStill", "(II)Z"⟩, 50) := ⟨⟨by decide +kernel, by decide +kernel⟩, List.mem_of_getElem? (i := 1089) (by decide +kernel), List.mem_of_getElem? (i := 1511) (by decide +kernel), List.mem_of_getElem? (i := 1512) (by decide +kernel)⟩
theorem lw_p75 : lw_okq (⟨"BikeTownModel", "answer", "(III)I"⟩, 50) := ⟨⟨by decide +kernel, by decide +kernel⟩, List.mem_of_getElem? (i := 1089) (by decide +kernel), List.mem_of_getElem? (i := 1515) (by decide +kernel), List.mem_of_getElem? (i := 1516) (by decide +kernel)⟩
theorem lw_p76 : lw_okq (⟨"BikeTownModel", "nearest", "(II)I"⟩, 50) := ⟨⟨by decide +kernel, by decide +kernel⟩, List.mem_of_getElem? (i := 1089) (by decide +kernel), List.mem_of_getElem? (i := 1539) (by decide +kernel), List.mem_of_getElem? (i := 1540) (by decide +kernel)⟩
theorem lw_p77 : lw_okq (⟨"BikeTownModel", "rows", "(IZ)I"⟩, 50) := ⟨⟨by decide +kernel, by decide +kernel⟩, List.mem_of_getElem? (i := 1089) (by decide +kernel), List.mem_of_getElem? (i := 1551) (by decide +kernel), List.mem_of_getElem? (i := 1552) (by decide +kernel)⟩
def lw_privs_5 : List (MethodName × Nat) := [(⟨"BikeTownModel", "sum", "(II)I"⟩, 50), (⟨"BikeTownModel", "good", "(I)I"⟩, 50), (⟨"BikeTownModel", "acts", "(II)V"⟩, 50), (⟨"BikeTownModel", "drives", "()V"⟩, 50), (⟨"BikeTownModel", "stops", "()V"⟩, 50), (⟨"BikeTownModel", "pick", "(I)I"⟩, 50), (⟨"BikeTownModel", "comes", "(I)V"⟩, 50), (⟨"BikeTownModel", "loses", "(II)V"⟩, 50), (⟨"BikeTownModel", "rounds", "()I"⟩, 50), (⟨"BikeTownModel", "roundWay", "(II)I"⟩, 50), (⟨"BikeTownModel", "isStill", "(II)Z"⟩, 50), (⟨"BikeTownModel", "answer", "(III)I"⟩, 50), (⟨"BikeTownModel", "nearest", "(II)I"⟩, 50), (⟨"BikeTownModel", "rows", "(IZ)I"⟩, 50)]
theorem lw_r5 : ∀ q ∈ lw_privs_5, lw_okq q := List.forall_mem_cons.mpr ⟨lw_p64, List.forall_mem_cons.mpr ⟨lw_p65, List.forall_mem_cons.mpr ⟨lw_p66, List.forall_mem_cons.mpr ⟨lw_p67, List.forall_mem_cons.mpr ⟨lw_p68, List.forall_mem_cons.mpr ⟨lw_p69, List.forall_mem_cons.mpr ⟨lw_p70, List.forall_mem_cons.mpr ⟨lw_p71, List.forall_mem_cons.mpr ⟨lw_p72, List.forall_mem_cons.mpr ⟨lw_p73, List.forall_mem_cons.mpr ⟨lw_p74, List.forall_mem_cons.mpr ⟨lw_p75, List.forall_mem_cons.mpr ⟨lw_p76, List.forall_mem_cons.mpr ⟨lw_p77, fun _ h => absurd h List.not_mem_nil⟩⟩⟩⟩⟩⟩⟩⟩⟩⟩⟩⟩⟩⟩
def lw_privs : List (MethodName × Nat) := lw_privs_1 ++ (lw_privs_2 ++ (lw_privs_3 ++ (lw_privs_4 ++ (lw_privs_5))))
def lw_tbl : List Cond := k2_sels lw_privs ++ tables_1
theorem lw_privs_ok : ∀ q ∈ lw_privs, lw_okq q := by
  show ∀ q ∈ lw_privs_1 ++ (lw_privs_2 ++ (lw_privs_3 ++ (lw_privs_4 ++ (lw_privs_5)))), lw_okq q
  exact List.forall_mem_append.mpr ⟨lw_r1, List.forall_mem_append.mpr ⟨lw_r2, List.forall_mem_append.mpr ⟨lw_r3, List.forall_mem_append.mpr ⟨lw_r4, lw_r5⟩⟩⟩⟩

def RX0 : String := "BikeTown$Day"
def TX0 : u_T := fun k => match k with
  | 0 => ("BikeTown$Day", "told", "LBikeTown$Told;", true)
  | 1 => ("BikeTown$Day", "rules", "LBikeTown$Rules;", true)
  | 2 => ("BikeTown$Day", "diary", "LBikeTown$Diary;", true)
  | 3 => ("BikeTown$Day", "van", "LBikeTown$Van;", true)
  | 4 => ("BikeTown$Day", "minute", "I", false)
  | 5 => ("BikeTown$Day", "turnedRule", "I", false)
  | 6 => ("BikeTown$Day", "price", "[I", true)
  | 7 => ("BikeTown$Day", "isOpen", "[Z", true)
  | 8 => ("BikeTown$Day", "bikesAt", "[I", true)
  | 9 => ("BikeTown$Day", "soundAt", "[I", true)
  | 10 => ("BikeTown$Day", "waiting", "[I", true)
  | 11 => ("BikeTown$Day", "bike", "[[I", true)
  | 12 => ("BikeTown$Day", "mendedAt", "[I", true)
  | 13 => ("BikeTown$Day", "rider", "[[I", true)
  | 14 => ("BikeTown$Day", "rideEnds", "[I", true)
  | _ => ("BikeTown$Day", "names", "[I", true)
def tyX0 : Nat → FieldType := fun k => match k with
  | 0 => .object "BikeTown$Told"
  | 1 => .object "BikeTown$Rules"
  | 2 => .object "BikeTown$Diary"
  | 3 => .object "BikeTown$Van"
  | 4 => .int
  | 5 => .int
  | 6 => .array .int
  | 7 => .array .boolean
  | 8 => .array .int
  | 9 => .array .int
  | 10 => .array .int
  | 11 => .array (.array .int)
  | 12 => .array .int
  | 13 => .array (.array .int)
  | 14 => .array .int
  | _ => .array .int
abbrev wsX00 : List Cond := u_ws RX0 TX0 16
theorem nmX0 : ∀ a, a < 16 → ∀ b, b < 16 → a ≠ b → (TX0 a).2.1 ≠ (TX0 b).2.1 := by decide +kernel
theorem tyX0_ok : ∀ k, k < 16 → parseFieldDescriptor (TX0 k).2.2.1 = some (tyX0 k) := by decide +kernel
abbrev cX0_init : ByteArray := prog_2_method_1_code
def yX0_init : MethodName := ⟨RX0, "<init>", "(LBikeTown$Told;LBikeTown$Rules;I)V"⟩
abbrev cX0_begin : ByteArray := prog_2_method_2_code
def yX0_begin : MethodName := ⟨RX0, "begin", "(I)V"⟩
abbrev cX0_startPost : ByteArray := prog_2_method_3_code
def yX0_startPost : MethodName := ⟨RX0, "startPost", "(I)V"⟩
abbrev cX0_startBike : ByteArray := prog_2_method_4_code
def yX0_startBike : MethodName := ⟨RX0, "startBike", "(I)V"⟩
abbrev cX0_startRider : ByteArray := prog_2_method_5_code
def yX0_startRider : MethodName := ⟨RX0, "startRider", "(I)V"⟩
abbrev cX0_redo : ByteArray := prog_2_method_6_code
def yX0_redo : MethodName := ⟨RX0, "redo", "(LBikeTown$Hands;I)I"⟩
abbrev cX0_freeRacks : ByteArray := prog_2_method_7_code
def yX0_freeRacks : MethodName := ⟨RX0, "freeRacks", "(I)I"⟩
abbrev cX0_takesBikes : ByteArray := prog_2_method_8_code
def yX0_takesBikes : MethodName := ⟨RX0, "takesBikes", "(I)Z"⟩
abbrev cX0_settle : ByteArray := prog_2_method_9_code
def yX0_settle : MethodName := ⟨RX0, "settle", "(II)V"⟩
abbrev cX0_lift : ByteArray := prog_2_method_10_code
def yX0_lift : MethodName := ⟨RX0, "lift", "(II)V"⟩
abbrev cX0_isAt : ByteArray := prog_2_method_11_code
def yX0_isAt : MethodName := ⟨RX0, "isAt", "(II)Z"⟩
abbrev cX0_bestBike : ByteArray := prog_2_method_12_code
def yX0_bestBike : MethodName := ⟨RX0, "bestBike", "(I)I"⟩
abbrev cX0_tellFaulty : ByteArray := prog_2_method_13_code
def yX0_tellFaulty : MethodName := ⟨RX0, "tellFaulty", "(I)V"⟩
abbrev cX0_firstFaulty : ByteArray := prog_2_method_14_code
def yX0_firstFaulty : MethodName := ⟨RX0, "firstFaulty", "(I)I"⟩
abbrev cX0_setOpen : ByteArray := prog_2_method_15_code
def yX0_setOpen : MethodName := ⟨RX0, "setOpen", "(IZ)V"⟩
abbrev cX0_tellPost : ByteArray := prog_2_method_16_code
def yX0_tellPost : MethodName := ⟨RX0, "tellPost", "(II)I"⟩
abbrev cX0_canBeDone : ByteArray := prog_2_method_17_code
def yX0_canBeDone : MethodName := ⟨RX0, "canBeDone", "(III)Z"⟩
abbrev cX0_doByHand : ByteArray := prog_2_method_18_code
def yX0_doByHand : MethodName := ⟨RX0, "doByHand", "(III)V"⟩
abbrev cX0_passMinute : ByteArray := prog_2_method_19_code
def yX0_passMinute : MethodName := ⟨RX0, "passMinute", "()V"⟩
abbrev cX0_hour : ByteArray := prog_2_method_20_code
def yX0_hour : MethodName := ⟨RX0, "hour", "()I"⟩
abbrev cX0_endRides : ByteArray := prog_2_method_21_code
def yX0_endRides : MethodName := ⟨RX0, "endRides", "()V"⟩
abbrev cX0_endRide : ByteArray := prog_2_method_22_code
def yX0_endRide : MethodName := ⟨RX0, "endRide", "(I)V"⟩
abbrev cX0_leaveBike : ByteArray := prog_2_method_23_code
def yX0_leaveBike : MethodName := ⟨RX0, "leaveBike", "(III)V"⟩
abbrev cX0_nearestThatTakes : ByteArray := prog_2_method_24_code
def yX0_nearestThatTakes : MethodName := ⟨RX0, "nearestThatTakes", "(I)I"⟩
abbrev cX0_mendBikes : ByteArray := prog_2_method_25_code
def yX0_mendBikes : MethodName := ⟨RX0, "mendBikes", "()V"⟩
abbrev cX0_followRules : ByteArray := prog_2_method_26_code
def yX0_followRules : MethodName := ⟨RX0, "followRules", "()V"⟩
abbrev cX0_followRule : ByteArray := prog_2_method_27_code
def yX0_followRule : MethodName := ⟨RX0, "followRule", "(II)V"⟩
abbrev cX0_nameAll : ByteArray := prog_2_method_28_code
def yX0_nameAll : MethodName := ⟨RX0, "nameAll", "(I)V"⟩
abbrev cX0_sendToShop : ByteArray := prog_2_method_29_code
def yX0_sendToShop : MethodName := ⟨RX0, "sendToShop", "(I)V"⟩
abbrev cX0_driveVan : ByteArray := prog_2_method_30_code
def yX0_driveVan : MethodName := ⟨RX0, "driveVan", "()V"⟩
abbrev cX0_doStop : ByteArray := prog_2_method_31_code
def yX0_doStop : MethodName := ⟨RX0, "doStop", "(II)V"⟩
abbrev cX0_vanTakes : ByteArray := prog_2_method_32_code
def yX0_vanTakes : MethodName := ⟨RX0, "vanTakes", "(I)V"⟩
abbrev cX0_vanLeaves : ByteArray := prog_2_method_33_code
def yX0_vanLeaves : MethodName := ⟨RX0, "vanLeaves", "(I)V"⟩
abbrev cX0_lookAtRiders : ByteArray := prog_2_method_34_code
def yX0_lookAtRiders : MethodName := ⟨RX0, "lookAtRiders", "()V"⟩
abbrev cX0_lookAtRider : ByteArray := prog_2_method_35_code
def yX0_lookAtRider : MethodName := ⟨RX0, "lookAtRider", "(I)V"⟩
abbrev cX0_lose : ByteArray := prog_2_method_36_code
def yX0_lose : MethodName := ⟨RX0, "lose", "(III)V"⟩
abbrev cX0_takeBike : ByteArray := prog_2_method_37_code
def yX0_takeBike : MethodName := ⟨RX0, "takeBike", "(III)V"⟩
abbrev cX0_countEmpty : ByteArray := prog_2_method_38_code
def yX0_countEmpty : MethodName := ⟨RX0, "countEmpty", "()V"⟩
def RX1 : String := "BikeTown$Days"
def TX1 : u_T := fun k => match k with
  | 0 => ("BikeTown$Days", "size", "I", false)
  | 1 => ("BikeTown$Days", "weekdays", "[I", true)
  | _ => ("BikeTown$Days", "taken", "[[I", true)
def tyX1 : Nat → FieldType := fun k => match k with
  | 0 => .int
  | 1 => .array .int
  | _ => .array (.array .int)
abbrev wsX10 : List Cond := u_ws RX1 TX1 3
theorem nmX1 : ∀ a, a < 3 → ∀ b, b < 3 → a ≠ b → (TX1 a).2.1 ≠ (TX1 b).2.1 := by decide +kernel
theorem tyX1_ok : ∀ k, k < 3 → parseFieldDescriptor (TX1 k).2.2.1 = some (tyX1 k) := by decide +kernel
abbrev cX1_init : ByteArray := prog_3_method_1_code
def yX1_init : MethodName := ⟨RX1, "<init>", "()V"⟩
abbrev cX1_keep : ByteArray := prog_3_method_2_code
def yX1_keep : MethodName := ⟨RX1, "keep", "(ILBikeTown$Diary;)V"⟩
abbrev cX1_countWith : ByteArray := prog_3_method_3_code
def yX1_countWith : MethodName := ⟨RX1, "countWith", "(I)I"⟩
abbrev cX1_countLike : ByteArray := prog_3_method_4_code
def yX1_countLike : MethodName := ⟨RX1, "countLike", "(I)I"⟩
abbrev cX1_sumOfLike : ByteArray := prog_3_method_5_code
def yX1_sumOfLike : MethodName := ⟨RX1, "sumOfLike", "(III)I"⟩
def RX2 : String := "BikeTown$Diary"
def TX2 : u_T := fun k => match k with
  | 0 => ("BikeTown$Diary", "mostLines", "I", true)
  | 1 => ("BikeTown$Diary", "lines", "I", false)
  | 2 => ("BikeTown$Diary", "paid", "I", false)
  | 3 => ("BikeTown$Diary", "line", "[[I", true)
  | 4 => ("BikeTown$Diary", "taken", "[[I", true)
  | 5 => ("BikeTown$Diary", "lost", "[[I", true)
  | 6 => ("BikeTown$Diary", "empty", "[[I", true)
  | 7 => ("BikeTown$Diary", "busiest", "[[I", true)
  | _ => ("BikeTown$Diary", "takenNow", "[I", true)
def tyX2 : Nat → FieldType := fun k => match k with
  | 0 => .int
  | 1 => .int
  | 2 => .int
  | 3 => .array (.array .int)
  | 4 => .array (.array .int)
  | 5 => .array (.array .int)
  | 6 => .array (.array .int)
  | 7 => .array (.array .int)
  | _ => .array .int
abbrev wsX20 : List Cond := u_ws RX2 TX2 9
theorem nmX2 : ∀ a, a < 9 → ∀ b, b < 9 → a ≠ b → (TX2 a).2.1 ≠ (TX2 b).2.1 := by decide +kernel
theorem tyX2_ok : ∀ k, k < 9 → parseFieldDescriptor (TX2 k).2.2.1 = some (tyX2 k) := by decide +kernel
abbrev cX2_init : ByteArray := prog_4_method_1_code
def yX2_init : MethodName := ⟨RX2, "<init>", "(I)V"⟩
abbrev cX2_clear : ByteArray := prog_4_method_2_code
def yX2_clear : MethodName := ⟨RX2, "clear", "()V"⟩
abbrev cX2_beginMinute : ByteArray := prog_4_method_3_code
def yX2_beginMinute : MethodName := ⟨RX2, "beginMinute", "()V"⟩
abbrev cX2_add : ByteArray := prog_4_method_4_code
def yX2_add : MethodName := ⟨RX2, "add", "(IIIII)V"⟩
abbrev cX2_countTaken : ByteArray := prog_4_method_5_code
def yX2_countTaken : MethodName := ⟨RX2, "countTaken", "(III)V"⟩
abbrev cX2_changeTill : ByteArray := prog_4_method_6_code
def yX2_changeTill : MethodName := ⟨RX2, "changeTill", "(II)I"⟩
abbrev cX2_changeBy : ByteArray := prog_4_method_7_code
def yX2_changeBy : MethodName := ⟨RX2, "changeBy", "(I)I"⟩
abbrev cX2_sumOf : ByteArray := prog_4_method_8_code
def yX2_sumOf : MethodName := ⟨RX2, "sumOf", "([I)I"⟩
def RX3 : String := "BikeTown$Hands"
def TX3 : u_T := fun k => match k with
  | 0 => ("BikeTown$Hands", "size", "I", false)
  | 1 => ("BikeTown$Hands", "minute", "[I", true)
  | 2 => ("BikeTown$Hands", "what", "[I", true)
  | 3 => ("BikeTown$Hands", "a", "[I", true)
  | _ => ("BikeTown$Hands", "b", "[I", true)
def tyX3 : Nat → FieldType := fun k => match k with
  | 0 => .int
  | 1 => .array .int
  | 2 => .array .int
  | 3 => .array .int
  | _ => .array .int
abbrev wsX30 : List Cond := u_ws RX3 TX3 5
theorem nmX3 : ∀ a, a < 5 → ∀ b, b < 5 → a ≠ b → (TX3 a).2.1 ≠ (TX3 b).2.1 := by decide +kernel
theorem tyX3_ok : ∀ k, k < 5 → parseFieldDescriptor (TX3 k).2.2.1 = some (tyX3 k) := by decide +kernel
abbrev cX3_init : ByteArray := prog_5_method_1_code
def yX3_init : MethodName := ⟨RX3, "<init>", "()V"⟩
abbrev cX3_add : ByteArray := prog_5_method_2_code
def yX3_add : MethodName := ⟨RX3, "add", "(IIII)V"⟩
def RX4 : String := "BikeTown$Houses"
def TX4 : u_T := fun k => match k with
  | 0 => ("BikeTown$Houses", "gain", "[[I", true)
  | _ => ("BikeTown$Houses", "seen", "[Z", true)
def tyX4 : Nat → FieldType := fun k => match k with
  | 0 => .array (.array .int)
  | _ => .array .boolean
abbrev wsX40 : List Cond := u_ws RX4 TX4 2
theorem nmX4 : ∀ a, a < 2 → ∀ b, b < 2 → a ≠ b → (TX4 a).2.1 ≠ (TX4 b).2.1 := by decide +kernel
theorem tyX4_ok : ∀ k, k < 2 → parseFieldDescriptor (TX4 k).2.2.1 = some (tyX4 k) := by decide +kernel
abbrev cX4_init : ByteArray := prog_6_method_1_code
def yX4_init : MethodName := ⟨RX4, "<init>", "()V"⟩
abbrev cX4_isLevel : ByteArray := prog_6_method_2_code
def yX4_isLevel : MethodName := ⟨RX4, "isLevel", "(I)Z"⟩
abbrev cX4_pairOf : ByteArray := prog_6_method_3_code
def yX4_pairOf : MethodName := ⟨RX4, "pairOf", "(II)I"⟩
abbrev cX4_gainAt : ByteArray := prog_6_method_4_code
def yX4_gainAt : MethodName := ⟨RX4, "gainAt", "(IIII)I"⟩
abbrev cX4_bestLevel : ByteArray := prog_6_method_5_code
def yX4_bestLevel : MethodName := ⟨RX4, "bestLevel", "(III)I"⟩
abbrev cX4_isStill : ByteArray := prog_6_method_6_code
def yX4_isStill : MethodName := ⟨RX4, "isStill", "(II)Z"⟩
abbrev cX4_countStill : ByteArray := prog_6_method_7_code
def yX4_countStill : MethodName := ⟨RX4, "countStill", "()I"⟩
abbrev cX4_stillPair : ByteArray := prog_6_method_8_code
def yX4_stillPair : MethodName := ⟨RX4, "stillPair", "(I)I"⟩
abbrev cX4_turnsFrom : ByteArray := prog_6_method_9_code
def yX4_turnsFrom : MethodName := ⟨RX4, "turnsFrom", "(II)I"⟩
def RX5 : String := "BikeTown$Round"
def TX5 : u_T := fun k => match k with
  | 0 => ("BikeTown$Round", "want", "[I", true)
  | 1 => ("BikeTown$Round", "wanting", "[I", true)
  | 2 => ("BikeTown$Round", "size", "I", false)
  | 3 => ("BikeTown$Round", "load", "[I", true)
  | _ => ("BikeTown$Round", "ways", "[I", true)
def tyX5 : Nat → FieldType := fun k => match k with
  | 0 => .array .int
  | 1 => .array .int
  | 2 => .int
  | 3 => .array .int
  | _ => .array .int
abbrev wsX50 : List Cond := u_ws RX5 TX5 5
theorem nmX5 : ∀ a, a < 5 → ∀ b, b < 5 → a ≠ b → (TX5 a).2.1 ≠ (TX5 b).2.1 := by decide +kernel
theorem tyX5_ok : ∀ k, k < 5 → parseFieldDescriptor (TX5 k).2.2.1 = some (tyX5 k) := by decide +kernel
abbrev cX5_init : ByteArray := prog_7_method_1_code
def yX5_init : MethodName := ⟨RX5, "<init>", "()V"⟩
abbrev cX5_spot : ByteArray := prog_7_method_2_code
def yX5_spot : MethodName := ⟨RX5, "spot", "(II)I"⟩
abbrev cX5_countWanting : ByteArray := prog_7_method_3_code
def yX5_countWanting : MethodName := ⟨RX5, "countWanting", "()I"⟩
abbrev cX5_leastWays : ByteArray := prog_7_method_4_code
def yX5_leastWays : MethodName := ⟨RX5, "leastWays", "(LBikeTown$Told;LBikeTown$Van;)I"⟩
abbrev cX5_gather : ByteArray := prog_7_method_5_code
def yX5_gather : MethodName := ⟨RX5, "gather", "()V"⟩
abbrev cX5_sumOfWants : ByteArray := prog_7_method_6_code
def yX5_sumOfWants : MethodName := ⟨RX5, "sumOfWants", "(I)I"⟩
abbrev cX5_waysFrom : ByteArray := prog_7_method_7_code
def yX5_waysFrom : MethodName := ⟨RX5, "waysFrom", "(LBikeTown$Told;III)I"⟩
abbrev cX5_waysVia : ByteArray := prog_7_method_8_code
def yX5_waysVia : MethodName := ⟨RX5, "waysVia", "(LBikeTown$Told;III)I"⟩
abbrev cX5_waysOver : ByteArray := prog_7_method_9_code
def yX5_waysOver : MethodName := ⟨RX5, "waysOver", "(LBikeTown$Told;LBikeTown$Van;I)I"⟩
abbrev cX5_firstOfBest : ByteArray := prog_7_method_10_code
def yX5_firstOfBest : MethodName := ⟨RX5, "firstOfBest", "(LBikeTown$Told;LBikeTown$Van;)I"⟩
abbrev cX5_postOfOrder : ByteArray := prog_7_method_11_code
def yX5_postOfOrder : MethodName := ⟨RX5, "postOfOrder", "(LBikeTown$Told;LBikeTown$Van;I)I"⟩
abbrev cX5_nextOfBest : ByteArray := prog_7_method_12_code
def yX5_nextOfBest : MethodName := ⟨RX5, "nextOfBest", "(LBikeTown$Told;II)I"⟩
def RX6 : String := "BikeTown$Rules"
def TX6 : u_T := fun k => match k with
  | 0 => ("BikeTown$Rules", "text", "[I", true)
  | 1 => ("BikeTown$Rules", "length", "I", false)
  | 2 => ("BikeTown$Rules", "size", "I", false)
  | 3 => ("BikeTown$Rules", "rows", "[[I", true)
  | 4 => ("BikeTown$Rules", "lengths", "[I", true)
  | 5 => ("BikeTown$Rules", "thenAt", "[I", true)
  | 6 => ("BikeTown$Rules", "isOff", "[Z", true)
  | 7 => ("BikeTown$Rules", "at", "I", false)
  | 8 => ("BikeTown$Rules", "any", "[Z", true)
  | 9 => ("BikeTown$Rules", "all", "[Z", true)
  | _ => ("BikeTown$Rules", "turned", "[Z", true)
def tyX6 : Nat → FieldType := fun k => match k with
  | 0 => .array .int
  | 1 => .int
  | 2 => .int
  | 3 => .array (.array .int)
  | 4 => .array .int
  | 5 => .array .int
  | 6 => .array .boolean
  | 7 => .int
  | 8 => .array .boolean
  | 9 => .array .boolean
  | _ => .array .boolean
abbrev wsX60 : List Cond := u_ws RX6 TX6 11
theorem nmX6 : ∀ a, a < 11 → ∀ b, b < 11 → a ≠ b → (TX6 a).2.1 ≠ (TX6 b).2.1 := by decide +kernel
theorem tyX6_ok : ∀ k, k < 11 → parseFieldDescriptor (TX6 k).2.2.1 = some (tyX6 k) := by decide +kernel
abbrev cX6_init : ByteArray := prog_8_method_1_code
def yX6_init : MethodName := ⟨RX6, "<init>", "()V"⟩
abbrev cX6_faultPlace : ByteArray := prog_8_method_2_code
def yX6_faultPlace : MethodName := ⟨RX6, "faultPlace", "()I"⟩
abbrev cX6_stateBehind : ByteArray := prog_8_method_3_code
def yX6_stateBehind : MethodName := ⟨RX6, "stateBehind", "(II)I"⟩
abbrev cX6_stateBehindTerm : ByteArray := prog_8_method_4_code
def yX6_stateBehindTerm : MethodName := ⟨RX6, "stateBehindTerm", "(I)I"⟩
abbrev cX6_addText : ByteArray := prog_8_method_5_code
def yX6_addText : MethodName := ⟨RX6, "addText", "()I"⟩
abbrev cX6_holds : ByteArray := prog_8_method_6_code
def yX6_holds : MethodName := ⟨RX6, "holds", "(I[I)Z"⟩
abbrev cX6_begin : ByteArray := prog_8_method_7_code
def yX6_begin : MethodName := ⟨RX6, "begin", "(IZ)V"⟩
abbrev cX6_compare : ByteArray := prog_8_method_8_code
def yX6_compare : MethodName := ⟨RX6, "compare", "([II[I)Z"⟩
abbrev cX6_readSum : ByteArray := prog_8_method_9_code
def yX6_readSum : MethodName := ⟨RX6, "readSum", "([II[I)I"⟩
abbrev cX6_act : ByteArray := prog_8_method_10_code
def yX6_act : MethodName := ⟨RX6, "act", "(I)I"⟩
abbrev cX6_newPrice : ByteArray := prog_8_method_11_code
def yX6_newPrice : MethodName := ⟨RX6, "newPrice", "(I[I)I"⟩
def RX7 : String := "BikeTown$Sites"
def TX7 : u_T := fun k => match k with
  | 0 => ("BikeTown$Sites", "size", "I", false)
  | 1 => ("BikeTown$Sites", "wishes", "I", false)
  | 2 => ("BikeTown$Sites", "siteX", "[I", true)
  | 3 => ("BikeTown$Sites", "siteY", "[I", true)
  | 4 => ("BikeTown$Sites", "wishX", "[I", true)
  | 5 => ("BikeTown$Sites", "wishY", "[I", true)
  | 6 => ("BikeTown$Sites", "many", "[I", true)
  | _ => ("BikeTown$Sites", "toPost", "[I", true)
def tyX7 : Nat → FieldType := fun k => match k with
  | 0 => .int
  | 1 => .int
  | 2 => .array .int
  | 3 => .array .int
  | 4 => .array .int
  | 5 => .array .int
  | 6 => .array .int
  | _ => .array .int
abbrev wsX70 : List Cond := u_ws RX7 TX7 8
theorem nmX7 : ∀ a, a < 8 → ∀ b, b < 8 → a ≠ b → (TX7 a).2.1 ≠ (TX7 b).2.1 := by decide +kernel
theorem tyX7_ok : ∀ k, k < 8 → parseFieldDescriptor (TX7 k).2.2.1 = some (tyX7 k) := by decide +kernel
abbrev cX7_init : ByteArray := prog_9_method_1_code
def yX7_init : MethodName := ⟨RX7, "<init>", "()V"⟩
abbrev cX7_addSite : ByteArray := prog_9_method_2_code
def yX7_addSite : MethodName := ⟨RX7, "addSite", "(II)I"⟩
abbrev cX7_addWish : ByteArray := prog_9_method_3_code
def yX7_addWish : MethodName := ⟨RX7, "addWish", "(III)I"⟩
abbrev cX7_measureOpenPosts : ByteArray := prog_9_method_4_code
def yX7_measureOpenPosts : MethodName := ⟨RX7, "measureOpenPosts", "(LBikeTown$Told;[Z)V"⟩
abbrev cX7_measure : ByteArray := prog_9_method_5_code
def yX7_measure : MethodName := ⟨RX7, "measure", "(III)I"⟩
abbrev cX7_bestSet : ByteArray := prog_9_method_6_code
def yX7_bestSet : MethodName := ⟨RX7, "bestSet", "(I)I"⟩
abbrev cX7_sumFor : ByteArray := prog_9_method_7_code
def yX7_sumFor : MethodName := ⟨RX7, "sumFor", "(I)I"⟩
def RX8 : String := "BikeTown$Told"
def TX8 : u_T := fun k => match k with
  | 0 => ("BikeTown$Told", "posts", "I", false)
  | 1 => ("BikeTown$Told", "bikes", "I", false)
  | 2 => ("BikeTown$Told", "riders", "I", false)
  | 3 => ("BikeTown$Told", "mend", "I", false)
  | 4 => ("BikeTown$Told", "worn", "I", false)
  | 5 => ("BikeTown$Told", "x", "[I", true)
  | 6 => ("BikeTown$Told", "y", "[I", true)
  | 7 => ("BikeTown$Told", "racks", "[I", true)
  | 8 => ("BikeTown$Told", "home", "[I", true)
  | 9 => ("BikeTown$Told", "minute", "[I", true)
  | 10 => ("BikeTown$Told", "from", "[I", true)
  | 11 => ("BikeTown$Told", "to", "[I", true)
  | 12 => ("BikeTown$Told", "kind", "[I", true)
  | 13 => ("BikeTown$Told", "limit", "[I", true)
  | _ => ("BikeTown$Told", "patience", "[I", true)
def tyX8 : Nat → FieldType := fun k => match k with
  | 0 => .int
  | 1 => .int
  | 2 => .int
  | 3 => .int
  | 4 => .int
  | 5 => .array .int
  | 6 => .array .int
  | 7 => .array .int
  | 8 => .array .int
  | 9 => .array .int
  | 10 => .array .int
  | 11 => .array .int
  | 12 => .array .int
  | 13 => .array .int
  | _ => .array .int
abbrev wsX80 : List Cond := u_ws RX8 TX8 15
theorem nmX8 : ∀ a, a < 15 → ∀ b, b < 15 → a ≠ b → (TX8 a).2.1 ≠ (TX8 b).2.1 := by decide +kernel
theorem tyX8_ok : ∀ k, k < 15 → parseFieldDescriptor (TX8 k).2.2.1 = some (tyX8 k) := by decide +kernel
abbrev cX8_init : ByteArray := prog_10_method_1_code
def yX8_init : MethodName := ⟨RX8, "<init>", "()V"⟩
abbrev cX8_isPost : ByteArray := prog_10_method_2_code
def yX8_isPost : MethodName := ⟨RX8, "isPost", "(I)Z"⟩
abbrev cX8_isBike : ByteArray := prog_10_method_3_code
def yX8_isBike : MethodName := ⟨RX8, "isBike", "(I)Z"⟩
abbrev cX8_addPost : ByteArray := prog_10_method_4_code
def yX8_addPost : MethodName := ⟨RX8, "addPost", "(III)I"⟩
abbrev cX8_addBike : ByteArray := prog_10_method_5_code
def yX8_addBike : MethodName := ⟨RX8, "addBike", "(I)I"⟩
abbrev cX8_addRider : ByteArray := prog_10_method_6_code
def yX8_addRider : MethodName := ⟨RX8, "addRider", "(IIII)I"⟩
abbrev cX8_minutesBetween : ByteArray := prog_10_method_7_code
def yX8_minutesBetween : MethodName := ⟨RX8, "minutesBetween", "(II)I"⟩
abbrev cX8_bikesAhead : ByteArray := prog_10_method_8_code
def yX8_bikesAhead : MethodName := ⟨RX8, "bikesAhead", "(I)I"⟩
def RX9 : String := "BikeTown$Trials"
def TX9 : u_T := fun k => match k with
  | 0 => ("BikeTown$Trials", "size", "I", false)
  | 1 => ("BikeTown$Trials", "scores", "[I", true)
  | _ => ("BikeTown$Trials", "isFaulty", "[Z", true)
def tyX9 : Nat → FieldType := fun k => match k with
  | 0 => .int
  | 1 => .array .int
  | _ => .array .boolean
abbrev wsX90 : List Cond := u_ws RX9 TX9 3
theorem nmX9 : ∀ a, a < 3 → ∀ b, b < 3 → a ≠ b → (TX9 a).2.1 ≠ (TX9 b).2.1 := by decide +kernel
theorem tyX9_ok : ∀ k, k < 3 → parseFieldDescriptor (TX9 k).2.2.1 = some (tyX9 k) := by decide +kernel
abbrev cX9_init : ByteArray := prog_11_method_1_code
def yX9_init : MethodName := ⟨RX9, "<init>", "()V"⟩
abbrev cX9_add : ByteArray := prog_11_method_2_code
def yX9_add : MethodName := ⟨RX9, "add", "(IZ)I"⟩
abbrev cX9_countFrom : ByteArray := prog_11_method_3_code
def yX9_countFrom : MethodName := ⟨RX9, "countFrom", "(IZ)I"⟩
abbrev cX9_leastScore : ByteArray := prog_11_method_4_code
def yX9_leastScore : MethodName := ⟨RX9, "leastScore", "(I)I"⟩
def RX10 : String := "BikeTown$Van"
def TX10 : u_T := fun k => match k with
  | 0 => ("BikeTown$Van", "at", "I", false)
  | 1 => ("BikeTown$Van", "load", "I", false)
  | 2 => ("BikeTown$Van", "stops", "I", false)
  | 3 => ("BikeTown$Van", "comesAt", "I", false)
  | 4 => ("BikeTown$Van", "loaded", "[I", true)
  | 5 => ("BikeTown$Van", "stopPost", "[I", true)
  | _ => ("BikeTown$Van", "stopNumber", "[I", true)
def tyX10 : Nat → FieldType := fun k => match k with
  | 0 => .int
  | 1 => .int
  | 2 => .int
  | 3 => .int
  | 4 => .array .int
  | 5 => .array .int
  | _ => .array .int
abbrev wsX100 : List Cond := u_ws RX10 TX10 7
theorem nmX10 : ∀ a, a < 7 → ∀ b, b < 7 → a ≠ b → (TX10 a).2.1 ≠ (TX10 b).2.1 := by decide +kernel
theorem tyX10_ok : ∀ k, k < 7 → parseFieldDescriptor (TX10 k).2.2.1 = some (tyX10 k) := by decide +kernel
abbrev cX10_init : ByteArray := prog_12_method_1_code
def yX10_init : MethodName := ⟨RX10, "<init>", "()V"⟩
abbrev cX10_begin : ByteArray := prog_12_method_2_code
def yX10_begin : MethodName := ⟨RX10, "begin", "()V"⟩
abbrev cX10_addStop : ByteArray := prog_12_method_3_code
def yX10_addStop : MethodName := ⟨RX10, "addStop", "(II)V"⟩
abbrev cX10_dropFirstStop : ByteArray := prog_12_method_4_code
def yX10_dropFirstStop : MethodName := ⟨RX10, "dropFirstStop", "()V"⟩
abbrev cX10_put : ByteArray := prog_12_method_5_code
def yX10_put : MethodName := ⟨RX10, "put", "(I)V"⟩
abbrev cX10_takeFirst : ByteArray := prog_12_method_6_code
def yX10_takeFirst : MethodName := ⟨RX10, "takeFirst", "()I"⟩
def RX11 : String := "BikeTown"
def TX11 : u_T := fun k => match k with
  | 0 => ("BikeTown", "told", "LBikeTown$Told;", true)
  | 1 => ("BikeTown", "rules", "LBikeTown$Rules;", true)
  | 2 => ("BikeTown", "hands", "LBikeTown$Hands;", true)
  | 3 => ("BikeTown", "day", "LBikeTown$Day;", true)
  | 4 => ("BikeTown", "again", "LBikeTown$Day;", true)
  | 5 => ("BikeTown", "days", "LBikeTown$Days;", true)
  | 6 => ("BikeTown", "tour", "LBikeTown$Round;", true)
  | 7 => ("BikeTown", "houses", "LBikeTown$Houses;", true)
  | 8 => ("BikeTown", "places", "LBikeTown$Sites;", true)
  | _ => ("BikeTown", "trials", "LBikeTown$Trials;", true)
def tyX11 : Nat → FieldType := fun k => match k with
  | 0 => .object "BikeTown$Told"
  | 1 => .object "BikeTown$Rules"
  | 2 => .object "BikeTown$Hands"
  | 3 => .object "BikeTown$Day"
  | 4 => .object "BikeTown$Day"
  | 5 => .object "BikeTown$Days"
  | 6 => .object "BikeTown$Round"
  | 7 => .object "BikeTown$Houses"
  | 8 => .object "BikeTown$Sites"
  | _ => .object "BikeTown$Trials"
abbrev wsX110 : List Cond := u_ws RX11 TX11 10
theorem nmX11 : ∀ a, a < 10 → ∀ b, b < 10 → a ≠ b → (TX11 a).2.1 ≠ (TX11 b).2.1 := by decide +kernel
theorem tyX11_ok : ∀ k, k < 10 → parseFieldDescriptor (TX11 k).2.2.1 = some (tyX11 k) := by decide +kernel
abbrev cX11_init : ByteArray := prog_1_method_1_code
def yX11_init : MethodName := ⟨RX11, "<init>", "()V"⟩
abbrev cX11_post : ByteArray := prog_1_method_2_code
def yX11_post : MethodName := ⟨RX11, "post", "(III)I"⟩
abbrev cX11_bike : ByteArray := prog_1_method_3_code
def yX11_bike : MethodName := ⟨RX11, "bike", "(I)I"⟩
abbrev cX11_kind : ByteArray := prog_1_method_4_code
def yX11_kind : MethodName := ⟨RX11, "kind", "(III)I"⟩
abbrev cX11_rider : ByteArray := prog_1_method_5_code
def yX11_rider : MethodName := ⟨RX11, "rider", "(IIII)I"⟩
abbrev cX11_shop : ByteArray := prog_1_method_6_code
def yX11_shop : MethodName := ⟨RX11, "shop", "(II)I"⟩
abbrev cX11_hasBegun : ByteArray := prog_1_method_7_code
def yX11_hasBegun : MethodName := ⟨RX11, "hasBegun", "()Z"⟩
abbrev cX11_isIn : ByteArray := prog_1_method_8_code
def yX11_isIn : MethodName := ⟨RX11, "isIn", "(III)Z"⟩
abbrev cX11_bit : ByteArray := prog_1_method_9_code
def yX11_bit : MethodName := ⟨RX11, "bit", "(Z)I"⟩
abbrev cX11_price : ByteArray := prog_1_method_10_code
def yX11_price : MethodName := ⟨RX11, "price", "(II)I"⟩
abbrev cX11_open : ByteArray := prog_1_method_11_code
def yX11_open : MethodName := ⟨RX11, "open", "(IZ)I"⟩
abbrev cX11_faulty : ByteArray := prog_1_method_12_code
def yX11_faulty : MethodName := ⟨RX11, "faulty", "(I)I"⟩
abbrev cX11_steal : ByteArray := prog_1_method_13_code
def yX11_steal : MethodName := ⟨RX11, "steal", "(I)I"⟩
abbrev cX11_find : ByteArray := prog_1_method_14_code
def yX11_find : MethodName := ⟨RX11, "find", "(II)I"⟩
abbrev cX11_stop : ByteArray := prog_1_method_15_code
def yX11_stop : MethodName := ⟨RX11, "stop", "(II)I"⟩
abbrev cX11_byHand : ByteArray := prog_1_method_16_code
def yX11_byHand : MethodName := ⟨RX11, "byHand", "(III)I"⟩
abbrev cX11_say : ByteArray := prog_1_method_17_code
def yX11_say : MethodName := ⟨RX11, "say", "(I)I"⟩
abbrev cX11_hush : ByteArray := prog_1_method_18_code
def yX11_hush : MethodName := ⟨RX11, "hush", "()I"⟩
abbrev cX11_fault : ByteArray := prog_1_method_19_code
def yX11_fault : MethodName := ⟨RX11, "fault", "()I"⟩
abbrev cX11_rule : ByteArray := prog_1_method_20_code
def yX11_rule : MethodName := ⟨RX11, "rule", "()I"⟩
abbrev cX11_off : ByteArray := prog_1_method_21_code
def yX11_off : MethodName := ⟨RX11, "off", "(IZ)I"⟩
abbrev cX11_step : ByteArray := prog_1_method_22_code
def yX11_step : MethodName := ⟨RX11, "step", "(I)I"⟩
abbrev cX11_endDay : ByteArray := prog_1_method_23_code
def yX11_endDay : MethodName := ⟨RX11, "endDay", "(I)I"⟩
abbrev cX11_bikeAt : ByteArray := prog_1_method_24_code
def yX11_bikeAt : MethodName := ⟨RX11, "bikeAt", "(II)I"⟩
abbrev cX11_postAt : ByteArray := prog_1_method_25_code
def yX11_postAt : MethodName := ⟨RX11, "postAt", "(II)I"⟩
abbrev cX11_riderAt : ByteArray := prog_1_method_26_code
def yX11_riderAt : MethodName := ⟨RX11, "riderAt", "(II)I"⟩
abbrev cX11_van : ByteArray := prog_1_method_27_code
def yX11_van : MethodName := ⟨RX11, "van", "(I)I"⟩
abbrev cX11_way : ByteArray := prog_1_method_28_code
def yX11_way : MethodName := ⟨RX11, "way", "(II)I"⟩
abbrev cX11_log : ByteArray := prog_1_method_29_code
def yX11_log : MethodName := ⟨RX11, "log", "(II)I"⟩
abbrev cX11_asOf : ByteArray := prog_1_method_30_code
def yX11_asOf : MethodName := ⟨RX11, "asOf", "(II)I"⟩
abbrev cX11_ends : ByteArray := prog_1_method_31_code
def yX11_ends : MethodName := ⟨RX11, "ends", "(III)I"⟩
abbrev cX11_forecast : ByteArray := prog_1_method_32_code
def yX11_forecast : MethodName := ⟨RX11, "forecast", "(IIII)I"⟩
abbrev cX11_whatIf : ByteArray := prog_1_method_33_code
def yX11_whatIf : MethodName := ⟨RX11, "whatIf", "(II)I"⟩
abbrev cX11_sumOver : ByteArray := prog_1_method_34_code
def yX11_sumOver : MethodName := ⟨RX11, "sumOver", "([[I)I"⟩
abbrev cX11_want : ByteArray := prog_1_method_35_code
def yX11_want : MethodName := ⟨RX11, "want", "(II)I"⟩
abbrev cX11_round : ByteArray := prog_1_method_36_code
def yX11_round : MethodName := ⟨RX11, "round", "()I"⟩
abbrev cX11_roundAt : ByteArray := prog_1_method_37_code
def yX11_roundAt : MethodName := ⟨RX11, "roundAt", "(I)I"⟩
abbrev cX11_gain : ByteArray := prog_1_method_38_code
def yX11_gain : MethodName := ⟨RX11, "gain", "(IIII)I"⟩
abbrev cX11_still : ByteArray := prog_1_method_39_code
def yX11_still : MethodName := ⟨RX11, "still", "()I"⟩
abbrev cX11_stillAt : ByteArray := prog_1_method_40_code
def yX11_stillAt : MethodName := ⟨RX11, "stillAt", "(I)I"⟩
abbrev cX11_answers : ByteArray := prog_1_method_41_code
def yX11_answers : MethodName := ⟨RX11, "answers", "(II)I"⟩
abbrev cX11_site : ByteArray := prog_1_method_42_code
def yX11_site : MethodName := ⟨RX11, "site", "(II)I"⟩
abbrev cX11_wish : ByteArray := prog_1_method_43_code
def yX11_wish : MethodName := ⟨RX11, "wish", "(III)I"⟩
abbrev cX11_sites : ByteArray := prog_1_method_44_code
def yX11_sites : MethodName := ⟨RX11, "sites", "(II)I"⟩
abbrev cX11_test : ByteArray := prog_1_method_45_code
def yX11_test : MethodName := ⟨RX11, "test", "(IZ)I"⟩
abbrev cX11_line : ByteArray := prog_1_method_46_code
def yX11_line : MethodName := ⟨RX11, "line", "(II)I"⟩
abbrev cX11_count : ByteArray := prog_1_method_47_code
def yX11_count : MethodName := ⟨RX11, "count", "(I)I"⟩
abbrev cX11_digest : ByteArray := prog_1_method_48_code
def yX11_digest : MethodName := ⟨RX11, "digest", "()J"⟩
abbrev cX11_digestAt : ByteArray := prog_1_method_49_code
def yX11_digestAt : MethodName := ⟨RX11, "digestAt", "(J[[II)J"⟩
def RX12 : String := "BikeTownModel"
def TX12 : u_T := fun k => match k with
  | 0 => ("BikeTownModel", "thrown", "I", false)
  | 1 => ("BikeTownModel", "s", "[I", true)
  | 2 => ("BikeTownModel", "kept", "[I", true)
  | 3 => ("BikeTownModel", "posts", "I", false)
  | 4 => ("BikeTownModel", "px", "[I", true)
  | 5 => ("BikeTownModel", "py", "[I", true)
  | 6 => ("BikeTownModel", "racks", "[I", true)
  | 7 => ("BikeTownModel", "bikes", "I", false)
  | 8 => ("BikeTownModel", "home", "[I", true)
  | 9 => ("BikeTownModel", "riders", "I", false)
  | 10 => ("BikeTownModel", "minute", "[I", true)
  | 11 => ("BikeTownModel", "from", "[I", true)
  | 12 => ("BikeTownModel", "to", "[I", true)
  | 13 => ("BikeTownModel", "kindOf", "[I", true)
  | 14 => ("BikeTownModel", "limit", "[I", true)
  | 15 => ("BikeTownModel", "patience", "[I", true)
  | 16 => ("BikeTownModel", "mend", "I", false)
  | 17 => ("BikeTownModel", "worn", "I", false)
  | 18 => ("BikeTownModel", "hands", "I", false)
  | 19 => ("BikeTownModel", "hand", "[I", true)
  | 20 => ("BikeTownModel", "said", "I", false)
  | 21 => ("BikeTownModel", "text", "[I", true)
  | 22 => ("BikeTownModel", "rules", "I", false)
  | 23 => ("BikeTownModel", "ruleSize", "[I", true)
  | 24 => ("BikeTownModel", "rule", "[I", true)
  | 25 => ("BikeTownModel", "isOff", "[Z", true)
  | 26 => ("BikeTownModel", "days", "I", false)
  | 27 => ("BikeTownModel", "weekday", "[I", true)
  | 28 => ("BikeTownModel", "dayTaken", "[I", true)
  | 29 => ("BikeTownModel", "want", "[I", true)
  | 30 => ("BikeTownModel", "gains", "[I", true)
  | 31 => ("BikeTownModel", "sites", "I", false)
  | 32 => ("BikeTownModel", "siteX", "[I", true)
  | 33 => ("BikeTownModel", "siteY", "[I", true)
  | 34 => ("BikeTownModel", "wishes", "I", false)
  | 35 => ("BikeTownModel", "wishX", "[I", true)
  | 36 => ("BikeTownModel", "wishY", "[I", true)
  | 37 => ("BikeTownModel", "wishMany", "[I", true)
  | 38 => ("BikeTownModel", "tests", "I", false)
  | 39 => ("BikeTownModel", "score", "[I", true)
  | 40 => ("BikeTownModel", "isFaulty", "[Z", true)
  | 41 => ("BikeTownModel", "at", "I", false)
  | 42 => ("BikeTownModel", "values", "[I", true)
  | 43 => ("BikeTownModel", "signs", "[I", true)
  | 44 => ("BikeTownModel", "waiting", "[I", true)
  | 45 => ("BikeTownModel", "chosen", "[I", true)
  | 46 => ("BikeTownModel", "costs", "[I", true)
  | 47 => ("BikeTownModel", "isMet", "[Z", true)
  | 48 => ("BikeTownModel", "order", "[I", true)
  | _ => ("BikeTownModel", "orderMany", "I", false)
def tyX12 : Nat → FieldType := fun k => match k with
  | 0 => .int
  | 1 => .array .int
  | 2 => .array .int
  | 3 => .int
  | 4 => .array .int
  | 5 => .array .int
  | 6 => .array .int
  | 7 => .int
  | 8 => .array .int
  | 9 => .int
  | 10 => .array .int
  | 11 => .array .int
  | 12 => .array .int
  | 13 => .array .int
  | 14 => .array .int
  | 15 => .array .int
  | 16 => .int
  | 17 => .int
  | 18 => .int
  | 19 => .array .int
  | 20 => .int
  | 21 => .array .int
  | 22 => .int
  | 23 => .array .int
  | 24 => .array .int
  | 25 => .array .boolean
  | 26 => .int
  | 27 => .array .int
  | 28 => .array .int
  | 29 => .array .int
  | 30 => .array .int
  | 31 => .int
  | 32 => .array .int
  | 33 => .array .int
  | 34 => .int
  | 35 => .array .int
  | 36 => .array .int
  | 37 => .array .int
  | 38 => .int
  | 39 => .array .int
  | 40 => .array .boolean
  | 41 => .int
  | 42 => .array .int
  | 43 => .array .int
  | 44 => .array .int
  | 45 => .array .int
  | 46 => .array .int
  | 47 => .array .boolean
  | 48 => .array .int
  | _ => .int
abbrev wsX120 : List Cond := u_ws RX12 TX12 50
theorem nmX12 : ∀ a, a < 50 → ∀ b, b < 50 → a ≠ b → (TX12 a).2.1 ≠ (TX12 b).2.1 := by decide +kernel
theorem tyX12_ok : ∀ k, k < 50 → parseFieldDescriptor (TX12 k).2.2.1 = some (tyX12 k) := by decide +kernel
abbrev cX12_init : ByteArray := prog_14_method_1_code
def yX12_init : MethodName := ⟨RX12, "<init>", "()V"⟩
abbrev cX12_in : ByteArray := prog_14_method_3_code
def yX12_in : MethodName := ⟨RX12, "in", "(III)Z"⟩
abbrev cX12_begins : ByteArray := prog_14_method_4_code
def yX12_begins : MethodName := ⟨RX12, "begins", "()V"⟩
abbrev cX12_tells : ByteArray := prog_14_method_5_code
def yX12_tells : MethodName := ⟨RX12, "tells", "(I)V"⟩
abbrev cX12_logs : ByteArray := prog_14_method_6_code
def yX12_logs : MethodName := ⟨RX12, "logs", "(IIII)V"⟩
abbrev cX12_isPost : ByteArray := prog_14_method_7_code
def yX12_isPost : MethodName := ⟨RX12, "isPost", "(I)Z"⟩
abbrev cX12_isBike : ByteArray := prog_14_method_8_code
def yX12_isBike : MethodName := ⟨RX12, "isBike", "(I)Z"⟩
abbrev cX12_isBegun : ByteArray := prog_14_method_9_code
def yX12_isBegun : MethodName := ⟨RX12, "isBegun", "()Z"⟩
abbrev cX12_post : ByteArray := prog_14_method_10_code
def yX12_post : MethodName := ⟨RX12, "post", "(III)I"⟩
abbrev cX12_there : ByteArray := prog_14_method_11_code
def yX12_there : MethodName := ⟨RX12, "there", "(I)I"⟩
abbrev cX12_good : ByteArray := prog_14_method_12_code
def yX12_good : MethodName := ⟨RX12, "good", "(I)I"⟩
abbrev cX12_free : ByteArray := prog_14_method_13_code
def yX12_free : MethodName := ⟨RX12, "free", "(I)I"⟩
abbrev cX12_bike : ByteArray := prog_14_method_14_code
def yX12_bike : MethodName := ⟨RX12, "bike", "(I)I"⟩
abbrev cX12_kind : ByteArray := prog_14_method_15_code
def yX12_kind : MethodName := ⟨RX12, "kind", "(III)I"⟩
abbrev cX12_rider : ByteArray := prog_14_method_16_code
def yX12_rider : MethodName := ⟨RX12, "rider", "(IIII)I"⟩
abbrev cX12_shop : ByteArray := prog_14_method_17_code
def yX12_shop : MethodName := ⟨RX12, "shop", "(II)I"⟩
abbrev cX12_can : ByteArray := prog_14_method_18_code
def yX12_can : MethodName := ⟨RX12, "can", "(III)Z"⟩
abbrev cX12_does : ByteArray := prog_14_method_19_code
def yX12_does : MethodName := ⟨RX12, "does", "(III)V"⟩
abbrev cX12_byHand : ByteArray := prog_14_method_20_code
def yX12_byHand : MethodName := ⟨RX12, "byHand", "(III)V"⟩
abbrev cX12_handled : ByteArray := prog_14_method_21_code
def yX12_handled : MethodName := ⟨RX12, "handled", "(III)I"⟩
abbrev cX12_price : ByteArray := prog_14_method_22_code
def yX12_price : MethodName := ⟨RX12, "price", "(II)I"⟩
abbrev cX12_open : ByteArray := prog_14_method_23_code
def yX12_open : MethodName := ⟨RX12, "open", "(IZ)I"⟩
abbrev cX12_faulty : ByteArray := prog_14_method_24_code
def yX12_faulty : MethodName := ⟨RX12, "faulty", "(I)I"⟩
abbrev cX12_steal : ByteArray := prog_14_method_25_code
def yX12_steal : MethodName := ⟨RX12, "steal", "(I)I"⟩
abbrev cX12_find : ByteArray := prog_14_method_26_code
def yX12_find : MethodName := ⟨RX12, "find", "(II)I"⟩
abbrev cX12_stop : ByteArray := prog_14_method_27_code
def yX12_stop : MethodName := ⟨RX12, "stop", "(II)I"⟩
abbrev cX12_say : ByteArray := prog_14_method_28_code
def yX12_say : MethodName := ⟨RX12, "say", "(I)I"⟩
abbrev cX12_hush : ByteArray := prog_14_method_29_code
def yX12_hush : MethodName := ⟨RX12, "hush", "()I"⟩
abbrev cX12_faultOf : ByteArray := prog_14_method_30_code
def yX12_faultOf : MethodName := ⟨RX12, "faultOf", "()I"⟩
abbrev cX12_behind : ByteArray := prog_14_method_31_code
def yX12_behind : MethodName := ⟨RX12, "behind", "(II)I"⟩
abbrev cX12_fault : ByteArray := prog_14_method_32_code
def yX12_fault : MethodName := ⟨RX12, "fault", "()I"⟩
abbrev cX12_rule : ByteArray := prog_14_method_33_code
def yX12_rule : MethodName := ⟨RX12, "rule", "()I"⟩
abbrev cX12_off : ByteArray := prog_14_method_34_code
def yX12_off : MethodName := ⟨RX12, "off", "(IZ)I"⟩
abbrev cX12_symbol : ByteArray := prog_14_method_35_code
def yX12_symbol : MethodName := ⟨RX12, "symbol", "(I)I"⟩
abbrev cX12_sum : ByteArray := prog_14_method_36_code
def yX12_sum : MethodName := ⟨RX12, "sum", "(II)I"⟩
abbrev cX12_isSo : ByteArray := prog_14_method_37_code
def yX12_isSo : MethodName := ⟨RX12, "isSo", "(II)Z"⟩
abbrev cX12_joins : ByteArray := prog_14_method_38_code
def yX12_joins : MethodName := ⟨RX12, "joins", "(III)I"⟩
abbrev cX12_turned : ByteArray := prog_14_method_39_code
def yX12_turned : MethodName := ⟨RX12, "turned", "(II)I"⟩
abbrev cX12_acts : ByteArray := prog_14_method_40_code
def yX12_acts : MethodName := ⟨RX12, "acts", "(II)V"⟩
abbrev cX12_size : ByteArray := prog_14_method_41_code
def yX12_size : MethodName := ⟨RX12, "size", "(I)I"⟩
abbrev cX12_wayOf : ByteArray := prog_14_method_42_code
def yX12_wayOf : MethodName := ⟨RX12, "wayOf", "(II)I"⟩
abbrev cX12_rides : ByteArray := prog_14_method_43_code
def yX12_rides : MethodName := ⟨RX12, "rides", "(I)V"⟩
abbrev cX12_pick : ByteArray := prog_14_method_44_code
def yX12_pick : MethodName := ⟨RX12, "pick", "(I)I"⟩
abbrev cX12_stops : ByteArray := prog_14_method_45_code
def yX12_stops : MethodName := ⟨RX12, "stops", "()V"⟩
abbrev cX12_drives : ByteArray := prog_14_method_46_code
def yX12_drives : MethodName := ⟨RX12, "drives", "()V"⟩
abbrev cX12_loses : ByteArray := prog_14_method_47_code
def yX12_loses : MethodName := ⟨RX12, "loses", "(II)V"⟩
abbrev cX12_comes : ByteArray := prog_14_method_48_code
def yX12_comes : MethodName := ⟨RX12, "comes", "(I)V"⟩
abbrev cX12_goes : ByteArray := prog_14_method_49_code
def yX12_goes : MethodName := ⟨RX12, "goes", "()V"⟩
abbrev cX12_step : ByteArray := prog_14_method_50_code
def yX12_step : MethodName := ⟨RX12, "step", "(I)I"⟩
abbrev cX12_endDay : ByteArray := prog_14_method_51_code
def yX12_endDay : MethodName := ⟨RX12, "endDay", "(I)I"⟩
abbrev cX12_bikeAt : ByteArray := prog_14_method_52_code
def yX12_bikeAt : MethodName := ⟨RX12, "bikeAt", "(II)I"⟩
abbrev cX12_postAt : ByteArray := prog_14_method_53_code
def yX12_postAt : MethodName := ⟨RX12, "postAt", "(II)I"⟩
abbrev cX12_riderAt : ByteArray := prog_14_method_54_code
def yX12_riderAt : MethodName := ⟨RX12, "riderAt", "(II)I"⟩
abbrev cX12_van : ByteArray := prog_14_method_55_code
def yX12_van : MethodName := ⟨RX12, "van", "(I)I"⟩
abbrev cX12_way : ByteArray := prog_14_method_56_code
def yX12_way : MethodName := ⟨RX12, "way", "(II)I"⟩
abbrev cX12_log : ByteArray := prog_14_method_57_code
def yX12_log : MethodName := ⟨RX12, "log", "(II)I"⟩
abbrev cX12_asOf : ByteArray := prog_14_method_58_code
def yX12_asOf : MethodName := ⟨RX12, "asOf", "(II)I"⟩
abbrev cX12_ends : ByteArray := prog_14_method_59_code
def yX12_ends : MethodName := ⟨RX12, "ends", "(III)I"⟩
abbrev cX12_forecast : ByteArray := prog_14_method_60_code
def yX12_forecast : MethodName := ⟨RX12, "forecast", "(IIII)I"⟩
abbrev cX12_whatIf : ByteArray := prog_14_method_61_code
def yX12_whatIf : MethodName := ⟨RX12, "whatIf", "(II)I"⟩
abbrev cX12_want : ByteArray := prog_14_method_62_code
def yX12_want : MethodName := ⟨RX12, "want", "(II)I"⟩
abbrev cX12_roundWay : ByteArray := prog_14_method_63_code
def yX12_roundWay : MethodName := ⟨RX12, "roundWay", "(II)I"⟩
abbrev cX12_rounds : ByteArray := prog_14_method_64_code
def yX12_rounds : MethodName := ⟨RX12, "rounds", "()I"⟩
abbrev cX12_round : ByteArray := prog_14_method_65_code
def yX12_round : MethodName := ⟨RX12, "round", "()I"⟩
abbrev cX12_roundAt : ByteArray := prog_14_method_66_code
def yX12_roundAt : MethodName := ⟨RX12, "roundAt", "(I)I"⟩
abbrev cX12_isLevel : ByteArray := prog_14_method_67_code
def yX12_isLevel : MethodName := ⟨RX12, "isLevel", "(I)Z"⟩
abbrev cX12_gain : ByteArray := prog_14_method_68_code
def yX12_gain : MethodName := ⟨RX12, "gain", "(IIII)I"⟩
abbrev cX12_answer : ByteArray := prog_14_method_69_code
def yX12_answer : MethodName := ⟨RX12, "answer", "(III)I"⟩
abbrev cX12_isStill : ByteArray := prog_14_method_70_code
def yX12_isStill : MethodName := ⟨RX12, "isStill", "(II)Z"⟩
abbrev cX12_still : ByteArray := prog_14_method_71_code
def yX12_still : MethodName := ⟨RX12, "still", "()I"⟩
abbrev cX12_stillAt : ByteArray := prog_14_method_72_code
def yX12_stillAt : MethodName := ⟨RX12, "stillAt", "(I)I"⟩
abbrev cX12_answers : ByteArray := prog_14_method_73_code
def yX12_answers : MethodName := ⟨RX12, "answers", "(II)I"⟩
abbrev cX12_site : ByteArray := prog_14_method_74_code
def yX12_site : MethodName := ⟨RX12, "site", "(II)I"⟩
abbrev cX12_wish : ByteArray := prog_14_method_75_code
def yX12_wish : MethodName := ⟨RX12, "wish", "(III)I"⟩
abbrev cX12_sites : ByteArray := prog_14_method_76_code
def yX12_sites : MethodName := ⟨RX12, "sites", "(II)I"⟩
abbrev cX12_nearest : ByteArray := prog_14_method_77_code
def yX12_nearest : MethodName := ⟨RX12, "nearest", "(II)I"⟩
abbrev cX12_test : ByteArray := prog_14_method_78_code
def yX12_test : MethodName := ⟨RX12, "test", "(IZ)I"⟩
abbrev cX12_rows : ByteArray := prog_14_method_79_code
def yX12_rows : MethodName := ⟨RX12, "rows", "(IZ)I"⟩
abbrev cX12_line : ByteArray := prog_14_method_80_code
def yX12_line : MethodName := ⟨RX12, "line", "(II)I"⟩
abbrev cX12_count : ByteArray := prog_14_method_81_code
def yX12_count : MethodName := ⟨RX12, "count", "(I)I"⟩
abbrev cX12_digest : ByteArray := prog_14_method_82_code
def yX12_digest : MethodName := ⟨RX12, "digest", "()J"⟩
def RJ6 : String := "java/lang/Integer"
def TJ6 : u_T := fun k => match k with
  | _ => ("", "", "", false)
def tyJ6 : Nat → FieldType := fun k => match k with
  | _ => .int
abbrev wsJ60 : List Cond := u_ws RJ6 TJ6 0
theorem nmJ6 : ∀ a, a < 0 → ∀ b, b < 0 → a ≠ b → (TJ6 a).2.1 ≠ (TJ6 b).2.1 := by decide +kernel
theorem tyJ6_ok : ∀ k, k < 0 → parseFieldDescriptor (TJ6 k).2.2.1 = some (tyJ6 k) := by decide +kernel
abbrev cJ6_bitCount_0f7a4 : ByteArray := prog_15_method_49_code
def yJ6_bitCount_0f7a4 : MethodName := ⟨RJ6, "bitCount", "(I)I"⟩
def RJ9 : String := "java/lang/Math"
def TJ9 : u_T := fun k => match k with
  | _ => ("", "", "", false)
def tyJ9 : Nat → FieldType := fun k => match k with
  | _ => .int
abbrev wsJ90 : List Cond := u_ws RJ9 TJ9 0
theorem nmJ9 : ∀ a, a < 0 → ∀ b, b < 0 → a ≠ b → (TJ9 a).2.1 ≠ (TJ9 b).2.1 := by decide +kernel
theorem tyJ9_ok : ∀ k, k < 0 → parseFieldDescriptor (TJ9 k).2.2.1 = some (tyJ9 k) := by decide +kernel
abbrev cJ9_abs_0f7a4 : ByteArray := prog_16_method_59_code
def yJ9_abs_0f7a4 : MethodName := ⟨RJ9, "abs", "(I)I"⟩
abbrev cJ9_max_7cf53 : ByteArray := prog_16_method_65_code
def yJ9_max_7cf53 : MethodName := ⟨RJ9, "max", "(II)I"⟩
abbrev cJ9_min_7cf53 : ByteArray := prog_16_method_69_code
def yJ9_min_7cf53 : MethodName := ⟨RJ9, "min", "(II)I"⟩
def RJ7 : String := "java/util/Arrays"
def TJ7 : u_T := fun k => match k with
  | _ => ("", "", "", false)
def tyJ7 : Nat → FieldType := fun k => match k with
  | _ => .int
abbrev wsJ70 : List Cond := u_ws RJ7 TJ7 0
theorem nmJ7 : ∀ a, a < 0 → ∀ b, b < 0 → a ≠ b → (TJ7 a).2.1 ≠ (TJ7 b).2.1 := by decide +kernel
theorem tyJ7_ok : ∀ k, k < 0 → parseFieldDescriptor (TJ7 k).2.2.1 = some (tyJ7 k) := by decide +kernel
abbrev cJ7_fill_53178 : ByteArray := prog_17_method_103_code
def yJ7_fill_53178 : MethodName := ⟨RJ7, "fill", "([II)V"⟩
def RL : String := "BikeTownLaw"
abbrev cL_law : ByteArray := code
def yL_law : MethodName := ⟨RL, "law", "([I)Z"⟩
abbrev classes : List vw_C := [(RX0, TX0, 16), (RX1, TX1, 3), (RX2, TX2, 9), (RX3, TX3, 5), (RX4, TX4, 2), (RX5, TX5, 5), (RX6, TX6, 11), (RX7, TX7, 8), (RX8, TX8, 15), (RX9, TX9, 3), (RX10, TX10, 7), (RX11, TX11, 10), (RX12, TX12, 50)]
