section
-- ===== PART A: goes FIRST, ahead of the names: the tables' words, and 'selects' of the private methods out of them =====
/-- a private method of a class that the tables say can be made, by its rows of tables_1 -/
def lw_okq (q : MethodName × Nat) : Prop := (q.1.cls ≠ "java/lang/invoke/MethodHandle" ∧ q.1.cls ≠ "java/lang/invoke/VarHandle") ∧ Cond.instantiable q.1.cls q.2 ∈ tables_1 ∧ Cond.privateMethod q.1 ∈ tables_1 ∧ Cond.instanceMethod q.1 ∈ tables_1
theorem lw_p0 : lw_okq (⟨"PlateHire$Roster", "placeOfDriver", "(I)I"⟩, 10) := ⟨⟨by decide +kernel, by decide +kernel⟩, List.mem_of_getElem? (i := 56) (by decide +kernel), List.mem_of_getElem? (i := 378) (by decide +kernel), List.mem_of_getElem? (i := 379) (by decide +kernel)⟩
theorem lw_p1 : lw_okq (⟨"PlateHire$Roster", "listFreePlaces", "(I)V"⟩, 10) := ⟨⟨by decide +kernel, by decide +kernel⟩, List.mem_of_getElem? (i := 56) (by decide +kernel), List.mem_of_getElem? (i := 405) (by decide +kernel), List.mem_of_getElem? (i := 406) (by decide +kernel)⟩
theorem lw_p2 : lw_okq (⟨"PlateHire$Roster", "listFreeDrivers", "()V"⟩, 10) := ⟨⟨by decide +kernel, by decide +kernel⟩, List.mem_of_getElem? (i := 56) (by decide +kernel), List.mem_of_getElem? (i := 409) (by decide +kernel), List.mem_of_getElem? (i := 410) (by decide +kernel)⟩
theorem lw_p3 : lw_okq (⟨"PlateHire$Roster", "fillPlace", "(I)I"⟩, 10) := ⟨⟨by decide +kernel, by decide +kernel⟩, List.mem_of_getElem? (i := 56) (by decide +kernel), List.mem_of_getElem? (i := 413) (by decide +kernel), List.mem_of_getElem? (i := 414) (by decide +kernel)⟩
theorem lw_p4 : lw_okq (⟨"PlateHire$Roster", "mostWorths", "()I"⟩, 10) := ⟨⟨by decide +kernel, by decide +kernel⟩, List.mem_of_getElem? (i := 56) (by decide +kernel), List.mem_of_getElem? (i := 417) (by decide +kernel), List.mem_of_getElem? (i := 418) (by decide +kernel)⟩
theorem lw_p5 : lw_okq (⟨"PlateHire$Tape", "readClauses", "()Z"⟩, 4) := ⟨⟨by decide +kernel, by decide +kernel⟩, List.mem_of_getElem? (i := 98) (by decide +kernel), List.mem_of_getElem? (i := 440) (by decide +kernel), List.mem_of_getElem? (i := 441) (by decide +kernel)⟩
theorem lw_p6 : lw_okq (⟨"PlateHire$Tape", "readClause", "()Z"⟩, 4) := ⟨⟨by decide +kernel, by decide +kernel⟩, List.mem_of_getElem? (i := 98) (by decide +kernel), List.mem_of_getElem? (i := 444) (by decide +kernel), List.mem_of_getElem? (i := 445) (by decide +kernel)⟩
theorem lw_p7 : lw_okq (⟨"PlateHire$Tape", "readWord", "()I"⟩, 4) := ⟨⟨by decide +kernel, by decide +kernel⟩, List.mem_of_getElem? (i := 98) (by decide +kernel), List.mem_of_getElem? (i := 448) (by decide +kernel), List.mem_of_getElem? (i := 449) (by decide +kernel)⟩
theorem lw_p8 : lw_okq (⟨"PlateHire$Tape", "sameBytes", "(Ljava/lang/String;)I"⟩, 4) := ⟨⟨by decide +kernel, by decide +kernel⟩, List.mem_of_getElem? (i := 98) (by decide +kernel), List.mem_of_getElem? (i := 461) (by decide +kernel), List.mem_of_getElem? (i := 462) (by decide +kernel)⟩
theorem lw_p9 : lw_okq (⟨"PlateHire$Tape", "readDigit", "(I)I"⟩, 4) := ⟨⟨by decide +kernel, by decide +kernel⟩, List.mem_of_getElem? (i := 98) (by decide +kernel), List.mem_of_getElem? (i := 514) (by decide +kernel), List.mem_of_getElem? (i := 515) (by decide +kernel)⟩
theorem lw_p10 : lw_okq (⟨"PlateHire$Tape", "readByte", "(C)Z"⟩, 4) := ⟨⟨by decide +kernel, by decide +kernel⟩, List.mem_of_getElem? (i := 98) (by decide +kernel), List.mem_of_getElem? (i := 519) (by decide +kernel), List.mem_of_getElem? (i := 520) (by decide +kernel)⟩
theorem lw_p11 : lw_okq (⟨"PlateHire$Tape", "readNumber", "()I"⟩, 4) := ⟨⟨by decide +kernel, by decide +kernel⟩, List.mem_of_getElem? (i := 98) (by decide +kernel), List.mem_of_getElem? (i := 523) (by decide +kernel), List.mem_of_getElem? (i := 524) (by decide +kernel)⟩
theorem lw_p12 : lw_okq (⟨"PlateHire$Meter", "timesDue", "(IIIII)I"⟩, 4) := ⟨⟨by decide +kernel, by decide +kernel⟩, List.mem_of_getElem? (i := 104) (by decide +kernel), List.mem_of_getElem? (i := 549) (by decide +kernel), List.mem_of_getElem? (i := 550) (by decide +kernel)⟩
theorem lw_p13 : lw_okq (⟨"PlateHire$City", "passHour", "(I)V"⟩, 18) := ⟨⟨by decide +kernel, by decide +kernel⟩, List.mem_of_getElem? (i := 166) (by decide +kernel), List.mem_of_getElem? (i := 588) (by decide +kernel), List.mem_of_getElem? (i := 589) (by decide +kernel)⟩
theorem lw_p14 : lw_okq (⟨"PlateHire$City", "serve", "(III)Z"⟩, 18) := ⟨⟨by decide +kernel, by decide +kernel⟩, List.mem_of_getElem? (i := 166) (by decide +kernel), List.mem_of_getElem? (i := 594) (by decide +kernel), List.mem_of_getElem? (i := 595) (by decide +kernel)⟩
theorem lw_p15 : lw_okq (⟨"PlateHire$City", "longestWait", "(I)I"⟩, 18) := ⟨⟨by decide +kernel, by decide +kernel⟩, List.mem_of_getElem? (i := 166) (by decide +kernel), List.mem_of_getElem? (i := 598) (by decide +kernel), List.mem_of_getElem? (i := 599) (by decide +kernel)⟩
def lw_privs_1 : List (MethodName × Nat) := [(⟨"PlateHire$Roster", "placeOfDriver", "(I)I"⟩, 10), (⟨"PlateHire$Roster", "listFreePlaces", "(I)V"⟩, 10), (⟨"PlateHire$Roster", "listFreeDrivers", "()V"⟩, 10), (⟨"PlateHire$Roster", "fillPlace", "(I)I"⟩, 10), (⟨"PlateHire$Roster", "mostWorths", "()I"⟩, 10), (⟨"PlateHire$Tape", "readClauses", "()Z"⟩, 4), (⟨"PlateHire$Tape", "readClause", "()Z"⟩, 4), (⟨"PlateHire$Tape", "readWord", "()I"⟩, 4), (⟨"PlateHire$Tape", "sameBytes", "(Ljava/lang/String;)I"⟩, 4), (⟨"PlateHire$Tape", "readDigit", "(I)I"⟩, 4), (⟨"PlateHire$Tape", "readByte", "(C)Z"⟩, 4), (⟨"PlateHire$Tape", "readNumber", "()I"⟩, 4), (⟨"PlateHire$Meter", "timesDue", "(IIIII)I"⟩, 4), (⟨"PlateHire$City", "passHour", "(I)V"⟩, 18), (⟨"PlateHire$City", "serve", "(III)Z"⟩, 18), (⟨"PlateHire$City", "longestWait", "(I)I"⟩, 18)]
theorem lw_r1 : ∀ q ∈ lw_privs_1, lw_okq q := List.forall_mem_cons.mpr ⟨lw_p0, List.forall_mem_cons.mpr ⟨lw_p1, List.forall_mem_cons.mpr ⟨lw_p2, List.forall_mem_cons.mpr ⟨lw_p3, List.forall_mem_cons.mpr ⟨lw_p4, List.forall_mem_cons.mpr ⟨lw_p5, List.forall_mem_cons.mpr ⟨lw_p6, List.forall_mem_cons.mpr ⟨lw_p7, List.forall_mem_cons.mpr ⟨lw_p8, List.forall_mem_cons.mpr ⟨lw_p9, List.forall_mem_cons.mpr ⟨lw_p10, List.forall_mem_cons.mpr ⟨lw_p11, List.forall_mem_cons.mpr ⟨lw_p12, List.forall_mem_cons.mpr ⟨lw_p13, List.forall_mem_cons.mpr ⟨lw_p14, List.forall_mem_cons.mpr ⟨lw_p15, fun _ h => absurd h List.not_mem_nil⟩⟩⟩⟩⟩⟩⟩⟩⟩⟩⟩⟩⟩⟩⟩⟩
theorem lw_p16 : lw_okq (⟨"PlateHire$City", "roam", "(I)V"⟩, 18) := ⟨⟨by decide +kernel, by decide +kernel⟩, List.mem_of_getElem? (i := 166) (by decide +kernel), List.mem_of_getElem? (i := 612) (by decide +kernel), List.mem_of_getElem? (i := 613) (by decide +kernel)⟩
theorem lw_p17 : lw_okq (⟨"PlateHire$City", "waitingIn", "(I)I"⟩, 18) := ⟨⟨by decide +kernel, by decide +kernel⟩, List.mem_of_getElem? (i := 166) (by decide +kernel), List.mem_of_getElem? (i := 616) (by decide +kernel), List.mem_of_getElem? (i := 617) (by decide +kernel)⟩
theorem lw_p18 : lw_okq (⟨"PlateHire$City", "tire", "(I)V"⟩, 18) := ⟨⟨by decide +kernel, by decide +kernel⟩, List.mem_of_getElem? (i := 166) (by decide +kernel), List.mem_of_getElem? (i := 621) (by decide +kernel), List.mem_of_getElem? (i := 622) (by decide +kernel)⟩
theorem lw_p19 : lw_okq (⟨"PlateHire$Rides", "fits", "(III)Z"⟩, 2) := ⟨⟨by decide +kernel, by decide +kernel⟩, List.mem_of_getElem? (i := 152) (by decide +kernel), List.mem_of_getElem? (i := 653) (by decide +kernel), List.mem_of_getElem? (i := 654) (by decide +kernel)⟩
theorem lw_p20 : lw_okq (⟨"PlateHire", "isFailing", "(III)Z"⟩, 11) := ⟨⟨by decide +kernel, by decide +kernel⟩, List.mem_of_getElem? (i := 21) (by decide +kernel), List.mem_of_getElem? (i := 706) (by decide +kernel), List.mem_of_getElem? (i := 707) (by decide +kernel)⟩
theorem lw_p21 : lw_okq (⟨"PlateHire$Loans", "rankDebt", "(II)I"⟩, 5) := ⟨⟨by decide +kernel, by decide +kernel⟩, List.mem_of_getElem? (i := 237) (by decide +kernel), List.mem_of_getElem? (i := 727) (by decide +kernel), List.mem_of_getElem? (i := 728) (by decide +kernel)⟩
theorem lw_p22 : lw_okq (⟨"PlateHire$Loans", "isOf", "(III)Z"⟩, 5) := ⟨⟨by decide +kernel, by decide +kernel⟩, List.mem_of_getElem? (i := 237) (by decide +kernel), List.mem_of_getElem? (i := 731) (by decide +kernel), List.mem_of_getElem? (i := 732) (by decide +kernel)⟩
theorem lw_p23 : lw_okq (⟨"PlateHire$Loans", "payRank", "(II)V"⟩, 5) := ⟨⟨by decide +kernel, by decide +kernel⟩, List.mem_of_getElem? (i := 237) (by decide +kernel), List.mem_of_getElem? (i := 735) (by decide +kernel), List.mem_of_getElem? (i := 736) (by decide +kernel)⟩
theorem lw_p24 : lw_okq (⟨"PlateHire$Loans", "shareRank", "(IIII)V"⟩, 5) := ⟨⟨by decide +kernel, by decide +kernel⟩, List.mem_of_getElem? (i := 237) (by decide +kernel), List.mem_of_getElem? (i := 739) (by decide +kernel), List.mem_of_getElem? (i := 740) (by decide +kernel)⟩
theorem lw_p25 : lw_okq (⟨"PlateHire$Fleets", "placeAll", "(I)V"⟩, 6) := ⟨⟨by decide +kernel, by decide +kernel⟩, List.mem_of_getElem? (i := 262) (by decide +kernel), List.mem_of_getElem? (i := 780) (by decide +kernel), List.mem_of_getElem? (i := 781) (by decide +kernel)⟩
theorem lw_p26 : lw_okq (⟨"PlateHire$Fleets", "rateHour", "(I)V"⟩, 6) := ⟨⟨by decide +kernel, by decide +kernel⟩, List.mem_of_getElem? (i := 262) (by decide +kernel), List.mem_of_getElem? (i := 785) (by decide +kernel), List.mem_of_getElem? (i := 786) (by decide +kernel)⟩
theorem lw_p27 : lw_okq (⟨"PlateHire$Fleets", "takersOf", "(I)I"⟩, 6) := ⟨⟨by decide +kernel, by decide +kernel⟩, List.mem_of_getElem? (i := 262) (by decide +kernel), List.mem_of_getElem? (i := 796) (by decide +kernel), List.mem_of_getElem? (i := 797) (by decide +kernel)⟩
theorem lw_p28 : lw_okq (⟨"PlateHire$Fleets", "placeHour", "(II)V"⟩, 6) := ⟨⟨by decide +kernel, by decide +kernel⟩, List.mem_of_getElem? (i := 262) (by decide +kernel), List.mem_of_getElem? (i := 800) (by decide +kernel), List.mem_of_getElem? (i := 801) (by decide +kernel)⟩
theorem lw_p29 : lw_okq (⟨"PlateHire$Fleets", "everyFleet", "()I"⟩, 6) := ⟨⟨by decide +kernel, by decide +kernel⟩, List.mem_of_getElem? (i := 262) (by decide +kernel), List.mem_of_getElem? (i := 804) (by decide +kernel), List.mem_of_getElem? (i := 805) (by decide +kernel)⟩
theorem lw_p30 : lw_okq (⟨"PlateHireModel", "isPlate", "(I)Z"⟩, 52) := ⟨⟨by decide +kernel, by decide +kernel⟩, List.mem_of_getElem? (i := 851) (by decide +kernel), List.mem_of_getElem? (i := 1033) (by decide +kernel), List.mem_of_getElem? (i := 1034) (by decide +kernel)⟩
theorem lw_p31 : lw_okq (⟨"PlateHireModel", "isDriver", "(I)Z"⟩, 52) := ⟨⟨by decide +kernel, by decide +kernel⟩, List.mem_of_getElem? (i := 851) (by decide +kernel), List.mem_of_getElem? (i := 1037) (by decide +kernel), List.mem_of_getElem? (i := 1038) (by decide +kernel)⟩
def lw_privs_2 : List (MethodName × Nat) := [(⟨"PlateHire$City", "roam", "(I)V"⟩, 18), (⟨"PlateHire$City", "waitingIn", "(I)I"⟩, 18), (⟨"PlateHire$City", "tire", "(I)V"⟩, 18), (⟨"PlateHire$Rides", "fits", "(III)Z"⟩, 2), (⟨"PlateHire", "isFailing", "(III)Z"⟩, 11), (⟨"PlateHire$Loans", "rankDebt", "(II)I"⟩, 5), (⟨"PlateHire$Loans", "isOf", "(III)Z"⟩, 5), (⟨"PlateHire$Loans", "payRank", "(II)V"⟩, 5), (⟨"PlateHire$Loans", "shareRank", "(IIII)V"⟩, 5), (⟨"PlateHire$Fleets", "placeAll", "(I)V"⟩, 6), (⟨"PlateHire$Fleets", "rateHour", "(I)V"⟩, 6), (⟨"PlateHire$Fleets", "takersOf", "(I)I"⟩, 6), (⟨"PlateHire$Fleets", "placeHour", "(II)V"⟩, 6), (⟨"PlateHire$Fleets", "everyFleet", "()I"⟩, 6), (⟨"PlateHireModel", "isPlate", "(I)Z"⟩, 52), (⟨"PlateHireModel", "isDriver", "(I)Z"⟩, 52)]
theorem lw_r2 : ∀ q ∈ lw_privs_2, lw_okq q := List.forall_mem_cons.mpr ⟨lw_p16, List.forall_mem_cons.mpr ⟨lw_p17, List.forall_mem_cons.mpr ⟨lw_p18, List.forall_mem_cons.mpr ⟨lw_p19, List.forall_mem_cons.mpr ⟨lw_p20, List.forall_mem_cons.mpr ⟨lw_p21, List.forall_mem_cons.mpr ⟨lw_p22, List.forall_mem_cons.mpr ⟨lw_p23, List.forall_mem_cons.mpr ⟨lw_p24, List.forall_mem_cons.mpr ⟨lw_p25, List.forall_mem_cons.mpr ⟨lw_p26, List.forall_mem_cons.mpr ⟨lw_p27, List.forall_mem_cons.mpr ⟨lw_p28, List.forall_mem_cons.mpr ⟨lw_p29, List.forall_mem_cons.mpr ⟨lw_p30, List.forall_mem_cons.mpr ⟨lw_p31, fun _ h => absurd h List.not_mem_nil⟩⟩⟩⟩⟩⟩⟩⟩⟩⟩⟩⟩⟩⟩⟩⟩
theorem lw_p32 : lw_okq (⟨"PlateHireModel", "driverOf", "(II)I"⟩, 52) := ⟨⟨by decide +kernel, by decide +kernel⟩, List.mem_of_getElem? (i := 851) (by decide +kernel), List.mem_of_getElem? (i := 1041) (by decide +kernel), List.mem_of_getElem? (i := 1042) (by decide +kernel)⟩
theorem lw_p33 : lw_okq (⟨"PlateHireModel", "gives", "(III)V"⟩, 52) := ⟨⟨by decide +kernel, by decide +kernel⟩, List.mem_of_getElem? (i := 851) (by decide +kernel), List.mem_of_getElem? (i := 1045) (by decide +kernel), List.mem_of_getElem? (i := 1046) (by decide +kernel)⟩
theorem lw_p34 : lw_okq (⟨"PlateHireModel", "frees", "(I)V"⟩, 52) := ⟨⟨by decide +kernel, by decide +kernel⟩, List.mem_of_getElem? (i := 851) (by decide +kernel), List.mem_of_getElem? (i := 1049) (by decide +kernel), List.mem_of_getElem? (i := 1050) (by decide +kernel)⟩
theorem lw_p35 : lw_okq (⟨"PlateHireModel", "drives", "(I)Z"⟩, 52) := ⟨⟨by decide +kernel, by decide +kernel⟩, List.mem_of_getElem? (i := 851) (by decide +kernel), List.mem_of_getElem? (i := 1065) (by decide +kernel), List.mem_of_getElem? (i := 1066) (by decide +kernel)⟩
theorem lw_p36 : lw_okq (⟨"PlateHireModel", "worthOf", "(II)I"⟩, 52) := ⟨⟨by decide +kernel, by decide +kernel⟩, List.mem_of_getElem? (i := 851) (by decide +kernel), List.mem_of_getElem? (i := 1069) (by decide +kernel), List.mem_of_getElem? (i := 1070) (by decide +kernel)⟩
theorem lw_p37 : lw_okq (⟨"PlateHireModel", "parses", "()I"⟩, 52) := ⟨⟨by decide +kernel, by decide +kernel⟩, List.mem_of_getElem? (i := 851) (by decide +kernel), List.mem_of_getElem? (i := 1083) (by decide +kernel), List.mem_of_getElem? (i := 1084) (by decide +kernel)⟩
theorem lw_p38 : lw_okq (⟨"PlateHireModel", "clause", "(I)Z"⟩, 52) := ⟨⟨by decide +kernel, by decide +kernel⟩, List.mem_of_getElem? (i := 851) (by decide +kernel), List.mem_of_getElem? (i := 1087) (by decide +kernel), List.mem_of_getElem? (i := 1088) (by decide +kernel)⟩
theorem lw_p39 : lw_okq (⟨"PlateHireModel", "word", "()I"⟩, 52) := ⟨⟨by decide +kernel, by decide +kernel⟩, List.mem_of_getElem? (i := 851) (by decide +kernel), List.mem_of_getElem? (i := 1091) (by decide +kernel), List.mem_of_getElem? (i := 1092) (by decide +kernel)⟩
theorem lw_p40 : lw_okq (⟨"PlateHireModel", "sign", "()I"⟩, 52) := ⟨⟨by decide +kernel, by decide +kernel⟩, List.mem_of_getElem? (i := 851) (by decide +kernel), List.mem_of_getElem? (i := 1098) (by decide +kernel), List.mem_of_getElem? (i := 1099) (by decide +kernel)⟩
theorem lw_p41 : lw_okq (⟨"PlateHireModel", "takes", "(I)Z"⟩, 52) := ⟨⟨by decide +kernel, by decide +kernel⟩, List.mem_of_getElem? (i := 851) (by decide +kernel), List.mem_of_getElem? (i := 1102) (by decide +kernel), List.mem_of_getElem? (i := 1103) (by decide +kernel)⟩
theorem lw_p42 : lw_okq (⟨"PlateHireModel", "fareOf", "(IIII)I"⟩, 52) := ⟨⟨by decide +kernel, by decide +kernel⟩, List.mem_of_getElem? (i := 851) (by decide +kernel), List.mem_of_getElem? (i := 1120) (by decide +kernel), List.mem_of_getElem? (i := 1121) (by decide +kernel)⟩
theorem lw_p43 : lw_okq (⟨"PlateHireModel", "mayStand", "(II)Z"⟩, 52) := ⟨⟨by decide +kernel, by decide +kernel⟩, List.mem_of_getElem? (i := 851) (by decide +kernel), List.mem_of_getElem? (i := 1134) (by decide +kernel), List.mem_of_getElem? (i := 1135) (by decide +kernel)⟩
theorem lw_p44 : lw_okq (⟨"PlateHireModel", "goesBy", "(Z)V"⟩, 52) := ⟨⟨by decide +kernel, by decide +kernel⟩, List.mem_of_getElem? (i := 851) (by decide +kernel), List.mem_of_getElem? (i := 1143) (by decide +kernel), List.mem_of_getElem? (i := 1144) (by decide +kernel)⟩
theorem lw_p45 : lw_okq (⟨"PlateHireModel", "runs", "(I)I"⟩, 52) := ⟨⟨by decide +kernel, by decide +kernel⟩, List.mem_of_getElem? (i := 851) (by decide +kernel), List.mem_of_getElem? (i := 1147) (by decide +kernel), List.mem_of_getElem? (i := 1148) (by decide +kernel)⟩
theorem lw_p46 : lw_okq (⟨"PlateHireModel", "waiting", "(I)I"⟩, 52) := ⟨⟨by decide +kernel, by decide +kernel⟩, List.mem_of_getElem? (i := 851) (by decide +kernel), List.mem_of_getElem? (i := 1153) (by decide +kernel), List.mem_of_getElem? (i := 1154) (by decide +kernel)⟩
theorem lw_p47 : lw_okq (⟨"PlateHireModel", "takesOne", "(IIZ)V"⟩, 52) := ⟨⟨by decide +kernel, by decide +kernel⟩, List.mem_of_getElem? (i := 851) (by decide +kernel), List.mem_of_getElem? (i := 1157) (by decide +kernel), List.mem_of_getElem? (i := 1158) (by decide +kernel)⟩
def lw_privs_3 : List (MethodName × Nat) := [(⟨"PlateHireModel", "driverOf", "(II)I"⟩, 52), (⟨"PlateHireModel", "gives", "(III)V"⟩, 52), (⟨"PlateHireModel", "frees", "(I)V"⟩, 52), (⟨"PlateHireModel", "drives", "(I)Z"⟩, 52), (⟨"PlateHireModel", "worthOf", "(II)I"⟩, 52), (⟨"PlateHireModel", "parses", "()I"⟩, 52), (⟨"PlateHireModel", "clause", "(I)Z"⟩, 52), (⟨"PlateHireModel", "word", "()I"⟩, 52), (⟨"PlateHireModel", "sign", "()I"⟩, 52), (⟨"PlateHireModel", "takes", "(I)Z"⟩, 52), (⟨"PlateHireModel", "fareOf", "(IIII)I"⟩, 52), (⟨"PlateHireModel", "mayStand", "(II)Z"⟩, 52), (⟨"PlateHireModel", "goesBy", "(Z)V"⟩, 52), (⟨"PlateHireModel", "runs", "(I)I"⟩, 52), (⟨"PlateHireModel", "waiting", "(I)I"⟩, 52), (⟨"PlateHireModel", "takesOne", "(IIZ)V"⟩, 52)]
theorem lw_r3 : ∀ q ∈ lw_privs_3, lw_okq q := List.forall_mem_cons.mpr ⟨lw_p32, List.forall_mem_cons.mpr ⟨lw_p33, List.forall_mem_cons.mpr ⟨lw_p34, List.forall_mem_cons.mpr ⟨lw_p35, List.forall_mem_cons.mpr ⟨lw_p36, List.forall_mem_cons.mpr ⟨lw_p37, List.forall_mem_cons.mpr ⟨lw_p38, List.forall_mem_cons.mpr ⟨lw_p39, List.forall_mem_cons.mpr ⟨lw_p40, List.forall_mem_cons.mpr ⟨lw_p41, List.forall_mem_cons.mpr ⟨lw_p42, List.forall_mem_cons.mpr ⟨lw_p43, List.forall_mem_cons.mpr ⟨lw_p44, List.forall_mem_cons.mpr ⟨lw_p45, List.forall_mem_cons.mpr ⟨lw_p46, List.forall_mem_cons.mpr ⟨lw_p47, fun _ h => absurd h List.not_mem_nil⟩⟩⟩⟩⟩⟩⟩⟩⟩⟩⟩⟩⟩⟩⟩⟩
theorem lw_p48 : lw_okq (⟨"PlateHireModel", "roams", "(I)V"⟩, 52) := ⟨⟨by decide +kernel, by decide +kernel⟩, List.mem_of_getElem? (i := 851) (by decide +kernel), List.mem_of_getElem? (i := 1161) (by decide +kernel), List.mem_of_getElem? (i := 1162) (by decide +kernel)⟩
theorem lw_p49 : lw_okq (⟨"PlateHireModel", "tookAll", "()I"⟩, 52) := ⟨⟨by decide +kernel, by decide +kernel⟩, List.mem_of_getElem? (i := 851) (by decide +kernel), List.mem_of_getElem? (i := 1170) (by decide +kernel), List.mem_of_getElem? (i := 1171) (by decide +kernel)⟩
theorem lw_p50 : lw_okq (⟨"PlateHireModel", "worth", "(III)I"⟩, 52) := ⟨⟨by decide +kernel, by decide +kernel⟩, List.mem_of_getElem? (i := 851) (by decide +kernel), List.mem_of_getElem? (i := 1190) (by decide +kernel), List.mem_of_getElem? (i := 1191) (by decide +kernel)⟩
theorem lw_p51 : lw_okq (⟨"PlateHireModel", "owed", "(I)I"⟩, 52) := ⟨⟨by decide +kernel, by decide +kernel⟩, List.mem_of_getElem? (i := 851) (by decide +kernel), List.mem_of_getElem? (i := 1208) (by decide +kernel), List.mem_of_getElem? (i := 1209) (by decide +kernel)⟩
theorem lw_p52 : lw_okq (⟨"PlateHireModel", "parts", "(II)V"⟩, 52) := ⟨⟨by decide +kernel, by decide +kernel⟩, List.mem_of_getElem? (i := 851) (by decide +kernel), List.mem_of_getElem? (i := 1221) (by decide +kernel), List.mem_of_getElem? (i := 1222) (by decide +kernel)⟩
theorem lw_p53 : lw_okq (⟨"PlateHireModel", "spreads", "()V"⟩, 52) := ⟨⟨by decide +kernel, by decide +kernel⟩, List.mem_of_getElem? (i := 851) (by decide +kernel), List.mem_of_getElem? (i := 1246) (by decide +kernel), List.mem_of_getElem? (i := 1247) (by decide +kernel)⟩
theorem lw_p54 : lw_okq (⟨"PlateHireModel", "hourFrom", "(II)I"⟩, 52) := ⟨⟨by decide +kernel, by decide +kernel⟩, List.mem_of_getElem? (i := 851) (by decide +kernel), List.mem_of_getElem? (i := 1250) (by decide +kernel), List.mem_of_getElem? (i := 1251) (by decide +kernel)⟩
theorem lw_p55 : lw_okq (⟨"PlateHireModel", "looks", "()V"⟩, 52) := ⟨⟨by decide +kernel, by decide +kernel⟩, List.mem_of_getElem? (i := 851) (by decide +kernel), List.mem_of_getElem? (i := 1254) (by decide +kernel), List.mem_of_getElem? (i := 1255) (by decide +kernel)⟩
theorem lw_p56 : lw_okq (⟨"PlateHireModel", "asksAt", "(I)I"⟩, 52) := ⟨⟨by decide +kernel, by decide +kernel⟩, List.mem_of_getElem? (i := 851) (by decide +kernel), List.mem_of_getElem? (i := 1258) (by decide +kernel), List.mem_of_getElem? (i := 1259) (by decide +kernel)⟩
theorem lw_p57 : lw_okq (⟨"PlateHireModel", "goesOn", "()Z"⟩, 52) := ⟨⟨by decide +kernel, by decide +kernel⟩, List.mem_of_getElem? (i := 851) (by decide +kernel), List.mem_of_getElem? (i := 1262) (by decide +kernel), List.mem_of_getElem? (i := 1263) (by decide +kernel)⟩
theorem lw_p58 : lw_okq (⟨"PlateHireModel", "placeOf", "(I)I"⟩, 52) := ⟨⟨by decide +kernel, by decide +kernel⟩, List.mem_of_getElem? (i := 851) (by decide +kernel), List.mem_of_getElem? (i := 1270) (by decide +kernel), List.mem_of_getElem? (i := 1271) (by decide +kernel)⟩
theorem lw_p59 : lw_okq (⟨"PlateHireModel", "goesFrom", "(I)V"⟩, 52) := ⟨⟨by decide +kernel, by decide +kernel⟩, List.mem_of_getElem? (i := 851) (by decide +kernel), List.mem_of_getElem? (i := 1278) (by decide +kernel), List.mem_of_getElem? (i := 1279) (by decide +kernel)⟩
def lw_privs_4 : List (MethodName × Nat) := [(⟨"PlateHireModel", "roams", "(I)V"⟩, 52), (⟨"PlateHireModel", "tookAll", "()I"⟩, 52), (⟨"PlateHireModel", "worth", "(III)I"⟩, 52), (⟨"PlateHireModel", "owed", "(I)I"⟩, 52), (⟨"PlateHireModel", "parts", "(II)V"⟩, 52), (⟨"PlateHireModel", "spreads", "()V"⟩, 52), (⟨"PlateHireModel", "hourFrom", "(II)I"⟩, 52), (⟨"PlateHireModel", "looks", "()V"⟩, 52), (⟨"PlateHireModel", "asksAt", "(I)I"⟩, 52), (⟨"PlateHireModel", "goesOn", "()Z"⟩, 52), (⟨"PlateHireModel", "placeOf", "(I)I"⟩, 52), (⟨"PlateHireModel", "goesFrom", "(I)V"⟩, 52)]
theorem lw_r4 : ∀ q ∈ lw_privs_4, lw_okq q := List.forall_mem_cons.mpr ⟨lw_p48, List.forall_mem_cons.mpr ⟨lw_p49, List.forall_mem_cons.mpr ⟨lw_p50, List.forall_mem_cons.mpr ⟨lw_p51, List.forall_mem_cons.mpr ⟨lw_p52, List.forall_mem_cons.mpr ⟨lw_p53, List.forall_mem_cons.mpr ⟨lw_p54, List.forall_mem_cons.mpr ⟨lw_p55, List.forall_mem_cons.mpr ⟨lw_p56, List.forall_mem_cons.mpr ⟨lw_p57, List.forall_mem_cons.mpr ⟨lw_p58, List.forall_mem_cons.mpr ⟨lw_p59, fun _ h => absurd h List.not_mem_nil⟩⟩⟩⟩⟩⟩⟩⟩⟩⟩⟩⟩
def lw_privs : List (MethodName × Nat) := lw_privs_1 ++ (lw_privs_2 ++ (lw_privs_3 ++ (lw_privs_4)))
def lw_tbl : List Cond := k2_sels lw_privs ++ tables_1
theorem lw_privs_ok : ∀ q ∈ lw_privs, lw_okq q := by
  show ∀ q ∈ lw_privs_1 ++ (lw_privs_2 ++ (lw_privs_3 ++ (lw_privs_4))), lw_okq q
  exact List.forall_mem_append.mpr ⟨lw_r1, List.forall_mem_append.mpr ⟨lw_r2, List.forall_mem_append.mpr ⟨lw_r3, lw_r4⟩⟩⟩
end
section
/-! ===== BEGIN words of one list among another's, by their places ===== -/
theorem goodIn_r {big : List Cond} (ws : List Cond) (ps : List Nat) (hp : ws = ps.filterMap (fun i => big[i]?)) (h : ws.all goodWord = true) : GoodIn big ws := by
  intro w hw
  have h1 := List.all_eq_true.mp h w hw
  rw [hp] at hw
  obtain ⟨i, -, hi⟩ := List.mem_filterMap.mp hw
  have hm : w ∈ big := by first | exact List.mem_of_getElem? hi | exact List.getElem?_mem hi
  exact ⟨hm, good_of_word h1⟩
theorem goodIn_app {big a b : List Cond} (ha : GoodIn big a) (hb : GoodIn big b) : GoodIn big (a ++ b) := fun w h => (List.mem_append.mp h).elim (ha w) (hb w)
theorem goodIn_ca {big a b : List Cond} {c : Cond} (ha : GoodIn big (c :: a)) (hb : GoodIn big b) : GoodIn big (c :: (a ++ b)) := fun w h => (List.mem_cons.mp h).elim (fun e => ha w (List.mem_cons.mpr (Or.inl e))) (fun h => (List.mem_append.mp h).elim (fun h => ha w (List.mem_cons.mpr (Or.inr h))) (hb w))
theorem goodIn_sub {big ws : List Cond} (hm : ∀ w ∈ ws, w ∈ big) (h : ws.all goodWord = true) : GoodIn big ws := fun w hw => ⟨hm w hw, good_of_word (List.all_eq_true.mp h w hw)⟩
/-! ===== END ===== -/

/-! ===== BEGIN printed: names, fields, word lists, decode rows ===== -/
def RX0 : String := "PlateHire$Asks"
def TX0 : u_T := fun k => match k with
  | _ => ("PlateHire$Asks", "row", "[I", true)
def tyX0 : Nat → FieldType := fun k => match k with
  | _ => .array .int
abbrev wsX00 : List Cond := u_ws RX0 TX0 1
theorem nmX0 : ∀ a, a < 1 → ∀ b, b < 1 → a ≠ b → (TX0 a).2.1 ≠ (TX0 b).2.1 := by decide +kernel
theorem tyX0_ok : ∀ k, k < 1 → parseFieldDescriptor (TX0 k).2.2.1 = some (tyX0 k) := by decide +kernel
abbrev cX0_init : ByteArray := prog_2_method_1_code
def yX0_init : MethodName := ⟨RX0, "<init>", "()V"⟩
abbrev cX0_at : ByteArray := prog_2_method_2_code
def yX0_at : MethodName := ⟨RX0, "at", "(II)I"⟩
abbrev cX0_replace : ByteArray := prog_2_method_3_code
def yX0_replace : MethodName := ⟨RX0, "replace", "(III)I"⟩
abbrev cX0_ofAllWards : ByteArray := prog_2_method_4_code
def yX0_ofAllWards : MethodName := ⟨RX0, "ofAllWards", "(I)I"⟩
def RX1 : String := "PlateHire$City"
def TX1 : u_T := fun k => match k with
  | 0 => ("PlateHire$City", "plates", "LPlateHire$Plates;", true)
  | 1 => ("PlateHire$City", "roster", "LPlateHire$Roster;", true)
  | 2 => ("PlateHire$City", "meter", "LPlateHire$Meter;", true)
  | 3 => ("PlateHire$City", "asks", "LPlateHire$Asks;", true)
  | 4 => ("PlateHire$City", "kept", "LPlateHire$Rides;", true)
  | 5 => ("PlateHire$City", "where", "[I", true)
  | 6 => ("PlateHire$City", "hours", "[I", true)
  | 7 => ("PlateHire$City", "took", "[I", true)
  | 8 => ("PlateHire$City", "driverHours", "[I", true)
  | 9 => ("PlateHire$City", "earned", "[I", true)
  | 10 => ("PlateHire$City", "waiting", "[I", true)
  | 11 => ("PlateHire$City", "turns", "[I", true)
  | 12 => ("PlateHire$City", "roams", "[Z", true)
  | 13 => ("PlateHire$City", "hour", "I", false)
  | 14 => ("PlateHire$City", "rideCount", "I", false)
  | 15 => ("PlateHire$City", "lostCount", "I", false)
  | 16 => ("PlateHire$City", "idleHours", "I", false)
  | _ => ("PlateHire$City", "taken", "I", false)
def tyX1 : Nat → FieldType := fun k => match k with
  | 0 => .object "PlateHire$Plates"
  | 1 => .object "PlateHire$Roster"
  | 2 => .object "PlateHire$Meter"
  | 3 => .object "PlateHire$Asks"
  | 4 => .object "PlateHire$Rides"
  | 5 => .array .int
  | 6 => .array .int
  | 7 => .array .int
  | 8 => .array .int
  | 9 => .array .int
  | 10 => .array .int
  | 11 => .array .int
  | 12 => .array .boolean
  | 13 => .int
  | 14 => .int
  | 15 => .int
  | 16 => .int
  | _ => .int
abbrev wsX10 : List Cond := u_ws RX1 TX1 18
theorem nmX1 : ∀ a, a < 18 → ∀ b, b < 18 → a ≠ b → (TX1 a).2.1 ≠ (TX1 b).2.1 := by decide +kernel
theorem tyX1_ok : ∀ k, k < 18 → parseFieldDescriptor (TX1 k).2.2.1 = some (tyX1 k) := by decide +kernel
abbrev cX1_init : ByteArray := prog_3_method_1_code
def yX1_init : MethodName := ⟨RX1, "<init>", "(LPlateHire$Plates;LPlateHire$Roster;LPlateHire$Meter;LPlateHire$Asks;LPlateHire$Rides;)V"⟩
abbrev cX1_copy : ByteArray := prog_3_method_2_code
def yX1_copy : MethodName := ⟨RX1, "copy", "(LPlateHire$City;)V"⟩
abbrev cX1_clearSums : ByteArray := prog_3_method_3_code
def yX1_clearSums : MethodName := ⟨RX1, "clearSums", "()V"⟩
abbrev cX1_put : ByteArray := prog_3_method_4_code
def yX1_put : MethodName := ⟨RX1, "put", "(II)I"⟩
abbrev cX1_passHours : ByteArray := prog_3_method_5_code
def yX1_passHours : MethodName := ⟨RX1, "passHours", "(I)V"⟩
abbrev cX1_passHour : ByteArray := prog_3_method_6_code
def yX1_passHour : MethodName := ⟨RX1, "passHour", "(I)V"⟩
abbrev cX1_serve : ByteArray := prog_3_method_7_code
def yX1_serve : MethodName := ⟨RX1, "serve", "(III)Z"⟩
abbrev cX1_longestWait : ByteArray := prog_3_method_8_code
def yX1_longestWait : MethodName := ⟨RX1, "longestWait", "(I)I"⟩
abbrev cX1_waitingIn : ByteArray := prog_3_method_9_code
def yX1_waitingIn : MethodName := ⟨RX1, "waitingIn", "(I)I"⟩
abbrev cX1_roam : ByteArray := prog_3_method_10_code
def yX1_roam : MethodName := ⟨RX1, "roam", "(I)V"⟩
abbrev cX1_tire : ByteArray := prog_3_method_11_code
def yX1_tire : MethodName := ⟨RX1, "tire", "(I)V"⟩
def RX2 : String := "PlateHire$Fleets"
def TX2 : u_T := fun k => match k with
  | 0 => ("PlateHire$Fleets", "asks", "LPlateHire$Asks;", true)
  | 1 => ("PlateHire$Fleets", "sets", "[I", true)
  | 2 => ("PlateHire$Fleets", "size", "I", false)
  | 3 => ("PlateHire$Fleets", "ratings", "[I", true)
  | 4 => ("PlateHire$Fleets", "added", "[I", true)
  | _ => ("PlateHire$Fleets", "greatest", "I", false)
def tyX2 : Nat → FieldType := fun k => match k with
  | 0 => .object "PlateHire$Asks"
  | 1 => .array .int
  | 2 => .int
  | 3 => .array .int
  | 4 => .array .int
  | _ => .int
abbrev wsX20 : List Cond := u_ws RX2 TX2 6
theorem nmX2 : ∀ a, a < 6 → ∀ b, b < 6 → a ≠ b → (TX2 a).2.1 ≠ (TX2 b).2.1 := by decide +kernel
theorem tyX2_ok : ∀ k, k < 6 → parseFieldDescriptor (TX2 k).2.2.1 = some (tyX2 k) := by decide +kernel
abbrev cX2_init : ByteArray := prog_4_method_1_code
def yX2_init : MethodName := ⟨RX2, "<init>", "(LPlateHire$Asks;)V"⟩
abbrev cX2_add : ByteArray := prog_4_method_2_code
def yX2_add : MethodName := ⟨RX2, "add", "(I)I"⟩
abbrev cX2_clear : ByteArray := prog_4_method_3_code
def yX2_clear : MethodName := ⟨RX2, "clear", "()I"⟩
abbrev cX2_arrange : ByteArray := prog_4_method_4_code
def yX2_arrange : MethodName := ⟨RX2, "arrange", "()V"⟩
abbrev cX2_asksTogether : ByteArray := prog_4_method_5_code
def yX2_asksTogether : MethodName := ⟨RX2, "asksTogether", "()I"⟩
abbrev cX2_hourOf : ByteArray := prog_4_method_6_code
def yX2_hourOf : MethodName := ⟨RX2, "hourOf", "(I)I"⟩
abbrev cX2_everyFleet : ByteArray := prog_4_method_7_code
def yX2_everyFleet : MethodName := ⟨RX2, "everyFleet", "()I"⟩
abbrev cX2_lowestBit : ByteArray := prog_4_method_8_code
def yX2_lowestBit : MethodName := ⟨RX2, "lowestBit", "(I)I"⟩
abbrev cX2_placeAll : ByteArray := prog_4_method_9_code
def yX2_placeAll : MethodName := ⟨RX2, "placeAll", "(I)V"⟩
abbrev cX2_takersOf : ByteArray := prog_4_method_10_code
def yX2_takersOf : MethodName := ⟨RX2, "takersOf", "(I)I"⟩
abbrev cX2_rateHour : ByteArray := prog_4_method_11_code
def yX2_rateHour : MethodName := ⟨RX2, "rateHour", "(I)V"⟩
abbrev cX2_placeHour : ByteArray := prog_4_method_12_code
def yX2_placeHour : MethodName := ⟨RX2, "placeHour", "(II)V"⟩
def RX3 : String := "PlateHire$Line"
def TX3 : u_T := fun k => match k with
  | 0 => ("PlateHire$Line", "row", "[I", true)
  | _ => ("PlateHire$Line", "size", "I", false)
def tyX3 : Nat → FieldType := fun k => match k with
  | 0 => .array .int
  | _ => .int
abbrev wsX30 : List Cond := u_ws RX3 TX3 2
theorem nmX3 : ∀ a, a < 2 → ∀ b, b < 2 → a ≠ b → (TX3 a).2.1 ≠ (TX3 b).2.1 := by decide +kernel
theorem tyX3_ok : ∀ k, k < 2 → parseFieldDescriptor (TX3 k).2.2.1 = some (tyX3 k) := by decide +kernel
abbrev cX3_init : ByteArray := prog_5_method_1_code
def yX3_init : MethodName := ⟨RX3, "<init>", "()V"⟩
abbrev cX3_placeOf : ByteArray := prog_5_method_2_code
def yX3_placeOf : MethodName := ⟨RX3, "placeOf", "(I)I"⟩
abbrev cX3_append : ByteArray := prog_5_method_3_code
def yX3_append : MethodName := ⟨RX3, "append", "(I)I"⟩
abbrev cX3_removeAt : ByteArray := prog_5_method_4_code
def yX3_removeAt : MethodName := ⟨RX3, "removeAt", "(I)V"⟩
def RX4 : String := "PlateHire$Loans"
def TX4 : u_T := fun k => match k with
  | 0 => ("PlateHire$Loans", "plateOf", "[I", true)
  | 1 => ("PlateHire$Loans", "ranks", "[I", true)
  | 2 => ("PlateHire$Loans", "sums", "[I", true)
  | 3 => ("PlateHire$Loans", "parts", "[I", true)
  | _ => ("PlateHire$Loans", "size", "I", false)
def tyX4 : Nat → FieldType := fun k => match k with
  | 0 => .array .int
  | 1 => .array .int
  | 2 => .array .int
  | 3 => .array .int
  | _ => .int
abbrev wsX40 : List Cond := u_ws RX4 TX4 5
theorem nmX4 : ∀ a, a < 5 → ∀ b, b < 5 → a ≠ b → (TX4 a).2.1 ≠ (TX4 b).2.1 := by decide +kernel
theorem tyX4_ok : ∀ k, k < 5 → parseFieldDescriptor (TX4 k).2.2.1 = some (tyX4 k) := by decide +kernel
abbrev cX4_init : ByteArray := prog_6_method_1_code
def yX4_init : MethodName := ⟨RX4, "<init>", "()V"⟩
abbrev cX4_has : ByteArray := prog_6_method_2_code
def yX4_has : MethodName := ⟨RX4, "has", "(I)Z"⟩
abbrev cX4_add : ByteArray := prog_6_method_3_code
def yX4_add : MethodName := ⟨RX4, "add", "(III)I"⟩
abbrev cX4_debt : ByteArray := prog_6_method_4_code
def yX4_debt : MethodName := ⟨RX4, "debt", "(I)I"⟩
abbrev cX4_divide : ByteArray := prog_6_method_5_code
def yX4_divide : MethodName := ⟨RX4, "divide", "(II)V"⟩
abbrev cX4_settle : ByteArray := prog_6_method_6_code
def yX4_settle : MethodName := ⟨RX4, "settle", "(I)V"⟩
abbrev cX4_isOf : ByteArray := prog_6_method_7_code
def yX4_isOf : MethodName := ⟨RX4, "isOf", "(III)Z"⟩
abbrev cX4_rankDebt : ByteArray := prog_6_method_8_code
def yX4_rankDebt : MethodName := ⟨RX4, "rankDebt", "(II)I"⟩
abbrev cX4_payRank : ByteArray := prog_6_method_9_code
def yX4_payRank : MethodName := ⟨RX4, "payRank", "(II)V"⟩
abbrev cX4_shareRank : ByteArray := prog_6_method_10_code
def yX4_shareRank : MethodName := ⟨RX4, "shareRank", "(IIII)V"⟩
def RX5 : String := "PlateHire$Meter"
def TX5 : u_T := fun k => match k with
  | 0 => ("PlateHire$Meter", "kinds", "[I", true)
  | 1 => ("PlateHire$Meter", "wards", "[I", true)
  | 2 => ("PlateHire$Meter", "amounts", "[I", true)
  | _ => ("PlateHire$Meter", "size", "I", false)
def tyX5 : Nat → FieldType := fun k => match k with
  | 0 => .array .int
  | 1 => .array .int
  | 2 => .array .int
  | _ => .int
abbrev wsX50 : List Cond := u_ws RX5 TX5 4
theorem nmX5 : ∀ a, a < 4 → ∀ b, b < 4 → a ≠ b → (TX5 a).2.1 ≠ (TX5 b).2.1 := by decide +kernel
theorem tyX5_ok : ∀ k, k < 4 → parseFieldDescriptor (TX5 k).2.2.1 = some (tyX5 k) := by decide +kernel
abbrev cX5_init : ByteArray := prog_7_method_1_code
def yX5_init : MethodName := ⟨RX5, "<init>", "()V"⟩
abbrev cX5_add : ByteArray := prog_7_method_2_code
def yX5_add : MethodName := ⟨RX5, "add", "(III)V"⟩
abbrev cX5_copy : ByteArray := prog_7_method_3_code
def yX5_copy : MethodName := ⟨RX5, "copy", "(LPlateHire$Meter;)V"⟩
abbrev cX5_price : ByteArray := prog_7_method_4_code
def yX5_price : MethodName := ⟨RX5, "price", "(IIII)I"⟩
abbrev cX5_timesDue : ByteArray := prog_7_method_5_code
def yX5_timesDue : MethodName := ⟨RX5, "timesDue", "(IIIII)I"⟩
def RX6 : String := "PlateHire$Plates"
def TX6 : u_T := fun k => match k with
  | 0 => ("PlateHire$Plates", "kinds", "[I", true)
  | 1 => ("PlateHire$Plates", "owners", "[I", true)
  | 2 => ("PlateHire$Plates", "leases", "[I", true)
  | 3 => ("PlateHire$Plates", "costs", "[I", true)
  | _ => ("PlateHire$Plates", "size", "I", false)
def tyX6 : Nat → FieldType := fun k => match k with
  | 0 => .array .int
  | 1 => .array .int
  | 2 => .array .int
  | 3 => .array .int
  | _ => .int
abbrev wsX60 : List Cond := u_ws RX6 TX6 5
theorem nmX6 : ∀ a, a < 5 → ∀ b, b < 5 → a ≠ b → (TX6 a).2.1 ≠ (TX6 b).2.1 := by decide +kernel
theorem tyX6_ok : ∀ k, k < 5 → parseFieldDescriptor (TX6 k).2.2.1 = some (tyX6 k) := by decide +kernel
abbrev cX6_init : ByteArray := prog_8_method_1_code
def yX6_init : MethodName := ⟨RX6, "<init>", "()V"⟩
abbrev cX6_has : ByteArray := prog_8_method_2_code
def yX6_has : MethodName := ⟨RX6, "has", "(I)Z"⟩
abbrev cX6_add : ByteArray := prog_8_method_3_code
def yX6_add : MethodName := ⟨RX6, "add", "(IIII)I"⟩
abbrev cX6_replaceRent : ByteArray := prog_8_method_4_code
def yX6_replaceRent : MethodName := ⟨RX6, "replaceRent", "(III)I"⟩
abbrev cX6_mayStand : ByteArray := prog_8_method_5_code
def yX6_mayStand : MethodName := ⟨RX6, "mayStand", "(II)Z"⟩
abbrev cX6_restingWard : ByteArray := prog_8_method_6_code
def yX6_restingWard : MethodName := ⟨RX6, "restingWard", "(II)I"⟩
abbrev cX6_hoursDue : ByteArray := prog_8_method_7_code
def yX6_hoursDue : MethodName := ⟨RX6, "hoursDue", "(II)I"⟩
abbrev cX6_worth : ByteArray := prog_8_method_8_code
def yX6_worth : MethodName := ⟨RX6, "worth", "(III)I"⟩
def RX7 : String := "PlateHire$Rides"
def TX7 : u_T := fun k => match k with
  | 0 => ("PlateHire$Rides", "row", "[I", true)
  | _ => ("PlateHire$Rides", "size", "I", false)
def tyX7 : Nat → FieldType := fun k => match k with
  | 0 => .array .int
  | _ => .int
abbrev wsX70 : List Cond := u_ws RX7 TX7 2
theorem nmX7 : ∀ a, a < 2 → ∀ b, b < 2 → a ≠ b → (TX7 a).2.1 ≠ (TX7 b).2.1 := by decide +kernel
theorem tyX7_ok : ∀ k, k < 2 → parseFieldDescriptor (TX7 k).2.2.1 = some (tyX7 k) := by decide +kernel
abbrev cX7_init : ByteArray := prog_9_method_1_code
def yX7_init : MethodName := ⟨RX7, "<init>", "()V"⟩
abbrev cX7_has : ByteArray := prog_9_method_2_code
def yX7_has : MethodName := ⟨RX7, "has", "(I)Z"⟩
abbrev cX7_detail : ByteArray := prog_9_method_3_code
def yX7_detail : MethodName := ⟨RX7, "detail", "(II)I"⟩
abbrev cX7_keep : ByteArray := prog_9_method_4_code
def yX7_keep : MethodName := ⟨RX7, "keep", "(IIIII)V"⟩
abbrev cX7_search : ByteArray := prog_9_method_5_code
def yX7_search : MethodName := ⟨RX7, "search", "(IIIII)I"⟩
abbrev cX7_fits : ByteArray := prog_9_method_6_code
def yX7_fits : MethodName := ⟨RX7, "fits", "(III)Z"⟩
def RX8 : String := "PlateHire$Roster"
def TX8 : u_T := fun k => match k with
  | 0 => ("PlateHire$Roster", "wishes", "[I", true)
  | 1 => ("PlateHire$Roster", "driverOf", "[I", true)
  | 2 => ("PlateHire$Roster", "drivers", "I", false)
  | 3 => ("PlateHire$Roster", "freePlaces", "[I", true)
  | 4 => ("PlateHire$Roster", "freeDrivers", "[I", true)
  | 5 => ("PlateHire$Roster", "given", "[Z", true)
  | 6 => ("PlateHire$Roster", "freePlaceCount", "I", false)
  | 7 => ("PlateHire$Roster", "freeDriverCount", "I", false)
  | 8 => ("PlateHire$Roster", "shiftsLeft", "[I", true)
  | _ => ("PlateHire$Roster", "driversLeft", "[I", true)
def tyX8 : Nat → FieldType := fun k => match k with
  | 0 => .array .int
  | 1 => .array .int
  | 2 => .int
  | 3 => .array .int
  | 4 => .array .int
  | 5 => .array .boolean
  | 6 => .int
  | 7 => .int
  | 8 => .array .int
  | _ => .array .int
abbrev wsX80 : List Cond := u_ws RX8 TX8 10
theorem nmX8 : ∀ a, a < 10 → ∀ b, b < 10 → a ≠ b → (TX8 a).2.1 ≠ (TX8 b).2.1 := by decide +kernel
theorem tyX8_ok : ∀ k, k < 10 → parseFieldDescriptor (TX8 k).2.2.1 = some (tyX8 k) := by decide +kernel
abbrev cX8_init : ByteArray := prog_10_method_1_code
def yX8_init : MethodName := ⟨RX8, "<init>", "()V"⟩
abbrev cX8_hasDriver : ByteArray := prog_10_method_2_code
def yX8_hasDriver : MethodName := ⟨RX8, "hasDriver", "(I)Z"⟩
abbrev cX8_addDriver : ByteArray := prog_10_method_3_code
def yX8_addDriver : MethodName := ⟨RX8, "addDriver", "(I)I"⟩
abbrev cX8_placeOfDriver : ByteArray := prog_10_method_4_code
def yX8_placeOfDriver : MethodName := ⟨RX8, "placeOfDriver", "(I)I"⟩
abbrev cX8_assign : ByteArray := prog_10_method_5_code
def yX8_assign : MethodName := ⟨RX8, "assign", "(II)I"⟩
abbrev cX8_fillFree : ByteArray := prog_10_method_6_code
def yX8_fillFree : MethodName := ⟨RX8, "fillFree", "(I)I"⟩
abbrev cX8_listFreePlaces : ByteArray := prog_10_method_7_code
def yX8_listFreePlaces : MethodName := ⟨RX8, "listFreePlaces", "(I)V"⟩
abbrev cX8_listFreeDrivers : ByteArray := prog_10_method_8_code
def yX8_listFreeDrivers : MethodName := ⟨RX8, "listFreeDrivers", "()V"⟩
abbrev cX8_fillPlace : ByteArray := prog_10_method_9_code
def yX8_fillPlace : MethodName := ⟨RX8, "fillPlace", "(I)I"⟩
abbrev cX8_mostWorths : ByteArray := prog_10_method_10_code
def yX8_mostWorths : MethodName := ⟨RX8, "mostWorths", "()I"⟩
def RX9 : String := "PlateHire$Tape"
def TX9 : u_T := fun k => match k with
  | 0 => ("PlateHire$Tape", "bytes", "[I", true)
  | 1 => ("PlateHire$Tape", "draft", "LPlateHire$Meter;", true)
  | 2 => ("PlateHire$Tape", "size", "I", false)
  | _ => ("PlateHire$Tape", "at", "I", false)
def tyX9 : Nat → FieldType := fun k => match k with
  | 0 => .array .int
  | 1 => .object "PlateHire$Meter"
  | 2 => .int
  | _ => .int
abbrev wsX90 : List Cond := u_ws RX9 TX9 4
theorem nmX9 : ∀ a, a < 4 → ∀ b, b < 4 → a ≠ b → (TX9 a).2.1 ≠ (TX9 b).2.1 := by decide +kernel
theorem tyX9_ok : ∀ k, k < 4 → parseFieldDescriptor (TX9 k).2.2.1 = some (tyX9 k) := by decide +kernel
abbrev cX9_init : ByteArray := prog_11_method_1_code
def yX9_init : MethodName := ⟨RX9, "<init>", "()V"⟩
abbrev cX9_append : ByteArray := prog_11_method_2_code
def yX9_append : MethodName := ⟨RX9, "append", "(JI)I"⟩
abbrev cX9_read : ByteArray := prog_11_method_3_code
def yX9_read : MethodName := ⟨RX9, "read", "()I"⟩
abbrev cX9_readClauses : ByteArray := prog_11_method_4_code
def yX9_readClauses : MethodName := ⟨RX9, "readClauses", "()Z"⟩
abbrev cX9_readClause : ByteArray := prog_11_method_5_code
def yX9_readClause : MethodName := ⟨RX9, "readClause", "()Z"⟩
abbrev cX9_readWord : ByteArray := prog_11_method_6_code
def yX9_readWord : MethodName := ⟨RX9, "readWord", "()I"⟩
abbrev cX9_wordOf : ByteArray := prog_11_method_7_code
def yX9_wordOf : MethodName := ⟨RX9, "wordOf", "(I)Ljava/lang/String;"⟩
abbrev cX9_sameBytes : ByteArray := prog_11_method_8_code
def yX9_sameBytes : MethodName := ⟨RX9, "sameBytes", "(Ljava/lang/String;)I"⟩
abbrev cX9_readByte : ByteArray := prog_11_method_9_code
def yX9_readByte : MethodName := ⟨RX9, "readByte", "(C)Z"⟩
abbrev cX9_readDigit : ByteArray := prog_11_method_10_code
def yX9_readDigit : MethodName := ⟨RX9, "readDigit", "(I)I"⟩
abbrev cX9_readNumber : ByteArray := prog_11_method_11_code
def yX9_readNumber : MethodName := ⟨RX9, "readNumber", "()I"⟩
def RX10 : String := "PlateHire"
def TX10 : u_T := fun k => match k with
  | 0 => ("PlateHire", "plates", "LPlateHire$Plates;", true)
  | 1 => ("PlateHire", "roster", "LPlateHire$Roster;", true)
  | 2 => ("PlateHire", "tape", "LPlateHire$Tape;", true)
  | 3 => ("PlateHire", "meter", "LPlateHire$Meter;", true)
  | 4 => ("PlateHire", "asks", "LPlateHire$Asks;", true)
  | 5 => ("PlateHire", "rides", "LPlateHire$Rides;", true)
  | 6 => ("PlateHire", "city", "LPlateHire$City;", true)
  | 7 => ("PlateHire", "trial", "LPlateHire$City;", true)
  | 8 => ("PlateHire", "loans", "LPlateHire$Loans;", true)
  | 9 => ("PlateHire", "fleets", "LPlateHire$Fleets;", true)
  | _ => ("PlateHire", "line", "LPlateHire$Line;", true)
def tyX10 : Nat → FieldType := fun k => match k with
  | 0 => .object "PlateHire$Plates"
  | 1 => .object "PlateHire$Roster"
  | 2 => .object "PlateHire$Tape"
  | 3 => .object "PlateHire$Meter"
  | 4 => .object "PlateHire$Asks"
  | 5 => .object "PlateHire$Rides"
  | 6 => .object "PlateHire$City"
  | 7 => .object "PlateHire$City"
  | 8 => .object "PlateHire$Loans"
  | 9 => .object "PlateHire$Fleets"
  | _ => .object "PlateHire$Line"
abbrev wsX100 : List Cond := u_ws RX10 TX10 11
theorem nmX10 : ∀ a, a < 11 → ∀ b, b < 11 → a ≠ b → (TX10 a).2.1 ≠ (TX10 b).2.1 := by decide +kernel
theorem tyX10_ok : ∀ k, k < 11 → parseFieldDescriptor (TX10 k).2.2.1 = some (tyX10 k) := by decide +kernel
abbrev cX10_init : ByteArray := prog_1_method_1_code
def yX10_init : MethodName := ⟨RX10, "<init>", "()V"⟩
abbrev cX10_plate : ByteArray := prog_1_method_2_code
def yX10_plate : MethodName := ⟨RX10, "plate", "(IIII)I"⟩
abbrev cX10_driver : ByteArray := prog_1_method_3_code
def yX10_driver : MethodName := ⟨RX10, "driver", "(I)I"⟩
abbrev cX10_drive : ByteArray := prog_1_method_4_code
def yX10_drive : MethodName := ⟨RX10, "drive", "(III)I"⟩
abbrev cX10_about : ByteArray := prog_1_method_5_code
def yX10_about : MethodName := ⟨RX10, "about", "(II)I"⟩
abbrev cX10_driven : ByteArray := prog_1_method_6_code
def yX10_driven : MethodName := ⟨RX10, "driven", "(II)I"⟩
abbrev cX10_fill : ByteArray := prog_1_method_7_code
def yX10_fill : MethodName := ⟨RX10, "fill", "()I"⟩
abbrev cX10_feed : ByteArray := prog_1_method_8_code
def yX10_feed : MethodName := ⟨RX10, "feed", "(JI)I"⟩
abbrev cX10_law : ByteArray := prog_1_method_9_code
def yX10_law : MethodName := ⟨RX10, "law", "()I"⟩
abbrev cX10_fare : ByteArray := prog_1_method_10_code
def yX10_fare : MethodName := ⟨RX10, "fare", "(IIII)I"⟩
abbrev cX10_ask : ByteArray := prog_1_method_11_code
def yX10_ask : MethodName := ⟨RX10, "ask", "(III)I"⟩
abbrev cX10_stand : ByteArray := prog_1_method_12_code
def yX10_stand : MethodName := ⟨RX10, "stand", "(II)I"⟩
abbrev cX10_step : ByteArray := prog_1_method_13_code
def yX10_step : MethodName := ⟨RX10, "step", "(I)I"⟩
abbrev cX10_tried : ByteArray := prog_1_method_14_code
def yX10_tried : MethodName := ⟨RX10, "tried", "(III)I"⟩
abbrev cX10_found : ByteArray := prog_1_method_15_code
def yX10_found : MethodName := ⟨RX10, "found", "(IIIII)I"⟩
abbrev cX10_rode : ByteArray := prog_1_method_16_code
def yX10_rode : MethodName := ⟨RX10, "rode", "(II)I"⟩
abbrev cX10_value : ByteArray := prog_1_method_17_code
def yX10_value : MethodName := ⟨RX10, "value", "(III)I"⟩
abbrev cX10_rent : ByteArray := prog_1_method_18_code
def yX10_rent : MethodName := ⟨RX10, "rent", "(III)I"⟩
abbrev cX10_loan : ByteArray := prog_1_method_19_code
def yX10_loan : MethodName := ⟨RX10, "loan", "(III)I"⟩
abbrev cX10_owes : ByteArray := prog_1_method_20_code
def yX10_owes : MethodName := ⟨RX10, "owes", "(I)I"⟩
abbrev cX10_fails : ByteArray := prog_1_method_21_code
def yX10_fails : MethodName := ⟨RX10, "fails", "(II)I"⟩
abbrev cX10_part : ByteArray := prog_1_method_22_code
def yX10_part : MethodName := ⟨RX10, "part", "(II)I"⟩
abbrev cX10_over : ByteArray := prog_1_method_23_code
def yX10_over : MethodName := ⟨RX10, "over", "(II)I"⟩
abbrev cX10_rescue : ByteArray := prog_1_method_24_code
def yX10_rescue : MethodName := ⟨RX10, "rescue", "(IIII)I"⟩
abbrev cX10_swap : ByteArray := prog_1_method_25_code
def yX10_swap : MethodName := ⟨RX10, "swap", "(I)I"⟩
abbrev cX10_unswap : ByteArray := prog_1_method_26_code
def yX10_unswap : MethodName := ⟨RX10, "unswap", "()I"⟩
abbrev cX10_spread : ByteArray := prog_1_method_27_code
def yX10_spread : MethodName := ⟨RX10, "spread", "(I)I"⟩
abbrev cX10_join : ByteArray := prog_1_method_28_code
def yX10_join : MethodName := ⟨RX10, "join", "(I)I"⟩
abbrev cX10_call : ByteArray := prog_1_method_29_code
def yX10_call : MethodName := ⟨RX10, "call", "(I)I"⟩
abbrev cX10_leave : ByteArray := prog_1_method_30_code
def yX10_leave : MethodName := ⟨RX10, "leave", "(I)I"⟩
abbrev cX10_count : ByteArray := prog_1_method_31_code
def yX10_count : MethodName := ⟨RX10, "count", "(I)I"⟩
abbrev cX10_within : ByteArray := prog_1_method_32_code
def yX10_within : MethodName := ⟨RX10, "within", "(III)Z"⟩
abbrev cX10_isWard : ByteArray := prog_1_method_33_code
def yX10_isWard : MethodName := ⟨RX10, "isWard", "(I)Z"⟩
abbrev cX10_isRent : ByteArray := prog_1_method_34_code
def yX10_isRent : MethodName := ⟨RX10, "isRent", "(II)Z"⟩
abbrev cX10_isTerm : ByteArray := prog_1_method_35_code
def yX10_isTerm : MethodName := ⟨RX10, "isTerm", "(II)Z"⟩
abbrev cX10_isPartable : ByteArray := prog_1_method_36_code
def yX10_isPartable : MethodName := ⟨RX10, "isPartable", "(I)Z"⟩
abbrev cX10_isFailing : ByteArray := prog_1_method_37_code
def yX10_isFailing : MethodName := ⟨RX10, "isFailing", "(III)Z"⟩
def RX11 : String := "PlateHireModel"
def TX11 : u_T := fun k => match k with
  | 0 => ("PlateHireModel", "kindOf", "[I", true)
  | 1 => ("PlateHireModel", "owner", "[I", true)
  | 2 => ("PlateHireModel", "lease", "[I", true)
  | 3 => ("PlateHireModel", "cost", "[I", true)
  | 4 => ("PlateHireModel", "wish", "[I", true)
  | 5 => ("PlateHireModel", "byDay", "[I", true)
  | 6 => ("PlateHireModel", "byNight", "[I", true)
  | 7 => ("PlateHireModel", "plates", "I", false)
  | 8 => ("PlateHireModel", "drivers", "I", false)
  | 9 => ("PlateHireModel", "city", "[I", true)
  | 10 => ("PlateHireModel", "was", "[I", true)
  | 11 => ("PlateHireModel", "rides", "I", false)
  | 12 => ("PlateHireModel", "lost", "I", false)
  | 13 => ("PlateHireModel", "idle", "I", false)
  | 14 => ("PlateHireModel", "hour", "I", false)
  | 15 => ("PlateHireModel", "kept", "I", false)
  | 16 => ("PlateHireModel", "rideHour", "[I", true)
  | 17 => ("PlateHireModel", "ridePlate", "[I", true)
  | 18 => ("PlateHireModel", "rideFrom", "[I", true)
  | 19 => ("PlateHireModel", "rideTo", "[I", true)
  | 20 => ("PlateHireModel", "rideFare", "[I", true)
  | 21 => ("PlateHireModel", "asks", "[I", true)
  | 22 => ("PlateHireModel", "shift", "[I", true)
  | 23 => ("PlateHireModel", "free", "[I", true)
  | 24 => ("PlateHireModel", "most", "[I", true)
  | 25 => ("PlateHireModel", "shifts", "I", false)
  | 26 => ("PlateHireModel", "frees", "I", false)
  | 27 => ("PlateHireModel", "tape", "[I", true)
  | 28 => ("PlateHireModel", "word", "[I", true)
  | 29 => ("PlateHireModel", "ward", "[I", true)
  | 30 => ("PlateHireModel", "number", "[I", true)
  | 31 => ("PlateHireModel", "newWord", "[I", true)
  | 32 => ("PlateHireModel", "newWard", "[I", true)
  | 33 => ("PlateHireModel", "newNumber", "[I", true)
  | 34 => ("PlateHireModel", "taped", "I", false)
  | 35 => ("PlateHireModel", "clauses", "I", false)
  | 36 => ("PlateHireModel", "at", "I", false)
  | 37 => ("PlateHireModel", "isIdle", "[Z", true)
  | 38 => ("PlateHireModel", "loanPlate", "[I", true)
  | 39 => ("PlateHireModel", "rank", "[I", true)
  | 40 => ("PlateHireModel", "sumOf", "[I", true)
  | 41 => ("PlateHireModel", "part", "[I", true)
  | 42 => ("PlateHireModel", "loans", "I", false)
  | 43 => ("PlateHireModel", "hours", "[I", true)
  | 44 => ("PlateHireModel", "takes", "[I", true)
  | 45 => ("PlateHireModel", "bestTakes", "[I", true)
  | 46 => ("PlateHireModel", "in", "[I", true)
  | 47 => ("PlateHireModel", "fleets", "I", false)
  | 48 => ("PlateHireModel", "bestMost", "I", false)
  | 49 => ("PlateHireModel", "bestAsks", "I", false)
  | 50 => ("PlateHireModel", "line", "[I", true)
  | _ => ("PlateHireModel", "lined", "I", false)
def tyX11 : Nat → FieldType := fun k => match k with
  | 0 => .array .int
  | 1 => .array .int
  | 2 => .array .int
  | 3 => .array .int
  | 4 => .array .int
  | 5 => .array .int
  | 6 => .array .int
  | 7 => .int
  | 8 => .int
  | 9 => .array .int
  | 10 => .array .int
  | 11 => .int
  | 12 => .int
  | 13 => .int
  | 14 => .int
  | 15 => .int
  | 16 => .array .int
  | 17 => .array .int
  | 18 => .array .int
  | 19 => .array .int
  | 20 => .array .int
  | 21 => .array .int
  | 22 => .array .int
  | 23 => .array .int
  | 24 => .array .int
  | 25 => .int
  | 26 => .int
  | 27 => .array .int
  | 28 => .array .int
  | 29 => .array .int
  | 30 => .array .int
  | 31 => .array .int
  | 32 => .array .int
  | 33 => .array .int
  | 34 => .int
  | 35 => .int
  | 36 => .int
  | 37 => .array .boolean
  | 38 => .array .int
  | 39 => .array .int
  | 40 => .array .int
  | 41 => .array .int
  | 42 => .int
  | 43 => .array .int
  | 44 => .array .int
  | 45 => .array .int
  | 46 => .array .int
  | 47 => .int
  | 48 => .int
  | 49 => .int
  | 50 => .array .int
  | _ => .int
abbrev wsX110 : List Cond := u_ws RX11 TX11 52
theorem nmX11 : ∀ a, a < 52 → ∀ b, b < 52 → a ≠ b → (TX11 a).2.1 ≠ (TX11 b).2.1 := by decide +kernel
theorem tyX11_ok : ∀ k, k < 52 → parseFieldDescriptor (TX11 k).2.2.1 = some (tyX11 k) := by decide +kernel
abbrev cX11_init : ByteArray := prog_13_method_1_code
def yX11_init : MethodName := ⟨RX11, "<init>", "()V"⟩
abbrev cX11_isIn : ByteArray := prog_13_method_2_code
def yX11_isIn : MethodName := ⟨RX11, "isIn", "(JJJ)Z"⟩
abbrev cX11_isPlate : ByteArray := prog_13_method_3_code
def yX11_isPlate : MethodName := ⟨RX11, "isPlate", "(I)Z"⟩
abbrev cX11_isDriver : ByteArray := prog_13_method_4_code
def yX11_isDriver : MethodName := ⟨RX11, "isDriver", "(I)Z"⟩
abbrev cX11_isWard : ByteArray := prog_13_method_5_code
def yX11_isWard : MethodName := ⟨RX11, "isWard", "(I)Z"⟩
abbrev cX11_plate : ByteArray := prog_13_method_6_code
def yX11_plate : MethodName := ⟨RX11, "plate", "(IIII)I"⟩
abbrev cX11_driver : ByteArray := prog_13_method_7_code
def yX11_driver : MethodName := ⟨RX11, "driver", "(I)I"⟩
abbrev cX11_frees : ByteArray := prog_13_method_8_code
def yX11_frees : MethodName := ⟨RX11, "frees", "(I)V"⟩
abbrev cX11_driverOf : ByteArray := prog_13_method_9_code
def yX11_driverOf : MethodName := ⟨RX11, "driverOf", "(II)I"⟩
abbrev cX11_gives : ByteArray := prog_13_method_10_code
def yX11_gives : MethodName := ⟨RX11, "gives", "(III)V"⟩
abbrev cX11_drive : ByteArray := prog_13_method_11_code
def yX11_drive : MethodName := ⟨RX11, "drive", "(III)I"⟩
abbrev cX11_about : ByteArray := prog_13_method_12_code
def yX11_about : MethodName := ⟨RX11, "about", "(II)I"⟩
abbrev cX11_driven : ByteArray := prog_13_method_13_code
def yX11_driven : MethodName := ⟨RX11, "driven", "(II)I"⟩
abbrev cX11_drives : ByteArray := prog_13_method_14_code
def yX11_drives : MethodName := ⟨RX11, "drives", "(I)Z"⟩
abbrev cX11_worthOf : ByteArray := prog_13_method_15_code
def yX11_worthOf : MethodName := ⟨RX11, "worthOf", "(II)I"⟩
abbrev cX11_fill : ByteArray := prog_13_method_16_code
def yX11_fill : MethodName := ⟨RX11, "fill", "()I"⟩
abbrev cX11_feed : ByteArray := prog_13_method_17_code
def yX11_feed : MethodName := ⟨RX11, "feed", "(JI)I"⟩
abbrev cX11_sign : ByteArray := prog_13_method_18_code
def yX11_sign : MethodName := ⟨RX11, "sign", "()I"⟩
abbrev cX11_signOf : ByteArray := prog_13_method_19_code
def yX11_signOf : MethodName := ⟨RX11, "signOf", "(II)I"⟩
abbrev cX11_word : ByteArray := prog_13_method_20_code
def yX11_word : MethodName := ⟨RX11, "word", "()I"⟩
abbrev cX11_isDigit : ByteArray := prog_13_method_21_code
def yX11_isDigit : MethodName := ⟨RX11, "isDigit", "(I)Z"⟩
abbrev cX11_takes : ByteArray := prog_13_method_22_code
def yX11_takes : MethodName := ⟨RX11, "takes", "(I)Z"⟩
abbrev cX11_clause : ByteArray := prog_13_method_23_code
def yX11_clause : MethodName := ⟨RX11, "clause", "(I)Z"⟩
abbrev cX11_parses : ByteArray := prog_13_method_24_code
def yX11_parses : MethodName := ⟨RX11, "parses", "()I"⟩
abbrev cX11_law : ByteArray := prog_13_method_25_code
def yX11_law : MethodName := ⟨RX11, "law", "()I"⟩
abbrev cX11_fareOf : ByteArray := prog_13_method_26_code
def yX11_fareOf : MethodName := ⟨RX11, "fareOf", "(IIII)I"⟩
abbrev cX11_fare : ByteArray := prog_13_method_27_code
def yX11_fare : MethodName := ⟨RX11, "fare", "(IIII)I"⟩
abbrev cX11_ask : ByteArray := prog_13_method_28_code
def yX11_ask : MethodName := ⟨RX11, "ask", "(III)I"⟩
abbrev cX11_mayStand : ByteArray := prog_13_method_29_code
def yX11_mayStand : MethodName := ⟨RX11, "mayStand", "(II)Z"⟩
abbrev cX11_stand : ByteArray := prog_13_method_30_code
def yX11_stand : MethodName := ⟨RX11, "stand", "(II)I"⟩
abbrev cX11_waiting : ByteArray := prog_13_method_31_code
def yX11_waiting : MethodName := ⟨RX11, "waiting", "(I)I"⟩
abbrev cX11_runs : ByteArray := prog_13_method_32_code
def yX11_runs : MethodName := ⟨RX11, "runs", "(I)I"⟩
abbrev cX11_takesOne : ByteArray := prog_13_method_33_code
def yX11_takesOne : MethodName := ⟨RX11, "takesOne", "(IIZ)V"⟩
abbrev cX11_roams : ByteArray := prog_13_method_34_code
def yX11_roams : MethodName := ⟨RX11, "roams", "(I)V"⟩
abbrev cX11_goesBy : ByteArray := prog_13_method_35_code
def yX11_goesBy : MethodName := ⟨RX11, "goesBy", "(Z)V"⟩
abbrev cX11_step : ByteArray := prog_13_method_36_code
def yX11_step : MethodName := ⟨RX11, "step", "(I)I"⟩
abbrev cX11_tookAll : ByteArray := prog_13_method_37_code
def yX11_tookAll : MethodName := ⟨RX11, "tookAll", "()I"⟩
abbrev cX11_tried : ByteArray := prog_13_method_38_code
def yX11_tried : MethodName := ⟨RX11, "tried", "(III)I"⟩
abbrev cX11_found : ByteArray := prog_13_method_39_code
def yX11_found : MethodName := ⟨RX11, "found", "(IIIII)I"⟩
abbrev cX11_rode : ByteArray := prog_13_method_40_code
def yX11_rode : MethodName := ⟨RX11, "rode", "(II)I"⟩
abbrev cX11_areTerms : ByteArray := prog_13_method_41_code
def yX11_areTerms : MethodName := ⟨RX11, "areTerms", "(II)Z"⟩
abbrev cX11_worth : ByteArray := prog_13_method_42_code
def yX11_worth : MethodName := ⟨RX11, "worth", "(III)I"⟩
abbrev cX11_value : ByteArray := prog_13_method_43_code
def yX11_value : MethodName := ⟨RX11, "value", "(III)I"⟩
abbrev cX11_rent : ByteArray := prog_13_method_44_code
def yX11_rent : MethodName := ⟨RX11, "rent", "(III)I"⟩
abbrev cX11_loan : ByteArray := prog_13_method_45_code
def yX11_loan : MethodName := ⟨RX11, "loan", "(III)I"⟩
abbrev cX11_owed : ByteArray := prog_13_method_46_code
def yX11_owed : MethodName := ⟨RX11, "owed", "(I)I"⟩
abbrev cX11_owes : ByteArray := prog_13_method_47_code
def yX11_owes : MethodName := ⟨RX11, "owes", "(I)I"⟩
abbrev cX11_fails : ByteArray := prog_13_method_48_code
def yX11_fails : MethodName := ⟨RX11, "fails", "(II)I"⟩
abbrev cX11_parts : ByteArray := prog_13_method_49_code
def yX11_parts : MethodName := ⟨RX11, "parts", "(II)V"⟩
abbrev cX11_part : ByteArray := prog_13_method_50_code
def yX11_part : MethodName := ⟨RX11, "part", "(II)I"⟩
abbrev cX11_over : ByteArray := prog_13_method_51_code
def yX11_over : MethodName := ⟨RX11, "over", "(II)I"⟩
abbrev cX11_rescue : ByteArray := prog_13_method_52_code
def yX11_rescue : MethodName := ⟨RX11, "rescue", "(IIII)I"⟩
abbrev cX11_swap : ByteArray := prog_13_method_53_code
def yX11_swap : MethodName := ⟨RX11, "swap", "(I)I"⟩
abbrev cX11_unswap : ByteArray := prog_13_method_54_code
def yX11_unswap : MethodName := ⟨RX11, "unswap", "()I"⟩
abbrev cX11_asksAt : ByteArray := prog_13_method_55_code
def yX11_asksAt : MethodName := ⟨RX11, "asksAt", "(I)I"⟩
abbrev cX11_looks : ByteArray := prog_13_method_56_code
def yX11_looks : MethodName := ⟨RX11, "looks", "()V"⟩
abbrev cX11_hourFrom : ByteArray := prog_13_method_57_code
def yX11_hourFrom : MethodName := ⟨RX11, "hourFrom", "(II)I"⟩
abbrev cX11_goesOn : ByteArray := prog_13_method_58_code
def yX11_goesOn : MethodName := ⟨RX11, "goesOn", "()Z"⟩
abbrev cX11_spreads : ByteArray := prog_13_method_59_code
def yX11_spreads : MethodName := ⟨RX11, "spreads", "()V"⟩
abbrev cX11_spread : ByteArray := prog_13_method_60_code
def yX11_spread : MethodName := ⟨RX11, "spread", "(I)I"⟩
abbrev cX11_placeOf : ByteArray := prog_13_method_61_code
def yX11_placeOf : MethodName := ⟨RX11, "placeOf", "(I)I"⟩
abbrev cX11_goesFrom : ByteArray := prog_13_method_62_code
def yX11_goesFrom : MethodName := ⟨RX11, "goesFrom", "(I)V"⟩
abbrev cX11_join : ByteArray := prog_13_method_63_code
def yX11_join : MethodName := ⟨RX11, "join", "(I)I"⟩
abbrev cX11_call : ByteArray := prog_13_method_64_code
def yX11_call : MethodName := ⟨RX11, "call", "(I)I"⟩
abbrev cX11_leave : ByteArray := prog_13_method_65_code
def yX11_leave : MethodName := ⟨RX11, "leave", "(I)I"⟩
abbrev cX11_count : ByteArray := prog_13_method_66_code
def yX11_count : MethodName := ⟨RX11, "count", "(I)I"⟩
def RJ6 : String := "java/lang/Integer"
def TJ6 : u_T := fun k => match k with
  | _ => ("", "", "", false)
def tyJ6 : Nat → FieldType := fun k => match k with
  | _ => .int
abbrev wsJ60 : List Cond := u_ws RJ6 TJ6 0
theorem nmJ6 : ∀ a, a < 0 → ∀ b, b < 0 → a ≠ b → (TJ6 a).2.1 ≠ (TJ6 b).2.1 := by decide +kernel
theorem tyJ6_ok : ∀ k, k < 0 → parseFieldDescriptor (TJ6 k).2.2.1 = some (tyJ6 k) := by decide +kernel
abbrev cJ6_bitCount_0f7a4 : ByteArray := prog_14_method_49_code
def yJ6_bitCount_0f7a4 : MethodName := ⟨RJ6, "bitCount", "(I)I"⟩
def RJ9 : String := "java/lang/Math"
def TJ9 : u_T := fun k => match k with
  | _ => ("", "", "", false)
def tyJ9 : Nat → FieldType := fun k => match k with
  | _ => .int
abbrev wsJ90 : List Cond := u_ws RJ9 TJ9 0
theorem nmJ9 : ∀ a, a < 0 → ∀ b, b < 0 → a ≠ b → (TJ9 a).2.1 ≠ (TJ9 b).2.1 := by decide +kernel
theorem tyJ9_ok : ∀ k, k < 0 → parseFieldDescriptor (TJ9 k).2.2.1 = some (tyJ9 k) := by decide +kernel
abbrev cJ9_abs_0f7a4 : ByteArray := prog_15_method_59_code
def yJ9_abs_0f7a4 : MethodName := ⟨RJ9, "abs", "(I)I"⟩
abbrev cJ9_max_7cf53 : ByteArray := prog_15_method_65_code
def yJ9_max_7cf53 : MethodName := ⟨RJ9, "max", "(II)I"⟩
abbrev cJ9_min_7cf53 : ByteArray := prog_15_method_69_code
def yJ9_min_7cf53 : MethodName := ⟨RJ9, "min", "(II)I"⟩
def RJ0 : String := "java/lang/String"
def TJ0 : u_T := fun k => match k with
  | _ => ("", "", "", false)
def tyJ0 : Nat → FieldType := fun k => match k with
  | _ => .int
abbrev wsJ00 : List Cond := u_ws RJ0 TJ0 0
theorem nmJ0 : ∀ a, a < 0 → ∀ b, b < 0 → a ≠ b → (TJ0 a).2.1 ≠ (TJ0 b).2.1 := by decide +kernel
theorem tyJ0_ok : ∀ k, k < 0 → parseFieldDescriptor (TJ0 k).2.2.1 = some (tyJ0 k) := by decide +kernel
abbrev cJ0_length_8abf5 : ByteArray := prog_16_method_54_code
def yJ0_length_8abf5 : MethodName := ⟨RJ0, "length", "()I"⟩
abbrev cJ0_charAt_5068e : ByteArray := prog_16_method_56_code
def yJ0_charAt_5068e : MethodName := ⟨RJ0, "charAt", "(I)C"⟩
abbrev cJ0_coder_7d493 : ByteArray := prog_16_method_152_code
def yJ0_coder_7d493 : MethodName := ⟨RJ0, "coder", "()B"⟩
abbrev cJ0_isLatin1_aae02 : ByteArray := prog_16_method_154_code
def yJ0_isLatin1_aae02 : MethodName := ⟨RJ0, "isLatin1", "()Z"⟩
abbrev cJ0_checkIndex_df160 : ByteArray := prog_16_method_155_code
def yJ0_checkIndex_df160 : MethodName := ⟨RJ0, "checkIndex", "(II)V"⟩
def RJ1 : String := "java/lang/StringLatin1"
def TJ1 : u_T := fun k => match k with
  | _ => ("", "", "", false)
def tyJ1 : Nat → FieldType := fun k => match k with
  | _ => .int
abbrev wsJ10 : List Cond := u_ws RJ1 TJ1 0
theorem nmJ1 : ∀ a, a < 0 → ∀ b, b < 0 → a ≠ b → (TJ1 a).2.1 ≠ (TJ1 b).2.1 := by decide +kernel
theorem tyJ1_ok : ∀ k, k < 0 → parseFieldDescriptor (TJ1 k).2.2.1 = some (tyJ1 k) := by decide +kernel
abbrev cJ1_charAt_3b067 : ByteArray := prog_17_method_2_code
def yJ1_charAt_3b067 : MethodName := ⟨RJ1, "charAt", "([BI)C"⟩
def RJ2 : String := "java/lang/StringUTF16"
def TJ2 : u_T := fun k => match k with
  | _ => ("", "", "", false)
def tyJ2 : Nat → FieldType := fun k => match k with
  | _ => .int
abbrev wsJ20 : List Cond := u_ws RJ2 TJ2 0
theorem nmJ2 : ∀ a, a < 0 → ∀ b, b < 0 → a ≠ b → (TJ2 a).2.1 ≠ (TJ2 b).2.1 := by decide +kernel
theorem tyJ2_ok : ∀ k, k < 0 → parseFieldDescriptor (TJ2 k).2.2.1 = some (tyJ2 k) := by decide +kernel
abbrev cJ2_getChar_3b067 : ByteArray := prog_18_method_5_code
def yJ2_getChar_3b067 : MethodName := ⟨RJ2, "getChar", "([BI)C"⟩
abbrev cJ2_length_9d52b : ByteArray := prog_18_method_6_code
def yJ2_length_9d52b : MethodName := ⟨RJ2, "length", "([B)I"⟩
abbrev cJ2_charAt_3b067 : ByteArray := prog_18_method_83_code
def yJ2_charAt_3b067 : MethodName := ⟨RJ2, "charAt", "([BI)C"⟩
abbrev cJ2_checkIndex_2214a : ByteArray := prog_18_method_91_code
def yJ2_checkIndex_2214a : MethodName := ⟨RJ2, "checkIndex", "(I[B)V"⟩
def RJ10 : String := "java/lang/System"
def TJ10 : u_T := fun k => match k with
  | _ => ("", "", "", false)
def tyJ10 : Nat → FieldType := fun k => match k with
  | _ => .int
abbrev wsJ100 : List Cond := u_ws RJ10 TJ10 0
theorem nmJ10 : ∀ a, a < 0 → ∀ b, b < 0 → a ≠ b → (TJ10 a).2.1 ≠ (TJ10 b).2.1 := by decide +kernel
theorem tyJ10_ok : ∀ k, k < 0 → parseFieldDescriptor (TJ10 k).2.2.1 = some (tyJ10 k) := by decide +kernel
def RJ3 : String := "jdk/internal/util/Preconditions"
def TJ3 : u_T := fun k => match k with
  | _ => ("", "", "", false)
def tyJ3 : Nat → FieldType := fun k => match k with
  | _ => .int
abbrev wsJ30 : List Cond := u_ws RJ3 TJ3 0
theorem nmJ3 : ∀ a, a < 0 → ∀ b, b < 0 → a ≠ b → (TJ3 a).2.1 ≠ (TJ3 b).2.1 := by decide +kernel
theorem tyJ3_ok : ∀ k, k < 0 → parseFieldDescriptor (TJ3 k).2.2.1 = some (tyJ3 k) := by decide +kernel
abbrev cJ3_checkIndex_8e157 : ByteArray := prog_20_method_11_code
def yJ3_checkIndex_8e157 : MethodName := ⟨RJ3, "checkIndex", "(IILjava/util/function/BiFunction;)I"⟩
def RL : String := "PlateHireLaw"
abbrev cL_law : ByteArray := code
def yL_law : MethodName := ⟨RL, "law", "([I)Z"⟩
abbrev vwCl : List vw_C := [(RX0, TX0, 1), (RX1, TX1, 18), (RX2, TX2, 6), (RX3, TX3, 2), (RX4, TX4, 5), (RX5, TX5, 4), (RX6, TX6, 5), (RX7, TX7, 2), (RX8, TX8, 10), (RX9, TX9, 4), (RX10, TX10, 11), (RX11, TX11, 52)]
end
section
/-! the shape of the worlds: which cell is what, once both objects are made. A cell: 0 (an int array) or 1 (a boolean array) and its length; or 2 + the number of its class, and its fields: none an int, some none null, some (some r) the cell r. Written by wip/whole/gen/gen_state.py -/
abbrev ax_Sg : Type := Nat → Nat → Int32
abbrev ax_Sh : Type := Nat × Nat × List (Option (Option Nat))
def ax_sh : List ax_Sh := [
  (12, 0, [some (some 1), some (some 2), some (some 3), some (some 4), some (some 5), some (some 6), some (some 7), some (some 8), some (some 9), some (some 10), some (some 11)]),
  (8, 0, [some (some 14), some (some 15), some (some 16), some (some 17), none]),
  (10, 0, [some (some 18), some (some 19), none, some (some 20), some (some 21), some (some 22), none, none, some (some 23), some (some 24)]),
  (11, 0, [some (some 25), some (some 12), none, none]),
  (7, 0, [some (some 26), some (some 27), some (some 28), none]),
  (2, 0, [some (some 29)]),
  (9, 0, [some (some 30), none]),
  (3, 0, [some (some 1), some (some 2), some (some 4), some (some 5), some (some 6), some (some 31), some (some 32), some (some 33), some (some 34), some (some 35), some (some 36), some (some 37), some (some 38), none, none, none, none, none]),
  (3, 0, [some (some 1), some (some 2), some (some 4), some (some 5), some none, some (some 39), some (some 40), some (some 41), some (some 42), some (some 43), some (some 44), some (some 45), some (some 46), none, none, none, none, none]),
  (6, 0, [some (some 47), some (some 48), some (some 49), some (some 50), none]),
  (4, 0, [some (some 5), some (some 51), none, some (some 52), some (some 53), none]),
  (5, 0, [some (some 54), none]),
  (7, 0, [some (some 55), some (some 56), some (some 57), none]),
  (13, 0, [some (some 58), some (some 59), some (some 60), some (some 61), some (some 62), some (some 63), some (some 64), none, none, some (some 65), some (some 66), none, none, none, none, none, some (some 67), some (some 68), some (some 69), some (some 70), some (some 71), some (some 72), some (some 73), some (some 74), some (some 75), none, none, some (some 76), some (some 77), some (some 78), some (some 79), some (some 80), some (some 81), some (some 82), none, none, none, some (some 83), some (some 84), some (some 85), some (some 86), some (some 87), none, some (some 88), some (some 89), some (some 90), some (some 91), none, none, none, some (some 92), none]),
  (0, 12, []),
  (0, 12, []),
  (0, 12, []),
  (0, 12, []),
  (0, 16, []),
  (0, 24, []),
  (0, 10, []),
  (0, 10, []),
  (1, 10, []),
  (0, 2, []),
  (0, 3, []),
  (0, 120, []),
  (0, 6, []),
  (0, 6, []),
  (0, 6, []),
  (0, 120, []),
  (0, 1500, []),
  (0, 12, []),
  (0, 12, []),
  (0, 12, []),
  (0, 16, []),
  (0, 16, []),
  (0, 15, []),
  (0, 5, []),
  (1, 12, []),
  (0, 12, []),
  (0, 12, []),
  (0, 12, []),
  (0, 16, []),
  (0, 16, []),
  (0, 15, []),
  (0, 5, []),
  (1, 12, []),
  (0, 30, []),
  (0, 30, []),
  (0, 30, []),
  (0, 30, []),
  (0, 6, []),
  (0, 64, []),
  (0, 64, []),
  (0, 12, []),
  (0, 6, []),
  (0, 6, []),
  (0, 6, []),
  (0, 12, []),
  (0, 12, []),
  (0, 12, []),
  (0, 12, []),
  (0, 16, []),
  (0, 12, []),
  (0, 12, []),
  (0, 88, []),
  (0, 88, []),
  (0, 300, []),
  (0, 300, []),
  (0, 300, []),
  (0, 300, []),
  (0, 300, []),
  (0, 120, []),
  (0, 10, []),
  (0, 10, []),
  (0, 11264, []),
  (0, 120, []),
  (0, 6, []),
  (0, 6, []),
  (0, 6, []),
  (0, 6, []),
  (0, 6, []),
  (0, 6, []),
  (1, 12, []),
  (0, 30, []),
  (0, 30, []),
  (0, 30, []),
  (0, 30, []),
  (0, 6, []),
  (0, 6, []),
  (0, 6, []),
  (0, 8, []),
  (0, 12, [])]
/- cells: 0 x, 1 plates, 2 roster, 3 tape, 4 meter, 5 asks, 6 rides, 7 city, 8 trial, 9 loans, 10 fleets, 11 line, 12 draft, 13 m, 14 plates.kinds, 15 plates.owners, 16 plates.leases, 17 plates.costs, 18 roster.wishes, 19 roster.driverOf, 20 roster.freePlaces, 21 roster.freeDrivers, 22 roster.given, 23 roster.shiftsLeft, 24 roster.driversLeft, 25 tape.bytes, 26 meter.kinds, 27 meter.wards, 28 meter.amounts, 29 asks.row, 30 rides.row, 31 city.where, 32 city.hours, 33 city.took, 34 city.driverHours, 35 city.earned, 36 city.waiting, 37 city.turns, 38 city.roams, 39 trial.where, 40 trial.hours, 41 trial.took, 42 trial.driverHours, 43 trial.earned, 44 trial.waiting, 45 trial.turns, 46 trial.roams, 47 loans.plateOf, 48 loans.ranks, 49 loans.sums, 50 loans.parts, 51 fleets.sets, 52 fleets.ratings, 53 fleets.added, 54 line.row, 55 draft.kinds, 56 draft.wards, 57 draft.amounts, 58 m.kindOf, 59 m.owner, 60 m.lease, 61 m.cost, 62 m.wish, 63 m.byDay, 64 m.byNight, 65 m.city, 66 m.was, 67 m.rideHour, 68 m.ridePlate, 69 m.rideFrom, 70 m.rideTo, 71 m.rideFare, 72 m.asks, 73 m.shift, 74 m.free, 75 m.most, 76 m.tape, 77 m.word, 78 m.ward, 79 m.number, 80 m.newWord, 81 m.newWard, 82 m.newNumber, 83 m.isIdle, 84 m.loanPlate, 85 m.rank, 86 m.sumOf, 87 m.part, 88 m.hours, 89 m.takes, 90 m.bestTakes, 91 m.in, 92 m.line -/
/-- an abstract value at the addresses μ -/
def ax_vm (μ : Nat → Nat) : Value → Value
  | .ref k => .ref (μ k)
  | v => v
/-- a field -/
def ax_fv (μ : Nat → Nat) (σ : ax_Sg) (k j : Nat) : Option (Option Nat) → Value
  | none => .int (σ k j)
  | some none => .null
  | some (some r) => .ref (μ r)
def ax_fs (μ : Nat → Nat) (σ : ax_Sg) (k : Nat) (fs : List (Option (Option Nat))) : List Value := fs.mapIdx (fun j f => ax_fv μ σ k j f)
def ax_ce (μ : Nat → Nat) (cI cZ : ClassId) (σ : ax_Sg) (k : Nat) (q : ax_Sh) : va_E := match q.1 with
  | 0 => .inl (cI, q.2.1, .inl (σ k))
  | 1 => .inl (cZ, q.2.1, .inl (σ k))
  | t + 2 => .inr (t, ax_fs μ σ k q.2.2)
def ax_ws (μ : Nat → Nat) (cI cZ : ClassId) (σ : ax_Sg) : va_W := ax_sh.mapIdx (fun k q => (μ k, ax_ce μ cI cZ σ k q))
/-- one place of one cell is told anew -/
def ax_us (σ : ax_Sg) (k i : Nat) (v : Int32) : ax_Sg := fun k' => if k' = k then upd (σ k) i v else σ k'
/-- a whole cell is told anew -/
def ax_uc (σ : ax_Sg) (k : Nat) (f : Nat → Int32) : ax_Sg := fun k' => if k' = k then f else σ k'
theorem ax_us_uc (σ : ax_Sg) (k i : Nat) (v : Int32) : ax_us σ k i v = ax_uc σ k (upd (σ k) i v) := rfl
theorem ax_uc_s (σ : ax_Sg) (k : Nat) (f : Nat → Int32) : ax_uc σ k f k = f := if_pos rfl
theorem ax_uc_n (σ : ax_Sg) {k k' : Nat} (f : Nat → Int32) (h : k' ≠ k) : ax_uc σ k f k' = σ k' := if_neg h
theorem ax_ws_at (μ : Nat → Nat) (cI cZ : ClassId) (σ : ax_Sg) (k : Nat) : (ax_ws μ cI cZ σ)[k]? = (ax_sh[k]?).map (fun q => (μ k, ax_ce μ cI cZ σ k q)) := by
  unfold ax_ws
  rw [List.getElem?_mapIdx]
theorem ax_ce_uc_n (μ : Nat → Nat) (cI cZ : ClassId) (σ : ax_Sg) {k k' : Nat} (f : Nat → Int32) (q : ax_Sh) (h : k' ≠ k) : ax_ce μ cI cZ (ax_uc σ k f) k' q = ax_ce μ cI cZ σ k' q := by
  obtain ⟨t, n, fs⟩ := q
  match t with
  | 0 => simp only [ax_ce, ax_uc_n _ _ h]
  | 1 => simp only [ax_ce, ax_uc_n _ _ h]
  | t + 2 =>
    simp only [ax_ce, ax_fs]
    congr 3
    funext j f'
    match f' with
    | none => simp only [ax_fv, ax_uc_n _ _ h]
    | some none => rfl
    | some (some r) => rfl
theorem ax_ws_uc (μ : Nat → Nat) (cI cZ : ClassId) (σ : ax_Sg) (k : Nat) (f : Nat → Int32) (q : ax_Sh) (hq : ax_sh[k]? = some q) : (ax_ws μ cI cZ σ).set k (μ k, ax_ce μ cI cZ (ax_uc σ k f) k q) = ax_ws μ cI cZ (ax_uc σ k f) := by
  apply List.ext_getElem?
  intro i
  rw [ax_ws_at, List.getElem?_set]
  by_cases h : k = i
  · subst h
    have hl : k < (ax_ws μ cI cZ σ).length := by
      unfold ax_ws
      rw [List.length_mapIdx]
      exact (List.getElem?_eq_some_iff.mp hq).1
    rw [if_pos rfl, if_pos hl, hq]
    rfl
  · rw [if_neg h, ax_ws_at]
    cases ax_sh[i]? with
    | none => rfl
    | some q' => simp only [Option.map_some, ax_ce_uc_n μ cI cZ σ f q' (fun e => h e.symm)]
/-- the addresses are apart, and of a kind -/
def ax_ad (μ : Nat → Nat) (A : Nat → Prop) : Prop := (∀ i j, i < 93 → j < 93 → μ i = μ j → i = j) ∧ ∀ i, i < 93 → A (μ i)
def ax_A (μ : Nat → Nat) : Nat → Prop := fun q => ∃ i, i < 93 ∧ q = μ i
theorem ax_sh_len : ax_sh.length = 93 := by decide +kernel
theorem ax_ad.D {μ : Nat → Nat} {A : Nat → Prop} (h : ax_ad μ A) (cI cZ : ClassId) (σ : ax_Sg) : va_D A (ax_ws μ cI cZ σ) := by
  have key : ∀ (i : Nat) (p : Nat × va_E), (ax_ws μ cI cZ σ)[i]? = some p → i < 93 ∧ p.1 = μ i := by
    intro i p hp
    rw [ax_ws_at] at hp
    cases hi : ax_sh[i]? with
    | none => rw [hi] at hp; cases hp
    | some q =>
      rw [hi] at hp
      cases hp
      exact ⟨by have := (List.getElem?_eq_some_iff.mp hi).1; rw [ax_sh_len] at this; exact this, rfl⟩
  refine ⟨fun i j p q hi hj e => ?_, fun i p hi => ?_⟩
  · obtain ⟨h1, h2⟩ := key i p hi
    obtain ⟨h3, h4⟩ := key j q hj
    exact h.1 i j h1 h3 (by rw [← h2, ← h4]; exact e)
  · obtain ⟨h1, h2⟩ := key i p hi
    rw [h2]
    exact h.2 i h1
theorem ax_ad.self {μ : Nat → Nat} {A : Nat → Prop} (h : ax_ad μ A) : ax_ad μ (ax_A μ) := ⟨h.1, fun i hi => ⟨i, hi, rfl⟩⟩
end
section
/-! an instruction's meaning over the abstract world, as a predicate transformer; and a stretch of code up to its cuts -/
abbrev ax_Lc : Type := List (Option Value)
/-- pc, instruction; a, b, c: slot, target, class, field, method, arguments; an int, a long; a switch's cases -/
abbrev ax_Rw : Type := Nat × Instr × Nat × Nat × Nat × Int32 × Int64 × List (Int32 × Nat)
def ax_ld : ax_Lc → Nat → Option Value
  | [], _ => none
  | o :: _, 0 => o
  | _ :: L, i + 1 => ax_ld L i
def ax_dr (o : Option Value) (i : Nat) : Option Value := match i, o with
  | 0, some (.long _) => none
  | 0, some (.double _) => none
  | _, o => o
def ax_sv : ax_Lc → Nat → Value → ax_Lc
  | [], _, _ => []
  | _ :: L, 0, v => some v :: L
  | o :: L, i + 1, v => ax_dr o i :: ax_sv L i v
def ax_cl : ax_Lc → Nat → ax_Lc
  | [], _ => []
  | _ :: L, 0 => none :: L
  | o :: L, i + 1 => o :: ax_cl L i
def ax_mk : List Bool → ax_Lc → ax_Lc
  | b :: bs, o :: L => cond b o none :: ax_mk bs L
  | _, L => L
/-- a method's locals at its start -/
def ax_c2 : Value → Bool
  | .long _ => true
  | .double _ => true
  | _ => false
def ax_en : Nat → List Value → ax_Lc
  | n, [] => List.replicate n none
  | 0, _ :: _ => []
  | 1, v :: _ => [some v]
  | n + 2, v :: vs => cond (ax_c2 v) (some v :: none :: ax_en n vs) (some v :: ax_en (n + 1) vs)
def ax_li (L : ax_Lc) (i : Nat) (k : Int32 → Prop) : Prop := match ax_ld L i with
  | some (.int x) => k x
  | _ => False
def ax_ll (L : ax_Lc) (i : Nat) (k : Int64 → Prop) : Prop := match ax_ld L i with
  | some (.long x) => k x
  | _ => False
def ax_la (L : ax_Lc) (i : Nat) (k : Nat → Prop) : Prop := match ax_ld L i with
  | some (.ref x) => k x
  | _ => False
def ax_i1 (st : List Value) (k : Int32 → List Value → Prop) : Prop := match st with
  | .int x :: r => k x r
  | _ => False
def ax_i2 (st : List Value) (k : Int32 → Int32 → List Value → Prop) : Prop := match st with
  | .int y :: .int x :: r => k x y r
  | _ => False
def ax_l1 (st : List Value) (k : Int64 → List Value → Prop) : Prop := match st with
  | .long x :: r => k x r
  | _ => False
def ax_l2 (st : List Value) (k : Int64 → Int64 → List Value → Prop) : Prop := match st with
  | .long y :: .long x :: r => k x y r
  | _ => False
def ax_li2 (st : List Value) (k : Int64 → Int32 → List Value → Prop) : Prop := match st with
  | .int y :: .long x :: r => k x y r
  | _ => False
def ax_r1 (st : List Value) (k : Nat → List Value → Prop) : Prop := match st with
  | .ref x :: r => k x r
  | _ => False
def ax_ri (st : List Value) (k : Nat → Int32 → List Value → Prop) : Prop := match st with
  | .int i :: .ref x :: r => k x i r
  | _ => False
def ax_rii (st : List Value) (k : Nat → Int32 → Int32 → List Value → Prop) : Prop := match st with
  | .int v :: .int i :: .ref x :: r => k x i v r
  | _ => False
/-- a cell of the world -/
def ax_cell (x : Nat) (t : Nat) (k : Nat → List (Option (Option Nat)) → Prop) : Prop := match ax_sh[x]? with
  | some (t', n, fs) => cond (Nat.beq t' t) (k n fs) False
  | none => False
def ax_fld (σ : ax_Sg) (x j : Nat) (fs : List (Option (Option Nat))) (k : Value → Prop) : Prop := match fs[j]? with
  | some none => k (.int (σ x j))
  | some (some none) => k .null
  | some (some (some r)) => k (.ref r)
  | none => False
def ax_pf (j : Nat) (fs : List (Option (Option Nat))) (k : Prop) : Prop := match fs[j]? with
  | some none => k
  | _ => False
def ax_sw (x : Int32) (d : Nat) (f : Nat → Prop) : List (Int32 × Nat) → Prop
  | [] => f d
  | (c, t) :: r => (x = c → f t) ∧ (¬ x = c → ax_sw x d f r)
/-- n arguments off the stack, in their order -/
def ax_pop : Nat → List Value → List Value → (List Value → List Value → Prop) → Prop
  | 0, st, as, k => k as st
  | n + 1, v :: st, as, k => ax_pop n st (v :: as) k
  | _ + 1, [], _, _ => False
def ax_cat : List Value → Nat
  | [] => 0
  | .long _ :: r => 2 + ax_cat r
  | .double _ :: r => 2 + ax_cat r
  | _ :: r => 1 + ax_cat r
def ax_br (q : Prop) (t f : Prop) : Prop := (q → t) ∧ (¬ q → f)
/-- the six texts, by their signs -/
def ax_tx : List (List Int32) := [[98, 97, 115, 101, 32], [115, 116, 101, 112, 32], [110, 105, 103, 104, 116, 32], [119, 97, 114, 100, 32], [119, 97, 105, 116, 32], [99, 97, 112, 32]]
abbrev ax_Ca : Type := Nat → ax_Lc → ax_Sg → (Option Value → ax_Sg → Prop) → Prop
def ax_ov (o : Option Value) (k : Prop) : Prop := match o with
  | none => k
  | _ => False
def ax_oi (o : Option Value) (k : Int32 → Prop) : Prop := match o with
  | some (.int x) => k x
  | _ => False
def ax_or (o : Option Value) (k : Nat → Prop) : Prop := match o with
  | some (.ref x) => k x
  | _ => False
/-- a call: the callee's locals (their number stands in the row), its answer (0 none, 1 an int, else a reference) -/
def ax_go (C : ax_Ca) (a : Nat) (sw : List (Int32 × Nat)) (as : List Value) (σ : ax_Sg) (k : List Value → ax_Sg → Prop) : Prop := match sw with
  | [(_, n), (_, kd)] => cond (Nat.ble (ax_cat as) n) (C a (ax_en n as) σ (match kd with
    | 0 => fun o σ' => ax_ov o (k [] σ')
    | 1 => fun o σ' => ax_oi o fun x => k [.int x] σ'
    | _ => fun o σ' => ax_or o fun x => k [.ref x] σ')) False
  | _ => False
def ax_ex (C : ax_Ca) (P : Option Value → ax_Sg → Prop) (scr : Option (Nat × (Nat → Int32))) (row : ax_Rw) (L : ax_Lc) (st : List Value) (σ : ax_Sg) (K : Nat → ax_Lc → List Value → ax_Sg → Prop) : Prop :=
  match row with
  | (pc, i, a, b, c, v, z, sw) =>
  match i with
  | .iconst _ => K (pc + 1) L (.int v :: st) σ
  | .bipush _ => K (pc + 2) L (.int v :: st) σ
  | .sipush _ => K (pc + 3) L (.int v :: st) σ
  | .lconst _ => K (pc + 1) L (.long z :: st) σ
  | .ldc _ => cond (Nat.beq b 0) (K (pc + 2) L (.int v :: st) σ) (K (pc + 2) L (.ref (1000 + a) :: st) σ)
  | .ldc_w _ => K (pc + 3) L (.int v :: st) σ
  | .ldc2_w _ => K (pc + 3) L (.long z :: st) σ
  | .iload_n _ => ax_li L a fun x => K (pc + 1) L (.int x :: st) σ
  | .iload _ => ax_li L a fun x => K (pc + 2) L (.int x :: st) σ
  | .lload_n _ => ax_ll L a fun x => K (pc + 1) L (.long x :: st) σ
  | .lload _ => ax_ll L a fun x => K (pc + 2) L (.long x :: st) σ
  | .aload_n _ => ax_la L a fun x => K (pc + 1) L (.ref x :: st) σ
  | .aload _ => ax_la L a fun x => K (pc + 2) L (.ref x :: st) σ
  | .istore_n _ => ax_i1 st fun x r => cond (Nat.blt a L.length) (K (pc + 1) (ax_sv L a (.int x)) r σ) False
  | .istore _ => ax_i1 st fun x r => cond (Nat.blt a L.length) (K (pc + 2) (ax_sv L a (.int x)) r σ) False
  | .lstore_n _ => ax_l1 st fun x r => cond (Nat.blt (a + 1) L.length) (K (pc + 1) (ax_cl (ax_sv L a (.long x)) (a + 1)) r σ) False
  | .lstore _ => ax_l1 st fun x r => cond (Nat.blt (a + 1) L.length) (K (pc + 2) (ax_cl (ax_sv L a (.long x)) (a + 1)) r σ) False
  | .astore_n _ => ax_r1 st fun x r => cond (Nat.blt a L.length) (K (pc + 1) (ax_sv L a (.ref x)) r σ) False
  | .astore _ => ax_r1 st fun x r => cond (Nat.blt a L.length) (K (pc + 2) (ax_sv L a (.ref x)) r σ) False
  | .iinc _ _ => ax_li L a fun x => K (pc + 3) (ax_sv L a (.int (x + v))) st σ
  | .iadd => ax_i2 st fun x y r => K (pc + 1) L (.int (x + y) :: r) σ
  | .isub => ax_i2 st fun x y r => K (pc + 1) L (.int (x - y) :: r) σ
  | .imul => ax_i2 st fun x y r => K (pc + 1) L (.int (x * y) :: r) σ
  | .iand => ax_i2 st fun x y r => K (pc + 1) L (.int (x &&& y) :: r) σ
  | .ior => ax_i2 st fun x y r => K (pc + 1) L (.int (x ||| y) :: r) σ
  | .ixor => ax_i2 st fun x y r => K (pc + 1) L (.int (x ^^^ y) :: r) σ
  | .idiv => ax_i2 st fun x y r => (¬ y = 0) ∧ K (pc + 1) L (.int (x / y) :: r) σ
  | .irem => ax_i2 st fun x y r => (¬ y = 0) ∧ K (pc + 1) L (.int (x - x / y * y) :: r) σ
  | .ineg => ax_i1 st fun x r => K (pc + 1) L (.int (-x) :: r) σ
  | .ishl => ax_i2 st fun x y r => K (pc + 1) L (.int (x <<< (y &&& 31)) :: r) σ
  | .ishr => ax_i2 st fun x y r => K (pc + 1) L (.int (x >>> (y &&& 31)) :: r) σ
  | .iushr => ax_i2 st fun x y r => K (pc + 1) L (.int (x.toUInt32 >>> (y.toUInt32 &&& Int32.toUInt32 31)).toInt32 :: r) σ
  | .ladd => ax_l2 st fun x y r => K (pc + 1) L (.long (x + y) :: r) σ
  | .lsub => ax_l2 st fun x y r => K (pc + 1) L (.long (x - y) :: r) σ
  | .lmul => ax_l2 st fun x y r => K (pc + 1) L (.long (x * y) :: r) σ
  | .land => ax_l2 st fun x y r => K (pc + 1) L (.long (x &&& y) :: r) σ
  | .lor => ax_l2 st fun x y r => K (pc + 1) L (.long (x ||| y) :: r) σ
  | .ldiv => ax_l2 st fun x y r => (¬ y = 0) ∧ K (pc + 1) L (.long (x / y) :: r) σ
  | .lcmp => ax_l2 st fun x y r => K (pc + 1) L (.int (lg_cmp x y) :: r) σ
  | .lshl => ax_li2 st fun x y r => K (pc + 1) L (.long (x <<< (y.toInt64 &&& 63)) :: r) σ
  | .lshr => ax_li2 st fun x y r => K (pc + 1) L (.long (x >>> (y.toInt64 &&& 63)) :: r) σ
  | .lushr => ax_li2 st fun x y r => K (pc + 1) L (.long (x.toUInt64 >>> (y.toInt64.toUInt64 &&& Int64.toUInt64 63)).toInt64 :: r) σ
  | .i2l => ax_i1 st fun x r => K (pc + 1) L (.long x.toInt64 :: r) σ
  | .l2i => ax_l1 st fun x r => K (pc + 1) L (.int x.toInt32 :: r) σ
  | .dup => (match st with
    | .int x :: r => K (pc + 1) L (.int x :: .int x :: r) σ
    | .ref x :: r => K (pc + 1) L (.ref x :: .ref x :: r) σ
    | _ => False)
  | .dup2 => ax_ri st fun x i r => K (pc + 1) L (.int i :: .ref x :: .int i :: .ref x :: r) σ
  | .pop => ax_i1 st fun _ r => K (pc + 1) L r σ
  | .goto _ => K a L st σ
  | .ifCond .eq _ => ax_i1 st fun x r => ax_br (x = 0) (K a L r σ) (K (pc + 3) L r σ)
  | .ifCond .ne _ => ax_i1 st fun x r => ax_br (x = 0) (K (pc + 3) L r σ) (K a L r σ)
  | .ifCond .lt _ => ax_i1 st fun x r => ax_br (x < 0) (K a L r σ) (K (pc + 3) L r σ)
  | .ifCond .ge _ => ax_i1 st fun x r => ax_br (x < 0) (K (pc + 3) L r σ) (K a L r σ)
  | .ifCond .gt _ => ax_i1 st fun x r => ax_br (0 < x) (K a L r σ) (K (pc + 3) L r σ)
  | .ifCond .le _ => ax_i1 st fun x r => ax_br (0 < x) (K (pc + 3) L r σ) (K a L r σ)
  | .if_icmp .eq _ => ax_i2 st fun x y r => ax_br (x = y) (K a L r σ) (K (pc + 3) L r σ)
  | .if_icmp .ne _ => ax_i2 st fun x y r => ax_br (x = y) (K (pc + 3) L r σ) (K a L r σ)
  | .if_icmp .lt _ => ax_i2 st fun x y r => ax_br (x < y) (K a L r σ) (K (pc + 3) L r σ)
  | .if_icmp .ge _ => ax_i2 st fun x y r => ax_br (x < y) (K (pc + 3) L r σ) (K a L r σ)
  | .if_icmp .gt _ => ax_i2 st fun x y r => ax_br (y < x) (K a L r σ) (K (pc + 3) L r σ)
  | .if_icmp .le _ => ax_i2 st fun x y r => ax_br (y < x) (K (pc + 3) L r σ) (K a L r σ)
  | .ifnull _ => (match st with
    | .ref _ :: r => K (pc + 3) L r σ
    | .null :: r => K a L r σ
    | _ => False)
  | .tableswitch _ _ _ _ => ax_i1 st fun x r => ax_sw x a (fun t => K t L r σ) sw
  | .lookupswitch _ _ => ax_i1 st fun x r => ax_sw x a (fun t => K t L r σ) sw
  | .getfield _ => ax_r1 st fun x r => ax_cell x (a + 2) fun _ fs => ax_fld σ x b fs fun w => K (pc + 3) L (w :: r) σ
  | .putfield _ => (match st with
    | .int w :: .ref x :: r => ax_cell x (a + 2) fun _ fs => ax_pf b fs (K (pc + 3) L r (ax_us σ x b w))
    | _ => False)
  | .iaload => ax_ri st fun x i r => cond (Nat.beq x 2000)
      (match scr with
      | some (n, xs) => vp_in i n ∧ K (pc + 1) L (.int (xs i.toNatClampNeg) :: r) σ
      | none => False)
      (ax_cell x 0 fun n _ => vp_in i n ∧ K (pc + 1) L (.int (σ x i.toNatClampNeg) :: r) σ)
  | .baload => ax_ri st fun x i r => ax_cell x 1 fun n _ => vp_in i n ∧ K (pc + 1) L (.int (σ x i.toNatClampNeg) :: r) σ
  | .iastore => ax_rii st fun x i w r => ax_cell x 0 fun n _ => vp_in i n ∧ K (pc + 1) L r (ax_us σ x i.toNatClampNeg w)
  | .bastore => ax_rii st fun x i w r => ax_cell x 1 fun n _ => vp_in i n ∧ K (pc + 1) L r (ax_us σ x i.toNatClampNeg (vp_nar .boolean w))
  | .arraylength => ax_r1 st fun x r => cond (Nat.beq x 2000)
      (match scr with
      | some (n, _) => K (pc + 1) L (.int (Int32.ofNat n) :: r) σ
      | none => False)
      (ax_cell x 0 fun n _ => K (pc + 1) L (.int (Int32.ofNat n) :: r) σ)
  | .invokevirtual _ => ax_pop b st [] fun as r' => ax_r1 r' fun x r => cond (Nat.ble (ax_cat r) 8)
      (match a with
      | 997 => (match as with
        | [] => (match ax_tx[x - 1000]? with
          | some t => cond (Nat.ble 1000 x) (K (pc + 3) L (.int (Int32.ofNat t.length) :: r) σ) False
          | none => False)
        | _ => False)
      | 998 => (match as with
        | [.int i] => (match ax_tx[x - 1000]? with
          | some t => cond (Nat.ble 1000 x) (vp_in i t.length ∧ K (pc + 3) L (.int (t.getD i.toNatClampNeg 0) :: r) σ) False
          | none => False)
        | _ => False)
      | a => ax_cell x (c + 2) fun _ _ => ax_go C a sw (.ref x :: as) σ fun vs σ' => K (pc + 3) L (vs ++ r) σ')
      False
  | .invokestatic _ => ax_pop b st [] fun as r => cond (Nat.ble (ax_cat r) 8)
      (match a with
      | 999 => (match as with
        | [.ref x, .int sp, .ref y, .int dp, .int n] => ax_cell x 0 fun nx _ => ax_cell y 0 fun ny _ => (¬ sp < 0 ∧ ¬ dp < 0 ∧ ¬ n < 0 ∧ sp.toNatClampNeg + n.toNatClampNeg ≤ nx ∧ dp.toNatClampNeg + n.toNatClampNeg ≤ ny) ∧ K (pc + 3) L r (ax_uc σ y (va_cpy (σ x) (σ y) sp.toNatClampNeg dp.toNatClampNeg n.toNatClampNeg))
        | _ => False)
      | a => ax_go C a sw as σ fun vs σ' => K (pc + 3) L (vs ++ r) σ')
      False
  | .ireturn => (match st with
    | [.int x] => cond (Nat.beq b 0) (P (some (.int x)) σ) (vp_nar .boolean x = x ∧ P (some (.int x)) σ)
    | _ => False)
  | .areturn => (match st with
    | [.ref x] => P (some (.ref x)) σ
    | _ => False)
  | .return_ => (match st with
    | [] => P none σ
    | _ => False)
  | _ => False
def ax_fd : List ax_Rw → Nat → Option ax_Rw
  | [], _ => none
  | r :: rs, pc => cond (Nat.beq r.1 pc) (some r) (ax_fd rs pc)
def ax_rw (t : List (List ax_Rw)) (pc : Nat) : Option ax_Rw := match t[pc / 32]? with
  | some rs => ax_fd rs pc
  | none => none
def ax_ct : List (Nat × List Bool) → Nat → Option (List Bool)
  | [], _ => none
  | q :: r, pc => cond (Nat.beq q.1 pc) (some q.2) (ax_ct r pc)
def ax_wp (t : List (List ax_Rw)) (ct : List (Nat × List Bool)) (E : Nat → ax_Lc → List Value → ax_Sg → Prop) (C : ax_Ca) (P : Option Value → ax_Sg → Prop) (scr : Option (Nat × (Nat → Int32))) : Nat → Nat → ax_Lc → List Value → ax_Sg → Prop
  | 0, pc, L, st, σ => E pc L st σ
  | n + 1, pc, L, st, σ => match ax_ct ct pc with
    | some bs => E pc (ax_mk bs L) st σ
    | none => match ax_rw t pc with
      | some r => ax_ex C P scr r L st σ (fun pc L st σ => ax_wp t ct E C P scr n pc L st σ)
      | none => False
def ax_bk (t : List (List ax_Rw)) (ct : List (Nat × List Bool)) (E : Nat → ax_Lc → List Value → ax_Sg → Prop) (C : ax_Ca) (P : Option Value → ax_Sg → Prop) (scr : Option (Nat × (Nat → Int32))) (n pc : Nat) (L : ax_Lc) (st : List Value) (σ : ax_Sg) : Prop :=
  match ax_rw t pc with
  | some r => ax_ex C P scr r L st σ (fun pc L st σ => ax_wp t ct E C P scr n pc L st σ)
  | none => False
end
section
/-! the methods: their rows and tables. Written by wip/whole/gen/gen_prog.py -/
def tb_L_law_0 : List ax_Rw :=
  [(0, .new 7, 0, 0, 0, 0, 0, []),
   (3, .dup, 0, 0, 0, 0, 0, []),
   (4, .invokespecial 9, 0, 0, 0, 0, 0, []),
   (7, .astore_n 1, 1, 0, 0, 0, 0, []),
   (8, .new 10, 0, 0, 0, 0, 0, []),
   (11, .dup, 0, 0, 0, 0, 0, []),
   (12, .invokespecial 12, 0, 0, 0, 0, 0, []),
   (15, .astore_n 2, 2, 0, 0, 0, 0, []),
   (16, .iconst 0, 0, 0, 0, 0, 0, []),
   (17, .istore_n 3, 3, 0, 0, 0, 0, []),
   (18, .iload_n 3, 3, 0, 0, 0, 0, []),
   (19, .aload_n 0, 0, 0, 0, 0, 0, []),
   (20, .arraylength, 0, 0, 0, 0, 0, []),
   (21, .bipush 6, 0, 0, 0, 6, 0, []),
   (23, .isub, 0, 0, 0, 0, 0, []),
   (24, .if_icmp .gt 1170, 1194, 0, 0, 0, 0, []),
   (27, .aload_n 0, 0, 0, 0, 0, 0, []),
   (28, .iload_n 3, 3, 0, 0, 0, 0, []),
   (29, .iaload, 0, 0, 0, 0, 0, []),
   (30, .bipush 31, 0, 0, 0, 31, 0, [])]
def tb_L_law_1 : List ax_Rw :=
  [(32, .iand, 0, 0, 0, 0, 0, []),
   (33, .tableswitch 1155 0 29 #[135, 188, 211, 254, 287, 320, 333, 396, 409, 462, 505, 538, 561, 604, 667, 700, 743, 786, 829, 852, 885, 918, 951, 1004, 1027, 1040, 1063, 1086, 1109, 1132], 1188, 0, 0, 0, 0, [(0, 168), (1, 221), (2, 244), (3, 287), (4, 320), (5, 353), (6, 366), (7, 429), (8, 442), (9, 495), (10, 538), (11, 571), (12, 594), (13, 637), (14, 700), (15, 733), (16, 776), (17, 819), (18, 862), (19, 885), (20, 918), (21, 951), (22, 984), (23, 1037), (24, 1060), (25, 1073), (26, 1096), (27, 1119), (28, 1142), (29, 1165)])]
def tb_L_law_2 : List ax_Rw :=
  []
def tb_L_law_3 : List ax_Rw :=
  []
def tb_L_law_4 : List ax_Rw :=
  []
def tb_L_law_5 : List ax_Rw :=
  [(168, .aload_n 1, 1, 0, 0, 0, 0, []),
   (169, .aload_n 0, 0, 0, 0, 0, 0, []),
   (170, .iload_n 3, 3, 0, 0, 0, 0, []),
   (171, .iconst 1, 0, 0, 0, 1, 0, []),
   (172, .iadd, 0, 0, 0, 0, 0, []),
   (173, .iaload, 0, 0, 0, 0, 0, []),
   (174, .aload_n 0, 0, 0, 0, 0, 0, []),
   (175, .iload_n 3, 3, 0, 0, 0, 0, []),
   (176, .iconst 2, 0, 0, 0, 2, 0, []),
   (177, .iadd, 0, 0, 0, 0, 0, []),
   (178, .iaload, 0, 0, 0, 0, 0, []),
   (179, .aload_n 0, 0, 0, 0, 0, 0, []),
   (180, .iload_n 3, 3, 0, 0, 0, 0, []),
   (181, .iconst 3, 0, 0, 0, 3, 0, []),
   (182, .iadd, 0, 0, 0, 0, 0, []),
   (183, .iaload, 0, 0, 0, 0, 0, []),
   (184, .aload_n 0, 0, 0, 0, 0, 0, []),
   (185, .iload_n 3, 3, 0, 0, 0, 0, []),
   (186, .iconst 4, 0, 0, 0, 4, 0, []),
   (187, .iadd, 0, 0, 0, 0, 0, []),
   (188, .iaload, 0, 0, 0, 0, 0, []),
   (189, .invokevirtual 13, 72, 4, 10, 0, 0, [(0, 5), (0, 1)])]
def tb_L_law_6 : List ax_Rw :=
  [(192, .aload_n 2, 2, 0, 0, 0, 0, []),
   (193, .aload_n 0, 0, 0, 0, 0, 0, []),
   (194, .iload_n 3, 3, 0, 0, 0, 0, []),
   (195, .iconst 1, 0, 0, 0, 1, 0, []),
   (196, .iadd, 0, 0, 0, 0, 0, []),
   (197, .iaload, 0, 0, 0, 0, 0, []),
   (198, .aload_n 0, 0, 0, 0, 0, 0, []),
   (199, .iload_n 3, 3, 0, 0, 0, 0, []),
   (200, .iconst 2, 0, 0, 0, 2, 0, []),
   (201, .iadd, 0, 0, 0, 0, 0, []),
   (202, .iaload, 0, 0, 0, 0, 0, []),
   (203, .aload_n 0, 0, 0, 0, 0, 0, []),
   (204, .iload_n 3, 3, 0, 0, 0, 0, []),
   (205, .iconst 3, 0, 0, 0, 3, 0, []),
   (206, .iadd, 0, 0, 0, 0, 0, []),
   (207, .iaload, 0, 0, 0, 0, 0, []),
   (208, .aload_n 0, 0, 0, 0, 0, 0, []),
   (209, .iload_n 3, 3, 0, 0, 0, 0, []),
   (210, .iconst 4, 0, 0, 0, 4, 0, []),
   (211, .iadd, 0, 0, 0, 0, 0, []),
   (212, .iaload, 0, 0, 0, 0, 0, []),
   (213, .invokevirtual 17, 112, 4, 11, 0, 0, [(0, 6), (0, 1)]),
   (216, .if_icmp .eq 972, 1188, 0, 0, 0, 0, []),
   (219, .iconst 0, 0, 0, 0, 0, 0, []),
   (220, .ireturn, 0, 1, 0, 0, 0, []),
   (221, .aload_n 1, 1, 0, 0, 0, 0, []),
   (222, .aload_n 0, 0, 0, 0, 0, 0, []),
   (223, .iload_n 3, 3, 0, 0, 0, 0, [])]
def tb_L_law_7 : List ax_Rw :=
  [(224, .iconst 1, 0, 0, 0, 1, 0, []),
   (225, .iadd, 0, 0, 0, 0, 0, []),
   (226, .iaload, 0, 0, 0, 0, 0, []),
   (227, .invokevirtual 18, 73, 1, 10, 0, 0, [(0, 2), (0, 1)]),
   (230, .aload_n 2, 2, 0, 0, 0, 0, []),
   (231, .aload_n 0, 0, 0, 0, 0, 0, []),
   (232, .iload_n 3, 3, 0, 0, 0, 0, []),
   (233, .iconst 1, 0, 0, 0, 1, 0, []),
   (234, .iadd, 0, 0, 0, 0, 0, []),
   (235, .iaload, 0, 0, 0, 0, 0, []),
   (236, .invokevirtual 22, 113, 1, 11, 0, 0, [(0, 2), (0, 1)]),
   (239, .if_icmp .eq 949, 1188, 0, 0, 0, 0, []),
   (242, .iconst 0, 0, 0, 0, 0, 0, []),
   (243, .ireturn, 0, 1, 0, 0, 0, []),
   (244, .aload_n 1, 1, 0, 0, 0, 0, []),
   (245, .aload_n 0, 0, 0, 0, 0, 0, []),
   (246, .iload_n 3, 3, 0, 0, 0, 0, []),
   (247, .iconst 1, 0, 0, 0, 1, 0, []),
   (248, .iadd, 0, 0, 0, 0, 0, []),
   (249, .iaload, 0, 0, 0, 0, 0, []),
   (250, .aload_n 0, 0, 0, 0, 0, 0, []),
   (251, .iload_n 3, 3, 0, 0, 0, 0, []),
   (252, .iconst 2, 0, 0, 0, 2, 0, []),
   (253, .iadd, 0, 0, 0, 0, 0, []),
   (254, .iaload, 0, 0, 0, 0, 0, []),
   (255, .aload_n 0, 0, 0, 0, 0, 0, [])]
def tb_L_law_8 : List ax_Rw :=
  [(256, .iload_n 3, 3, 0, 0, 0, 0, []),
   (257, .iconst 3, 0, 0, 0, 3, 0, []),
   (258, .iadd, 0, 0, 0, 0, 0, []),
   (259, .iaload, 0, 0, 0, 0, 0, []),
   (260, .invokevirtual 23, 74, 3, 10, 0, 0, [(0, 4), (0, 1)]),
   (263, .aload_n 2, 2, 0, 0, 0, 0, []),
   (264, .aload_n 0, 0, 0, 0, 0, 0, []),
   (265, .iload_n 3, 3, 0, 0, 0, 0, []),
   (266, .iconst 1, 0, 0, 0, 1, 0, []),
   (267, .iadd, 0, 0, 0, 0, 0, []),
   (268, .iaload, 0, 0, 0, 0, 0, []),
   (269, .aload_n 0, 0, 0, 0, 0, 0, []),
   (270, .iload_n 3, 3, 0, 0, 0, 0, []),
   (271, .iconst 2, 0, 0, 0, 2, 0, []),
   (272, .iadd, 0, 0, 0, 0, 0, []),
   (273, .iaload, 0, 0, 0, 0, 0, []),
   (274, .aload_n 0, 0, 0, 0, 0, 0, []),
   (275, .iload_n 3, 3, 0, 0, 0, 0, []),
   (276, .iconst 3, 0, 0, 0, 3, 0, []),
   (277, .iadd, 0, 0, 0, 0, 0, []),
   (278, .iaload, 0, 0, 0, 0, 0, []),
   (279, .invokevirtual 27, 117, 3, 11, 0, 0, [(0, 5), (0, 1)]),
   (282, .if_icmp .eq 906, 1188, 0, 0, 0, 0, []),
   (285, .iconst 0, 0, 0, 0, 0, 0, []),
   (286, .ireturn, 0, 1, 0, 0, 0, []),
   (287, .aload_n 1, 1, 0, 0, 0, 0, [])]
def tb_L_law_9 : List ax_Rw :=
  [(288, .aload_n 0, 0, 0, 0, 0, 0, []),
   (289, .iload_n 3, 3, 0, 0, 0, 0, []),
   (290, .iconst 1, 0, 0, 0, 1, 0, []),
   (291, .iadd, 0, 0, 0, 0, 0, []),
   (292, .iaload, 0, 0, 0, 0, 0, []),
   (293, .aload_n 0, 0, 0, 0, 0, 0, []),
   (294, .iload_n 3, 3, 0, 0, 0, 0, []),
   (295, .iconst 2, 0, 0, 0, 2, 0, []),
   (296, .iadd, 0, 0, 0, 0, 0, []),
   (297, .iaload, 0, 0, 0, 0, 0, []),
   (298, .invokevirtual 28, 75, 2, 10, 0, 0, [(0, 3), (0, 1)]),
   (301, .aload_n 2, 2, 0, 0, 0, 0, []),
   (302, .aload_n 0, 0, 0, 0, 0, 0, []),
   (303, .iload_n 3, 3, 0, 0, 0, 0, []),
   (304, .iconst 1, 0, 0, 0, 1, 0, []),
   (305, .iadd, 0, 0, 0, 0, 0, []),
   (306, .iaload, 0, 0, 0, 0, 0, []),
   (307, .aload_n 0, 0, 0, 0, 0, 0, []),
   (308, .iload_n 3, 3, 0, 0, 0, 0, []),
   (309, .iconst 2, 0, 0, 0, 2, 0, []),
   (310, .iadd, 0, 0, 0, 0, 0, []),
   (311, .iaload, 0, 0, 0, 0, 0, []),
   (312, .invokevirtual 32, 118, 2, 11, 0, 0, [(0, 3), (0, 1)]),
   (315, .if_icmp .eq 873, 1188, 0, 0, 0, 0, []),
   (318, .iconst 0, 0, 0, 0, 0, 0, []),
   (319, .ireturn, 0, 1, 0, 0, 0, [])]
def tb_L_law_10 : List ax_Rw :=
  [(320, .aload_n 1, 1, 0, 0, 0, 0, []),
   (321, .aload_n 0, 0, 0, 0, 0, 0, []),
   (322, .iload_n 3, 3, 0, 0, 0, 0, []),
   (323, .iconst 1, 0, 0, 0, 1, 0, []),
   (324, .iadd, 0, 0, 0, 0, 0, []),
   (325, .iaload, 0, 0, 0, 0, 0, []),
   (326, .aload_n 0, 0, 0, 0, 0, 0, []),
   (327, .iload_n 3, 3, 0, 0, 0, 0, []),
   (328, .iconst 2, 0, 0, 0, 2, 0, []),
   (329, .iadd, 0, 0, 0, 0, 0, []),
   (330, .iaload, 0, 0, 0, 0, 0, []),
   (331, .invokevirtual 33, 76, 2, 10, 0, 0, [(0, 3), (0, 1)]),
   (334, .aload_n 2, 2, 0, 0, 0, 0, []),
   (335, .aload_n 0, 0, 0, 0, 0, 0, []),
   (336, .iload_n 3, 3, 0, 0, 0, 0, []),
   (337, .iconst 1, 0, 0, 0, 1, 0, []),
   (338, .iadd, 0, 0, 0, 0, 0, []),
   (339, .iaload, 0, 0, 0, 0, 0, []),
   (340, .aload_n 0, 0, 0, 0, 0, 0, []),
   (341, .iload_n 3, 3, 0, 0, 0, 0, []),
   (342, .iconst 2, 0, 0, 0, 2, 0, []),
   (343, .iadd, 0, 0, 0, 0, 0, []),
   (344, .iaload, 0, 0, 0, 0, 0, []),
   (345, .invokevirtual 36, 119, 2, 11, 0, 0, [(0, 3), (0, 1)]),
   (348, .if_icmp .eq 840, 1188, 0, 0, 0, 0, []),
   (351, .iconst 0, 0, 0, 0, 0, 0, [])]
def tb_L_law_11 : List ax_Rw :=
  [(352, .ireturn, 0, 1, 0, 0, 0, []),
   (353, .aload_n 1, 1, 0, 0, 0, 0, []),
   (354, .invokevirtual 37, 77, 0, 10, 0, 0, [(0, 1), (0, 1)]),
   (357, .aload_n 2, 2, 0, 0, 0, 0, []),
   (358, .invokevirtual 41, 122, 0, 11, 0, 0, [(0, 7), (0, 1)]),
   (361, .if_icmp .eq 827, 1188, 0, 0, 0, 0, []),
   (364, .iconst 0, 0, 0, 0, 0, 0, []),
   (365, .ireturn, 0, 1, 0, 0, 0, []),
   (366, .aload_n 1, 1, 0, 0, 0, 0, []),
   (367, .aload_n 0, 0, 0, 0, 0, 0, []),
   (368, .iload_n 3, 3, 0, 0, 0, 0, []),
   (369, .iconst 1, 0, 0, 0, 1, 0, []),
   (370, .iadd, 0, 0, 0, 0, 0, []),
   (371, .iaload, 0, 0, 0, 0, 0, []),
   (372, .i2l, 0, 0, 0, 0, 0, []),
   (373, .bipush 32, 0, 0, 0, 32, 0, []),
   (375, .lshl, 0, 0, 0, 0, 0, []),
   (376, .aload_n 0, 0, 0, 0, 0, 0, []),
   (377, .iload_n 3, 3, 0, 0, 0, 0, []),
   (378, .iconst 2, 0, 0, 0, 2, 0, []),
   (379, .iadd, 0, 0, 0, 0, 0, []),
   (380, .iaload, 0, 0, 0, 0, 0, []),
   (381, .i2l, 0, 0, 0, 0, 0, []),
   (382, .ldc2_w 42, 0, 0, 0, 0, 4294967295, [])]
def tb_L_law_12 : List ax_Rw :=
  [(385, .land, 0, 0, 0, 0, 0, []),
   (386, .lor, 0, 0, 0, 0, 0, []),
   (387, .aload_n 0, 0, 0, 0, 0, 0, []),
   (388, .iload_n 3, 3, 0, 0, 0, 0, []),
   (389, .iconst 3, 0, 0, 0, 3, 0, []),
   (390, .iadd, 0, 0, 0, 0, 0, []),
   (391, .iaload, 0, 0, 0, 0, 0, []),
   (392, .invokevirtual 44, 78, 2, 10, 0, 0, [(0, 4), (0, 1)]),
   (395, .aload_n 2, 2, 0, 0, 0, 0, []),
   (396, .aload_n 0, 0, 0, 0, 0, 0, []),
   (397, .iload_n 3, 3, 0, 0, 0, 0, []),
   (398, .iconst 1, 0, 0, 0, 1, 0, []),
   (399, .iadd, 0, 0, 0, 0, 0, []),
   (400, .iaload, 0, 0, 0, 0, 0, []),
   (401, .i2l, 0, 0, 0, 0, 0, []),
   (402, .bipush 32, 0, 0, 0, 32, 0, []),
   (404, .lshl, 0, 0, 0, 0, 0, []),
   (405, .aload_n 0, 0, 0, 0, 0, 0, []),
   (406, .iload_n 3, 3, 0, 0, 0, 0, []),
   (407, .iconst 2, 0, 0, 0, 2, 0, []),
   (408, .iadd, 0, 0, 0, 0, 0, []),
   (409, .iaload, 0, 0, 0, 0, 0, []),
   (410, .i2l, 0, 0, 0, 0, 0, []),
   (411, .ldc2_w 42, 0, 0, 0, 0, 4294967295, []),
   (414, .land, 0, 0, 0, 0, 0, []),
   (415, .lor, 0, 0, 0, 0, 0, [])]
def tb_L_law_13 : List ax_Rw :=
  [(416, .aload_n 0, 0, 0, 0, 0, 0, []),
   (417, .iload_n 3, 3, 0, 0, 0, 0, []),
   (418, .iconst 3, 0, 0, 0, 3, 0, []),
   (419, .iadd, 0, 0, 0, 0, 0, []),
   (420, .iaload, 0, 0, 0, 0, 0, []),
   (421, .invokevirtual 48, 123, 2, 11, 0, 0, [(0, 5), (0, 1)]),
   (424, .if_icmp .eq 764, 1188, 0, 0, 0, 0, []),
   (427, .iconst 0, 0, 0, 0, 0, 0, []),
   (428, .ireturn, 0, 1, 0, 0, 0, []),
   (429, .aload_n 1, 1, 0, 0, 0, 0, []),
   (430, .invokevirtual 49, 79, 0, 10, 0, 0, [(0, 2), (0, 1)]),
   (433, .aload_n 2, 2, 0, 0, 0, 0, []),
   (434, .invokevirtual 52, 131, 0, 11, 0, 0, [(0, 3), (0, 1)]),
   (437, .if_icmp .eq 751, 1188, 0, 0, 0, 0, []),
   (440, .iconst 0, 0, 0, 0, 0, 0, []),
   (441, .ireturn, 0, 1, 0, 0, 0, []),
   (442, .aload_n 1, 1, 0, 0, 0, 0, []),
   (443, .aload_n 0, 0, 0, 0, 0, 0, []),
   (444, .iload_n 3, 3, 0, 0, 0, 0, []),
   (445, .iconst 1, 0, 0, 0, 1, 0, []),
   (446, .iadd, 0, 0, 0, 0, 0, []),
   (447, .iaload, 0, 0, 0, 0, 0, [])]
def tb_L_law_14 : List ax_Rw :=
  [(448, .aload_n 0, 0, 0, 0, 0, 0, []),
   (449, .iload_n 3, 3, 0, 0, 0, 0, []),
   (450, .iconst 2, 0, 0, 0, 2, 0, []),
   (451, .iadd, 0, 0, 0, 0, 0, []),
   (452, .iaload, 0, 0, 0, 0, 0, []),
   (453, .aload_n 0, 0, 0, 0, 0, 0, []),
   (454, .iload_n 3, 3, 0, 0, 0, 0, []),
   (455, .iconst 3, 0, 0, 0, 3, 0, []),
   (456, .iadd, 0, 0, 0, 0, 0, []),
   (457, .iaload, 0, 0, 0, 0, 0, []),
   (458, .aload_n 0, 0, 0, 0, 0, 0, []),
   (459, .iload_n 3, 3, 0, 0, 0, 0, []),
   (460, .iconst 4, 0, 0, 0, 4, 0, []),
   (461, .iadd, 0, 0, 0, 0, 0, []),
   (462, .iaload, 0, 0, 0, 0, 0, []),
   (463, .invokevirtual 53, 80, 4, 10, 0, 0, [(0, 5), (0, 1)]),
   (466, .aload_n 2, 2, 0, 0, 0, 0, []),
   (467, .aload_n 0, 0, 0, 0, 0, 0, []),
   (468, .iload_n 3, 3, 0, 0, 0, 0, []),
   (469, .iconst 1, 0, 0, 0, 1, 0, []),
   (470, .iadd, 0, 0, 0, 0, 0, []),
   (471, .iaload, 0, 0, 0, 0, 0, []),
   (472, .aload_n 0, 0, 0, 0, 0, 0, []),
   (473, .iload_n 3, 3, 0, 0, 0, 0, []),
   (474, .iconst 2, 0, 0, 0, 2, 0, []),
   (475, .iadd, 0, 0, 0, 0, 0, []),
   (476, .iaload, 0, 0, 0, 0, 0, []),
   (477, .aload_n 0, 0, 0, 0, 0, 0, []),
   (478, .iload_n 3, 3, 0, 0, 0, 0, []),
   (479, .iconst 3, 0, 0, 0, 3, 0, [])]
def tb_L_law_15 : List ax_Rw :=
  [(480, .iadd, 0, 0, 0, 0, 0, []),
   (481, .iaload, 0, 0, 0, 0, 0, []),
   (482, .aload_n 0, 0, 0, 0, 0, 0, []),
   (483, .iload_n 3, 3, 0, 0, 0, 0, []),
   (484, .iconst 4, 0, 0, 0, 4, 0, []),
   (485, .iadd, 0, 0, 0, 0, 0, []),
   (486, .iaload, 0, 0, 0, 0, 0, []),
   (487, .invokevirtual 56, 133, 4, 11, 0, 0, [(0, 5), (0, 1)]),
   (490, .if_icmp .eq 698, 1188, 0, 0, 0, 0, []),
   (493, .iconst 0, 0, 0, 0, 0, 0, []),
   (494, .ireturn, 0, 1, 0, 0, 0, []),
   (495, .aload_n 1, 1, 0, 0, 0, 0, []),
   (496, .aload_n 0, 0, 0, 0, 0, 0, []),
   (497, .iload_n 3, 3, 0, 0, 0, 0, []),
   (498, .iconst 1, 0, 0, 0, 1, 0, []),
   (499, .iadd, 0, 0, 0, 0, 0, []),
   (500, .iaload, 0, 0, 0, 0, 0, []),
   (501, .aload_n 0, 0, 0, 0, 0, 0, []),
   (502, .iload_n 3, 3, 0, 0, 0, 0, []),
   (503, .iconst 2, 0, 0, 0, 2, 0, []),
   (504, .iadd, 0, 0, 0, 0, 0, []),
   (505, .iaload, 0, 0, 0, 0, 0, []),
   (506, .aload_n 0, 0, 0, 0, 0, 0, []),
   (507, .iload_n 3, 3, 0, 0, 0, 0, []),
   (508, .iconst 3, 0, 0, 0, 3, 0, []),
   (509, .iadd, 0, 0, 0, 0, 0, []),
   (510, .iaload, 0, 0, 0, 0, 0, []),
   (511, .invokevirtual 57, 81, 3, 10, 0, 0, [(0, 4), (0, 1)])]
def tb_L_law_16 : List ax_Rw :=
  [(514, .aload_n 2, 2, 0, 0, 0, 0, []),
   (515, .aload_n 0, 0, 0, 0, 0, 0, []),
   (516, .iload_n 3, 3, 0, 0, 0, 0, []),
   (517, .iconst 1, 0, 0, 0, 1, 0, []),
   (518, .iadd, 0, 0, 0, 0, 0, []),
   (519, .iaload, 0, 0, 0, 0, 0, []),
   (520, .aload_n 0, 0, 0, 0, 0, 0, []),
   (521, .iload_n 3, 3, 0, 0, 0, 0, []),
   (522, .iconst 2, 0, 0, 0, 2, 0, []),
   (523, .iadd, 0, 0, 0, 0, 0, []),
   (524, .iaload, 0, 0, 0, 0, 0, []),
   (525, .aload_n 0, 0, 0, 0, 0, 0, []),
   (526, .iload_n 3, 3, 0, 0, 0, 0, []),
   (527, .iconst 3, 0, 0, 0, 3, 0, []),
   (528, .iadd, 0, 0, 0, 0, 0, []),
   (529, .iaload, 0, 0, 0, 0, 0, []),
   (530, .invokevirtual 60, 134, 3, 11, 0, 0, [(0, 5), (0, 1)]),
   (533, .if_icmp .eq 655, 1188, 0, 0, 0, 0, []),
   (536, .iconst 0, 0, 0, 0, 0, 0, []),
   (537, .ireturn, 0, 1, 0, 0, 0, []),
   (538, .aload_n 1, 1, 0, 0, 0, 0, []),
   (539, .aload_n 0, 0, 0, 0, 0, 0, []),
   (540, .iload_n 3, 3, 0, 0, 0, 0, []),
   (541, .iconst 1, 0, 0, 0, 1, 0, []),
   (542, .iadd, 0, 0, 0, 0, 0, []),
   (543, .iaload, 0, 0, 0, 0, 0, [])]
def tb_L_law_17 : List ax_Rw :=
  [(544, .aload_n 0, 0, 0, 0, 0, 0, []),
   (545, .iload_n 3, 3, 0, 0, 0, 0, []),
   (546, .iconst 2, 0, 0, 0, 2, 0, []),
   (547, .iadd, 0, 0, 0, 0, 0, []),
   (548, .iaload, 0, 0, 0, 0, 0, []),
   (549, .invokevirtual 61, 82, 2, 10, 0, 0, [(0, 3), (0, 1)]),
   (552, .aload_n 2, 2, 0, 0, 0, 0, []),
   (553, .aload_n 0, 0, 0, 0, 0, 0, []),
   (554, .iload_n 3, 3, 0, 0, 0, 0, []),
   (555, .iconst 1, 0, 0, 0, 1, 0, []),
   (556, .iadd, 0, 0, 0, 0, 0, []),
   (557, .iaload, 0, 0, 0, 0, 0, []),
   (558, .aload_n 0, 0, 0, 0, 0, 0, []),
   (559, .iload_n 3, 3, 0, 0, 0, 0, []),
   (560, .iconst 2, 0, 0, 0, 2, 0, []),
   (561, .iadd, 0, 0, 0, 0, 0, []),
   (562, .iaload, 0, 0, 0, 0, 0, []),
   (563, .invokevirtual 64, 136, 2, 11, 0, 0, [(0, 4), (0, 1)]),
   (566, .if_icmp .eq 622, 1188, 0, 0, 0, 0, []),
   (569, .iconst 0, 0, 0, 0, 0, 0, []),
   (570, .ireturn, 0, 1, 0, 0, 0, []),
   (571, .aload_n 1, 1, 0, 0, 0, 0, []),
   (572, .aload_n 0, 0, 0, 0, 0, 0, []),
   (573, .iload_n 3, 3, 0, 0, 0, 0, []),
   (574, .iconst 1, 0, 0, 0, 1, 0, []),
   (575, .iadd, 0, 0, 0, 0, 0, [])]
def tb_L_law_18 : List ax_Rw :=
  [(576, .iaload, 0, 0, 0, 0, 0, []),
   (577, .invokevirtual 65, 83, 1, 10, 0, 0, [(0, 3), (0, 1)]),
   (580, .aload_n 2, 2, 0, 0, 0, 0, []),
   (581, .aload_n 0, 0, 0, 0, 0, 0, []),
   (582, .iload_n 3, 3, 0, 0, 0, 0, []),
   (583, .iconst 1, 0, 0, 0, 1, 0, []),
   (584, .iadd, 0, 0, 0, 0, 0, []),
   (585, .iaload, 0, 0, 0, 0, 0, []),
   (586, .invokevirtual 68, 142, 1, 11, 0, 0, [(0, 4), (0, 1)]),
   (589, .if_icmp .eq 599, 1188, 0, 0, 0, 0, []),
   (592, .iconst 0, 0, 0, 0, 0, 0, []),
   (593, .ireturn, 0, 1, 0, 0, 0, []),
   (594, .aload_n 1, 1, 0, 0, 0, 0, []),
   (595, .aload_n 0, 0, 0, 0, 0, 0, []),
   (596, .iload_n 3, 3, 0, 0, 0, 0, []),
   (597, .iconst 1, 0, 0, 0, 1, 0, []),
   (598, .iadd, 0, 0, 0, 0, 0, []),
   (599, .iaload, 0, 0, 0, 0, 0, []),
   (600, .aload_n 0, 0, 0, 0, 0, 0, []),
   (601, .iload_n 3, 3, 0, 0, 0, 0, []),
   (602, .iconst 2, 0, 0, 0, 2, 0, []),
   (603, .iadd, 0, 0, 0, 0, 0, []),
   (604, .iaload, 0, 0, 0, 0, 0, []),
   (605, .aload_n 0, 0, 0, 0, 0, 0, []),
   (606, .iload_n 3, 3, 0, 0, 0, 0, []),
   (607, .iconst 3, 0, 0, 0, 3, 0, [])]
def tb_L_law_19 : List ax_Rw :=
  [(608, .iadd, 0, 0, 0, 0, 0, []),
   (609, .iaload, 0, 0, 0, 0, 0, []),
   (610, .invokevirtual 69, 84, 3, 10, 0, 0, [(0, 5), (0, 1)]),
   (613, .aload_n 2, 2, 0, 0, 0, 0, []),
   (614, .aload_n 0, 0, 0, 0, 0, 0, []),
   (615, .iload_n 3, 3, 0, 0, 0, 0, []),
   (616, .iconst 1, 0, 0, 0, 1, 0, []),
   (617, .iadd, 0, 0, 0, 0, 0, []),
   (618, .iaload, 0, 0, 0, 0, 0, []),
   (619, .aload_n 0, 0, 0, 0, 0, 0, []),
   (620, .iload_n 3, 3, 0, 0, 0, 0, []),
   (621, .iconst 2, 0, 0, 0, 2, 0, []),
   (622, .iadd, 0, 0, 0, 0, 0, []),
   (623, .iaload, 0, 0, 0, 0, 0, []),
   (624, .aload_n 0, 0, 0, 0, 0, 0, []),
   (625, .iload_n 3, 3, 0, 0, 0, 0, []),
   (626, .iconst 3, 0, 0, 0, 3, 0, []),
   (627, .iadd, 0, 0, 0, 0, 0, []),
   (628, .iaload, 0, 0, 0, 0, 0, []),
   (629, .invokevirtual 72, 144, 3, 11, 0, 0, [(0, 11), (0, 1)]),
   (632, .if_icmp .eq 556, 1188, 0, 0, 0, 0, []),
   (635, .iconst 0, 0, 0, 0, 0, 0, []),
   (636, .ireturn, 0, 1, 0, 0, 0, []),
   (637, .aload_n 1, 1, 0, 0, 0, 0, []),
   (638, .aload_n 0, 0, 0, 0, 0, 0, []),
   (639, .iload_n 3, 3, 0, 0, 0, 0, [])]
def tb_L_law_20 : List ax_Rw :=
  [(640, .iconst 1, 0, 0, 0, 1, 0, []),
   (641, .iadd, 0, 0, 0, 0, 0, []),
   (642, .iaload, 0, 0, 0, 0, 0, []),
   (643, .aload_n 0, 0, 0, 0, 0, 0, []),
   (644, .iload_n 3, 3, 0, 0, 0, 0, []),
   (645, .iconst 2, 0, 0, 0, 2, 0, []),
   (646, .iadd, 0, 0, 0, 0, 0, []),
   (647, .iaload, 0, 0, 0, 0, 0, []),
   (648, .aload_n 0, 0, 0, 0, 0, 0, []),
   (649, .iload_n 3, 3, 0, 0, 0, 0, []),
   (650, .iconst 3, 0, 0, 0, 3, 0, []),
   (651, .iadd, 0, 0, 0, 0, 0, []),
   (652, .iaload, 0, 0, 0, 0, 0, []),
   (653, .aload_n 0, 0, 0, 0, 0, 0, []),
   (654, .iload_n 3, 3, 0, 0, 0, 0, []),
   (655, .iconst 4, 0, 0, 0, 4, 0, []),
   (656, .iadd, 0, 0, 0, 0, 0, []),
   (657, .iaload, 0, 0, 0, 0, 0, []),
   (658, .aload_n 0, 0, 0, 0, 0, 0, []),
   (659, .iload_n 3, 3, 0, 0, 0, 0, []),
   (660, .iconst 5, 0, 0, 0, 5, 0, []),
   (661, .iadd, 0, 0, 0, 0, 0, []),
   (662, .iaload, 0, 0, 0, 0, 0, []),
   (663, .invokevirtual 73, 85, 5, 10, 0, 0, [(0, 6), (0, 1)]),
   (666, .aload_n 2, 2, 0, 0, 0, 0, []),
   (667, .aload_n 0, 0, 0, 0, 0, 0, []),
   (668, .iload_n 3, 3, 0, 0, 0, 0, []),
   (669, .iconst 1, 0, 0, 0, 1, 0, []),
   (670, .iadd, 0, 0, 0, 0, 0, []),
   (671, .iaload, 0, 0, 0, 0, 0, [])]
def tb_L_law_21 : List ax_Rw :=
  [(672, .aload_n 0, 0, 0, 0, 0, 0, []),
   (673, .iload_n 3, 3, 0, 0, 0, 0, []),
   (674, .iconst 2, 0, 0, 0, 2, 0, []),
   (675, .iadd, 0, 0, 0, 0, 0, []),
   (676, .iaload, 0, 0, 0, 0, 0, []),
   (677, .aload_n 0, 0, 0, 0, 0, 0, []),
   (678, .iload_n 3, 3, 0, 0, 0, 0, []),
   (679, .iconst 3, 0, 0, 0, 3, 0, []),
   (680, .iadd, 0, 0, 0, 0, 0, []),
   (681, .iaload, 0, 0, 0, 0, 0, []),
   (682, .aload_n 0, 0, 0, 0, 0, 0, []),
   (683, .iload_n 3, 3, 0, 0, 0, 0, []),
   (684, .iconst 4, 0, 0, 0, 4, 0, []),
   (685, .iadd, 0, 0, 0, 0, 0, []),
   (686, .iaload, 0, 0, 0, 0, 0, []),
   (687, .aload_n 0, 0, 0, 0, 0, 0, []),
   (688, .iload_n 3, 3, 0, 0, 0, 0, []),
   (689, .iconst 5, 0, 0, 0, 5, 0, []),
   (690, .iadd, 0, 0, 0, 0, 0, []),
   (691, .iaload, 0, 0, 0, 0, 0, []),
   (692, .invokevirtual 77, 145, 5, 11, 0, 0, [(0, 8), (0, 1)]),
   (695, .if_icmp .eq 493, 1188, 0, 0, 0, 0, []),
   (698, .iconst 0, 0, 0, 0, 0, 0, []),
   (699, .ireturn, 0, 1, 0, 0, 0, []),
   (700, .aload_n 1, 1, 0, 0, 0, 0, []),
   (701, .aload_n 0, 0, 0, 0, 0, 0, []),
   (702, .iload_n 3, 3, 0, 0, 0, 0, []),
   (703, .iconst 1, 0, 0, 0, 1, 0, [])]
def tb_L_law_22 : List ax_Rw :=
  [(704, .iadd, 0, 0, 0, 0, 0, []),
   (705, .iaload, 0, 0, 0, 0, 0, []),
   (706, .aload_n 0, 0, 0, 0, 0, 0, []),
   (707, .iload_n 3, 3, 0, 0, 0, 0, []),
   (708, .iconst 2, 0, 0, 0, 2, 0, []),
   (709, .iadd, 0, 0, 0, 0, 0, []),
   (710, .iaload, 0, 0, 0, 0, 0, []),
   (711, .invokevirtual 78, 86, 2, 10, 0, 0, [(0, 3), (0, 1)]),
   (714, .aload_n 2, 2, 0, 0, 0, 0, []),
   (715, .aload_n 0, 0, 0, 0, 0, 0, []),
   (716, .iload_n 3, 3, 0, 0, 0, 0, []),
   (717, .iconst 1, 0, 0, 0, 1, 0, []),
   (718, .iadd, 0, 0, 0, 0, 0, []),
   (719, .iaload, 0, 0, 0, 0, 0, []),
   (720, .aload_n 0, 0, 0, 0, 0, 0, []),
   (721, .iload_n 3, 3, 0, 0, 0, 0, []),
   (722, .iconst 2, 0, 0, 0, 2, 0, []),
   (723, .iadd, 0, 0, 0, 0, 0, []),
   (724, .iaload, 0, 0, 0, 0, 0, []),
   (725, .invokevirtual 81, 146, 2, 11, 0, 0, [(0, 3), (0, 1)]),
   (728, .if_icmp .eq 460, 1188, 0, 0, 0, 0, []),
   (731, .iconst 0, 0, 0, 0, 0, 0, []),
   (732, .ireturn, 0, 1, 0, 0, 0, []),
   (733, .aload_n 1, 1, 0, 0, 0, 0, []),
   (734, .aload_n 0, 0, 0, 0, 0, 0, []),
   (735, .iload_n 3, 3, 0, 0, 0, 0, [])]
def tb_L_law_23 : List ax_Rw :=
  [(736, .iconst 1, 0, 0, 0, 1, 0, []),
   (737, .iadd, 0, 0, 0, 0, 0, []),
   (738, .iaload, 0, 0, 0, 0, 0, []),
   (739, .aload_n 0, 0, 0, 0, 0, 0, []),
   (740, .iload_n 3, 3, 0, 0, 0, 0, []),
   (741, .iconst 2, 0, 0, 0, 2, 0, []),
   (742, .iadd, 0, 0, 0, 0, 0, []),
   (743, .iaload, 0, 0, 0, 0, 0, []),
   (744, .aload_n 0, 0, 0, 0, 0, 0, []),
   (745, .iload_n 3, 3, 0, 0, 0, 0, []),
   (746, .iconst 3, 0, 0, 0, 3, 0, []),
   (747, .iadd, 0, 0, 0, 0, 0, []),
   (748, .iaload, 0, 0, 0, 0, 0, []),
   (749, .invokevirtual 82, 87, 3, 10, 0, 0, [(0, 4), (0, 1)]),
   (752, .aload_n 2, 2, 0, 0, 0, 0, []),
   (753, .aload_n 0, 0, 0, 0, 0, 0, []),
   (754, .iload_n 3, 3, 0, 0, 0, 0, []),
   (755, .iconst 1, 0, 0, 0, 1, 0, []),
   (756, .iadd, 0, 0, 0, 0, 0, []),
   (757, .iaload, 0, 0, 0, 0, 0, []),
   (758, .aload_n 0, 0, 0, 0, 0, 0, []),
   (759, .iload_n 3, 3, 0, 0, 0, 0, []),
   (760, .iconst 2, 0, 0, 0, 2, 0, []),
   (761, .iadd, 0, 0, 0, 0, 0, []),
   (762, .iaload, 0, 0, 0, 0, 0, []),
   (763, .aload_n 0, 0, 0, 0, 0, 0, []),
   (764, .iload_n 3, 3, 0, 0, 0, 0, []),
   (765, .iconst 3, 0, 0, 0, 3, 0, []),
   (766, .iadd, 0, 0, 0, 0, 0, []),
   (767, .iaload, 0, 0, 0, 0, 0, [])]
def tb_L_law_24 : List ax_Rw :=
  [(768, .invokevirtual 85, 149, 3, 11, 0, 0, [(0, 4), (0, 1)]),
   (771, .if_icmp .eq 417, 1188, 0, 0, 0, 0, []),
   (774, .iconst 0, 0, 0, 0, 0, 0, []),
   (775, .ireturn, 0, 1, 0, 0, 0, []),
   (776, .aload_n 1, 1, 0, 0, 0, 0, []),
   (777, .aload_n 0, 0, 0, 0, 0, 0, []),
   (778, .iload_n 3, 3, 0, 0, 0, 0, []),
   (779, .iconst 1, 0, 0, 0, 1, 0, []),
   (780, .iadd, 0, 0, 0, 0, 0, []),
   (781, .iaload, 0, 0, 0, 0, 0, []),
   (782, .aload_n 0, 0, 0, 0, 0, 0, []),
   (783, .iload_n 3, 3, 0, 0, 0, 0, []),
   (784, .iconst 2, 0, 0, 0, 2, 0, []),
   (785, .iadd, 0, 0, 0, 0, 0, []),
   (786, .iaload, 0, 0, 0, 0, 0, []),
   (787, .aload_n 0, 0, 0, 0, 0, 0, []),
   (788, .iload_n 3, 3, 0, 0, 0, 0, []),
   (789, .iconst 3, 0, 0, 0, 3, 0, []),
   (790, .iadd, 0, 0, 0, 0, 0, []),
   (791, .iaload, 0, 0, 0, 0, 0, []),
   (792, .invokevirtual 86, 88, 3, 10, 0, 0, [(0, 4), (0, 1)]),
   (795, .aload_n 2, 2, 0, 0, 0, 0, []),
   (796, .aload_n 0, 0, 0, 0, 0, 0, []),
   (797, .iload_n 3, 3, 0, 0, 0, 0, []),
   (798, .iconst 1, 0, 0, 0, 1, 0, []),
   (799, .iadd, 0, 0, 0, 0, 0, [])]
def tb_L_law_25 : List ax_Rw :=
  [(800, .iaload, 0, 0, 0, 0, 0, []),
   (801, .aload_n 0, 0, 0, 0, 0, 0, []),
   (802, .iload_n 3, 3, 0, 0, 0, 0, []),
   (803, .iconst 2, 0, 0, 0, 2, 0, []),
   (804, .iadd, 0, 0, 0, 0, 0, []),
   (805, .iaload, 0, 0, 0, 0, 0, []),
   (806, .aload_n 0, 0, 0, 0, 0, 0, []),
   (807, .iload_n 3, 3, 0, 0, 0, 0, []),
   (808, .iconst 3, 0, 0, 0, 3, 0, []),
   (809, .iadd, 0, 0, 0, 0, 0, []),
   (810, .iaload, 0, 0, 0, 0, 0, []),
   (811, .invokevirtual 89, 150, 3, 11, 0, 0, [(0, 5), (0, 1)]),
   (814, .if_icmp .eq 374, 1188, 0, 0, 0, 0, []),
   (817, .iconst 0, 0, 0, 0, 0, 0, []),
   (818, .ireturn, 0, 1, 0, 0, 0, []),
   (819, .aload_n 1, 1, 0, 0, 0, 0, []),
   (820, .aload_n 0, 0, 0, 0, 0, 0, []),
   (821, .iload_n 3, 3, 0, 0, 0, 0, []),
   (822, .iconst 1, 0, 0, 0, 1, 0, []),
   (823, .iadd, 0, 0, 0, 0, 0, []),
   (824, .iaload, 0, 0, 0, 0, 0, []),
   (825, .aload_n 0, 0, 0, 0, 0, 0, []),
   (826, .iload_n 3, 3, 0, 0, 0, 0, []),
   (827, .iconst 2, 0, 0, 0, 2, 0, []),
   (828, .iadd, 0, 0, 0, 0, 0, []),
   (829, .iaload, 0, 0, 0, 0, 0, []),
   (830, .aload_n 0, 0, 0, 0, 0, 0, []),
   (831, .iload_n 3, 3, 0, 0, 0, 0, [])]
def tb_L_law_26 : List ax_Rw :=
  [(832, .iconst 3, 0, 0, 0, 3, 0, []),
   (833, .iadd, 0, 0, 0, 0, 0, []),
   (834, .iaload, 0, 0, 0, 0, 0, []),
   (835, .invokevirtual 90, 89, 3, 10, 0, 0, [(0, 4), (0, 1)]),
   (838, .aload_n 2, 2, 0, 0, 0, 0, []),
   (839, .aload_n 0, 0, 0, 0, 0, 0, []),
   (840, .iload_n 3, 3, 0, 0, 0, 0, []),
   (841, .iconst 1, 0, 0, 0, 1, 0, []),
   (842, .iadd, 0, 0, 0, 0, 0, []),
   (843, .iaload, 0, 0, 0, 0, 0, []),
   (844, .aload_n 0, 0, 0, 0, 0, 0, []),
   (845, .iload_n 3, 3, 0, 0, 0, 0, []),
   (846, .iconst 2, 0, 0, 0, 2, 0, []),
   (847, .iadd, 0, 0, 0, 0, 0, []),
   (848, .iaload, 0, 0, 0, 0, 0, []),
   (849, .aload_n 0, 0, 0, 0, 0, 0, []),
   (850, .iload_n 3, 3, 0, 0, 0, 0, []),
   (851, .iconst 3, 0, 0, 0, 3, 0, []),
   (852, .iadd, 0, 0, 0, 0, 0, []),
   (853, .iaload, 0, 0, 0, 0, 0, []),
   (854, .invokevirtual 93, 151, 3, 11, 0, 0, [(0, 4), (0, 1)]),
   (857, .if_icmp .eq 331, 1188, 0, 0, 0, 0, []),
   (860, .iconst 0, 0, 0, 0, 0, 0, []),
   (861, .ireturn, 0, 1, 0, 0, 0, []),
   (862, .aload_n 1, 1, 0, 0, 0, 0, []),
   (863, .aload_n 0, 0, 0, 0, 0, 0, [])]
def tb_L_law_27 : List ax_Rw :=
  [(864, .iload_n 3, 3, 0, 0, 0, 0, []),
   (865, .iconst 1, 0, 0, 0, 1, 0, []),
   (866, .iadd, 0, 0, 0, 0, 0, []),
   (867, .iaload, 0, 0, 0, 0, 0, []),
   (868, .invokevirtual 94, 90, 1, 10, 0, 0, [(0, 2), (0, 1)]),
   (871, .aload_n 2, 2, 0, 0, 0, 0, []),
   (872, .aload_n 0, 0, 0, 0, 0, 0, []),
   (873, .iload_n 3, 3, 0, 0, 0, 0, []),
   (874, .iconst 1, 0, 0, 0, 1, 0, []),
   (875, .iadd, 0, 0, 0, 0, 0, []),
   (876, .iaload, 0, 0, 0, 0, 0, []),
   (877, .invokevirtual 97, 153, 1, 11, 0, 0, [(0, 2), (0, 1)]),
   (880, .if_icmp .eq 308, 1188, 0, 0, 0, 0, []),
   (883, .iconst 0, 0, 0, 0, 0, 0, []),
   (884, .ireturn, 0, 1, 0, 0, 0, []),
   (885, .aload_n 1, 1, 0, 0, 0, 0, []),
   (886, .aload_n 0, 0, 0, 0, 0, 0, []),
   (887, .iload_n 3, 3, 0, 0, 0, 0, []),
   (888, .iconst 1, 0, 0, 0, 1, 0, []),
   (889, .iadd, 0, 0, 0, 0, 0, []),
   (890, .iaload, 0, 0, 0, 0, 0, []),
   (891, .aload_n 0, 0, 0, 0, 0, 0, []),
   (892, .iload_n 3, 3, 0, 0, 0, 0, []),
   (893, .iconst 2, 0, 0, 0, 2, 0, []),
   (894, .iadd, 0, 0, 0, 0, 0, []),
   (895, .iaload, 0, 0, 0, 0, 0, [])]
def tb_L_law_28 : List ax_Rw :=
  [(896, .invokevirtual 98, 91, 2, 10, 0, 0, [(0, 5), (0, 1)]),
   (899, .aload_n 2, 2, 0, 0, 0, 0, []),
   (900, .aload_n 0, 0, 0, 0, 0, 0, []),
   (901, .iload_n 3, 3, 0, 0, 0, 0, []),
   (902, .iconst 1, 0, 0, 0, 1, 0, []),
   (903, .iadd, 0, 0, 0, 0, 0, []),
   (904, .iaload, 0, 0, 0, 0, 0, []),
   (905, .aload_n 0, 0, 0, 0, 0, 0, []),
   (906, .iload_n 3, 3, 0, 0, 0, 0, []),
   (907, .iconst 2, 0, 0, 0, 2, 0, []),
   (908, .iadd, 0, 0, 0, 0, 0, []),
   (909, .iaload, 0, 0, 0, 0, 0, []),
   (910, .invokevirtual 101, 154, 2, 11, 0, 0, [(0, 5), (0, 1)]),
   (913, .if_icmp .eq 275, 1188, 0, 0, 0, 0, []),
   (916, .iconst 0, 0, 0, 0, 0, 0, []),
   (917, .ireturn, 0, 1, 0, 0, 0, []),
   (918, .aload_n 1, 1, 0, 0, 0, 0, []),
   (919, .aload_n 0, 0, 0, 0, 0, 0, []),
   (920, .iload_n 3, 3, 0, 0, 0, 0, []),
   (921, .iconst 1, 0, 0, 0, 1, 0, []),
   (922, .iadd, 0, 0, 0, 0, 0, []),
   (923, .iaload, 0, 0, 0, 0, 0, []),
   (924, .aload_n 0, 0, 0, 0, 0, 0, []),
   (925, .iload_n 3, 3, 0, 0, 0, 0, []),
   (926, .iconst 2, 0, 0, 0, 2, 0, []),
   (927, .iadd, 0, 0, 0, 0, 0, [])]
def tb_L_law_29 : List ax_Rw :=
  [(928, .iaload, 0, 0, 0, 0, 0, []),
   (929, .invokevirtual 102, 92, 2, 10, 0, 0, [(0, 3), (0, 1)]),
   (932, .aload_n 2, 2, 0, 0, 0, 0, []),
   (933, .aload_n 0, 0, 0, 0, 0, 0, []),
   (934, .iload_n 3, 3, 0, 0, 0, 0, []),
   (935, .iconst 1, 0, 0, 0, 1, 0, []),
   (936, .iadd, 0, 0, 0, 0, 0, []),
   (937, .iaload, 0, 0, 0, 0, 0, []),
   (938, .aload_n 0, 0, 0, 0, 0, 0, []),
   (939, .iload_n 3, 3, 0, 0, 0, 0, []),
   (940, .iconst 2, 0, 0, 0, 2, 0, []),
   (941, .iadd, 0, 0, 0, 0, 0, []),
   (942, .iaload, 0, 0, 0, 0, 0, []),
   (943, .invokevirtual 105, 156, 2, 11, 0, 0, [(0, 3), (0, 1)]),
   (946, .if_icmp .eq 242, 1188, 0, 0, 0, 0, []),
   (949, .iconst 0, 0, 0, 0, 0, 0, []),
   (950, .ireturn, 0, 1, 0, 0, 0, []),
   (951, .aload_n 1, 1, 0, 0, 0, 0, []),
   (952, .aload_n 0, 0, 0, 0, 0, 0, []),
   (953, .iload_n 3, 3, 0, 0, 0, 0, []),
   (954, .iconst 1, 0, 0, 0, 1, 0, []),
   (955, .iadd, 0, 0, 0, 0, 0, []),
   (956, .iaload, 0, 0, 0, 0, 0, []),
   (957, .aload_n 0, 0, 0, 0, 0, 0, []),
   (958, .iload_n 3, 3, 0, 0, 0, 0, []),
   (959, .iconst 2, 0, 0, 0, 2, 0, [])]
def tb_L_law_30 : List ax_Rw :=
  [(960, .iadd, 0, 0, 0, 0, 0, []),
   (961, .iaload, 0, 0, 0, 0, 0, []),
   (962, .invokevirtual 106, 93, 2, 10, 0, 0, [(0, 3), (0, 1)]),
   (965, .aload_n 2, 2, 0, 0, 0, 0, []),
   (966, .aload_n 0, 0, 0, 0, 0, 0, []),
   (967, .iload_n 3, 3, 0, 0, 0, 0, []),
   (968, .iconst 1, 0, 0, 0, 1, 0, []),
   (969, .iadd, 0, 0, 0, 0, 0, []),
   (970, .iaload, 0, 0, 0, 0, 0, []),
   (971, .aload_n 0, 0, 0, 0, 0, 0, []),
   (972, .iload_n 3, 3, 0, 0, 0, 0, []),
   (973, .iconst 2, 0, 0, 0, 2, 0, []),
   (974, .iadd, 0, 0, 0, 0, 0, []),
   (975, .iaload, 0, 0, 0, 0, 0, []),
   (976, .invokevirtual 109, 157, 2, 11, 0, 0, [(0, 4), (0, 1)]),
   (979, .if_icmp .eq 209, 1188, 0, 0, 0, 0, []),
   (982, .iconst 0, 0, 0, 0, 0, 0, []),
   (983, .ireturn, 0, 1, 0, 0, 0, []),
   (984, .aload_n 1, 1, 0, 0, 0, 0, []),
   (985, .aload_n 0, 0, 0, 0, 0, 0, []),
   (986, .iload_n 3, 3, 0, 0, 0, 0, []),
   (987, .iconst 1, 0, 0, 0, 1, 0, []),
   (988, .iadd, 0, 0, 0, 0, 0, []),
   (989, .iaload, 0, 0, 0, 0, 0, []),
   (990, .aload_n 0, 0, 0, 0, 0, 0, []),
   (991, .iload_n 3, 3, 0, 0, 0, 0, [])]
def tb_L_law_31 : List ax_Rw :=
  [(992, .iconst 2, 0, 0, 0, 2, 0, []),
   (993, .iadd, 0, 0, 0, 0, 0, []),
   (994, .iaload, 0, 0, 0, 0, 0, []),
   (995, .aload_n 0, 0, 0, 0, 0, 0, []),
   (996, .iload_n 3, 3, 0, 0, 0, 0, []),
   (997, .iconst 3, 0, 0, 0, 3, 0, []),
   (998, .iadd, 0, 0, 0, 0, 0, []),
   (999, .iaload, 0, 0, 0, 0, 0, []),
   (1000, .aload_n 0, 0, 0, 0, 0, 0, []),
   (1001, .iload_n 3, 3, 0, 0, 0, 0, []),
   (1002, .iconst 4, 0, 0, 0, 4, 0, []),
   (1003, .iadd, 0, 0, 0, 0, 0, []),
   (1004, .iaload, 0, 0, 0, 0, 0, []),
   (1005, .invokevirtual 110, 94, 4, 10, 0, 0, [(0, 6), (0, 1)]),
   (1008, .aload_n 2, 2, 0, 0, 0, 0, []),
   (1009, .aload_n 0, 0, 0, 0, 0, 0, []),
   (1010, .iload_n 3, 3, 0, 0, 0, 0, []),
   (1011, .iconst 1, 0, 0, 0, 1, 0, []),
   (1012, .iadd, 0, 0, 0, 0, 0, []),
   (1013, .iaload, 0, 0, 0, 0, 0, []),
   (1014, .aload_n 0, 0, 0, 0, 0, 0, []),
   (1015, .iload_n 3, 3, 0, 0, 0, 0, []),
   (1016, .iconst 2, 0, 0, 0, 2, 0, []),
   (1017, .iadd, 0, 0, 0, 0, 0, []),
   (1018, .iaload, 0, 0, 0, 0, 0, []),
   (1019, .aload_n 0, 0, 0, 0, 0, 0, []),
   (1020, .iload_n 3, 3, 0, 0, 0, 0, []),
   (1021, .iconst 3, 0, 0, 0, 3, 0, []),
   (1022, .iadd, 0, 0, 0, 0, 0, []),
   (1023, .iaload, 0, 0, 0, 0, 0, [])]
def tb_L_law_32 : List ax_Rw :=
  [(1024, .aload_n 0, 0, 0, 0, 0, 0, []),
   (1025, .iload_n 3, 3, 0, 0, 0, 0, []),
   (1026, .iconst 4, 0, 0, 0, 4, 0, []),
   (1027, .iadd, 0, 0, 0, 0, 0, []),
   (1028, .iaload, 0, 0, 0, 0, 0, []),
   (1029, .invokevirtual 113, 158, 4, 11, 0, 0, [(0, 8), (0, 1)]),
   (1032, .if_icmp .eq 156, 1188, 0, 0, 0, 0, []),
   (1035, .iconst 0, 0, 0, 0, 0, 0, []),
   (1036, .ireturn, 0, 1, 0, 0, 0, []),
   (1037, .aload_n 1, 1, 0, 0, 0, 0, []),
   (1038, .aload_n 0, 0, 0, 0, 0, 0, []),
   (1039, .iload_n 3, 3, 0, 0, 0, 0, []),
   (1040, .iconst 1, 0, 0, 0, 1, 0, []),
   (1041, .iadd, 0, 0, 0, 0, 0, []),
   (1042, .iaload, 0, 0, 0, 0, 0, []),
   (1043, .invokevirtual 114, 95, 1, 10, 0, 0, [(0, 2), (0, 1)]),
   (1046, .aload_n 2, 2, 0, 0, 0, 0, []),
   (1047, .aload_n 0, 0, 0, 0, 0, 0, []),
   (1048, .iload_n 3, 3, 0, 0, 0, 0, []),
   (1049, .iconst 1, 0, 0, 0, 1, 0, []),
   (1050, .iadd, 0, 0, 0, 0, 0, []),
   (1051, .iaload, 0, 0, 0, 0, 0, []),
   (1052, .invokevirtual 117, 159, 1, 11, 0, 0, [(0, 2), (0, 1)]),
   (1055, .if_icmp .eq 133, 1188, 0, 0, 0, 0, [])]
def tb_L_law_33 : List ax_Rw :=
  [(1058, .iconst 0, 0, 0, 0, 0, 0, []),
   (1059, .ireturn, 0, 1, 0, 0, 0, []),
   (1060, .aload_n 1, 1, 0, 0, 0, 0, []),
   (1061, .invokevirtual 118, 96, 0, 10, 0, 0, [(0, 1), (0, 1)]),
   (1064, .aload_n 2, 2, 0, 0, 0, 0, []),
   (1065, .invokevirtual 121, 160, 0, 11, 0, 0, [(0, 2), (0, 1)]),
   (1068, .if_icmp .eq 120, 1188, 0, 0, 0, 0, []),
   (1071, .iconst 0, 0, 0, 0, 0, 0, []),
   (1072, .ireturn, 0, 1, 0, 0, 0, []),
   (1073, .aload_n 1, 1, 0, 0, 0, 0, []),
   (1074, .aload_n 0, 0, 0, 0, 0, 0, []),
   (1075, .iload_n 3, 3, 0, 0, 0, 0, []),
   (1076, .iconst 1, 0, 0, 0, 1, 0, []),
   (1077, .iadd, 0, 0, 0, 0, 0, []),
   (1078, .iaload, 0, 0, 0, 0, 0, []),
   (1079, .invokevirtual 122, 97, 1, 10, 0, 0, [(0, 2), (0, 1)]),
   (1082, .aload_n 2, 2, 0, 0, 0, 0, []),
   (1083, .aload_n 0, 0, 0, 0, 0, 0, []),
   (1084, .iload_n 3, 3, 0, 0, 0, 0, []),
   (1085, .iconst 1, 0, 0, 0, 1, 0, []),
   (1086, .iadd, 0, 0, 0, 0, 0, []),
   (1087, .iaload, 0, 0, 0, 0, 0, [])]
def tb_L_law_34 : List ax_Rw :=
  [(1088, .invokevirtual 125, 166, 1, 11, 0, 0, [(0, 2), (0, 1)]),
   (1091, .if_icmp .eq 97, 1188, 0, 0, 0, 0, []),
   (1094, .iconst 0, 0, 0, 0, 0, 0, []),
   (1095, .ireturn, 0, 1, 0, 0, 0, []),
   (1096, .aload_n 1, 1, 0, 0, 0, 0, []),
   (1097, .aload_n 0, 0, 0, 0, 0, 0, []),
   (1098, .iload_n 3, 3, 0, 0, 0, 0, []),
   (1099, .iconst 1, 0, 0, 0, 1, 0, []),
   (1100, .iadd, 0, 0, 0, 0, 0, []),
   (1101, .iaload, 0, 0, 0, 0, 0, []),
   (1102, .invokevirtual 126, 98, 1, 10, 0, 0, [(0, 2), (0, 1)]),
   (1105, .aload_n 2, 2, 0, 0, 0, 0, []),
   (1106, .aload_n 0, 0, 0, 0, 0, 0, []),
   (1107, .iload_n 3, 3, 0, 0, 0, 0, []),
   (1108, .iconst 1, 0, 0, 0, 1, 0, []),
   (1109, .iadd, 0, 0, 0, 0, 0, []),
   (1110, .iaload, 0, 0, 0, 0, 0, []),
   (1111, .invokevirtual 129, 169, 1, 11, 0, 0, [(0, 2), (0, 1)]),
   (1114, .if_icmp .eq 74, 1188, 0, 0, 0, 0, []),
   (1117, .iconst 0, 0, 0, 0, 0, 0, []),
   (1118, .ireturn, 0, 1, 0, 0, 0, []),
   (1119, .aload_n 1, 1, 0, 0, 0, 0, [])]
def tb_L_law_35 : List ax_Rw :=
  [(1120, .aload_n 0, 0, 0, 0, 0, 0, []),
   (1121, .iload_n 3, 3, 0, 0, 0, 0, []),
   (1122, .iconst 1, 0, 0, 0, 1, 0, []),
   (1123, .iadd, 0, 0, 0, 0, 0, []),
   (1124, .iaload, 0, 0, 0, 0, 0, []),
   (1125, .invokevirtual 130, 99, 1, 10, 0, 0, [(0, 4), (0, 1)]),
   (1128, .aload_n 2, 2, 0, 0, 0, 0, []),
   (1129, .aload_n 0, 0, 0, 0, 0, 0, []),
   (1130, .iload_n 3, 3, 0, 0, 0, 0, []),
   (1131, .iconst 1, 0, 0, 0, 1, 0, []),
   (1132, .iadd, 0, 0, 0, 0, 0, []),
   (1133, .iaload, 0, 0, 0, 0, 0, []),
   (1134, .invokevirtual 133, 170, 1, 11, 0, 0, [(0, 4), (0, 1)]),
   (1137, .if_icmp .eq 51, 1188, 0, 0, 0, 0, []),
   (1140, .iconst 0, 0, 0, 0, 0, 0, []),
   (1141, .ireturn, 0, 1, 0, 0, 0, []),
   (1142, .aload_n 1, 1, 0, 0, 0, 0, []),
   (1143, .aload_n 0, 0, 0, 0, 0, 0, []),
   (1144, .iload_n 3, 3, 0, 0, 0, 0, []),
   (1145, .iconst 1, 0, 0, 0, 1, 0, []),
   (1146, .iadd, 0, 0, 0, 0, 0, []),
   (1147, .iaload, 0, 0, 0, 0, 0, []),
   (1148, .invokevirtual 134, 100, 1, 10, 0, 0, [(0, 3), (0, 1)]),
   (1151, .aload_n 2, 2, 0, 0, 0, 0, [])]
def tb_L_law_36 : List ax_Rw :=
  [(1152, .aload_n 0, 0, 0, 0, 0, 0, []),
   (1153, .iload_n 3, 3, 0, 0, 0, 0, []),
   (1154, .iconst 1, 0, 0, 0, 1, 0, []),
   (1155, .iadd, 0, 0, 0, 0, 0, []),
   (1156, .iaload, 0, 0, 0, 0, 0, []),
   (1157, .invokevirtual 137, 171, 1, 11, 0, 0, [(0, 3), (0, 1)]),
   (1160, .if_icmp .eq 28, 1188, 0, 0, 0, 0, []),
   (1163, .iconst 0, 0, 0, 0, 0, 0, []),
   (1164, .ireturn, 0, 1, 0, 0, 0, []),
   (1165, .aload_n 1, 1, 0, 0, 0, 0, []),
   (1166, .aload_n 0, 0, 0, 0, 0, 0, []),
   (1167, .iload_n 3, 3, 0, 0, 0, 0, []),
   (1168, .iconst 1, 0, 0, 0, 1, 0, []),
   (1169, .iadd, 0, 0, 0, 0, 0, []),
   (1170, .iaload, 0, 0, 0, 0, 0, []),
   (1171, .invokevirtual 138, 101, 1, 10, 0, 0, [(0, 2), (0, 1)]),
   (1174, .aload_n 2, 2, 0, 0, 0, 0, []),
   (1175, .aload_n 0, 0, 0, 0, 0, 0, []),
   (1176, .iload_n 3, 3, 0, 0, 0, 0, []),
   (1177, .iconst 1, 0, 0, 0, 1, 0, []),
   (1178, .iadd, 0, 0, 0, 0, 0, []),
   (1179, .iaload, 0, 0, 0, 0, 0, []),
   (1180, .invokevirtual 141, 172, 1, 11, 0, 0, [(0, 2), (0, 1)]),
   (1183, .if_icmp .eq 5, 1188, 0, 0, 0, 0, [])]
def tb_L_law_37 : List ax_Rw :=
  [(1186, .iconst 0, 0, 0, 0, 0, 0, []),
   (1187, .ireturn, 0, 1, 0, 0, 0, []),
   (1188, .iinc 3 6, 3, 0, 0, 6, 0, []),
   (1191, .goto (-1173), 18, 0, 0, 0, 0, []),
   (1194, .iconst 1, 0, 0, 0, 1, 0, []),
   (1195, .ireturn, 0, 1, 0, 0, 0, [])]
def tb_L_law : List (List ax_Rw) := [tb_L_law_0, tb_L_law_1, tb_L_law_2, tb_L_law_3, tb_L_law_4, tb_L_law_5, tb_L_law_6, tb_L_law_7, tb_L_law_8, tb_L_law_9, tb_L_law_10, tb_L_law_11, tb_L_law_12, tb_L_law_13, tb_L_law_14, tb_L_law_15, tb_L_law_16, tb_L_law_17, tb_L_law_18, tb_L_law_19, tb_L_law_20, tb_L_law_21, tb_L_law_22, tb_L_law_23, tb_L_law_24, tb_L_law_25, tb_L_law_26, tb_L_law_27, tb_L_law_28, tb_L_law_29, tb_L_law_30, tb_L_law_31, tb_L_law_32, tb_L_law_33, tb_L_law_34, tb_L_law_35, tb_L_law_36, tb_L_law_37]
def tb_X0_at : List (List ax_Rw) := [
  [(0, .aload_n 0, 0, 0, 0, 0, 0, []),
   (1, .getfield 9, 0, 0, 0, 0, 0, []),
   (4, .iload_n 1, 1, 0, 0, 0, 0, []),
   (5, .iconst 5, 0, 0, 0, 5, 0, []),
   (6, .imul, 0, 0, 0, 0, 0, []),
   (7, .iload_n 2, 2, 0, 0, 0, 0, []),
   (8, .iadd, 0, 0, 0, 0, 0, []),
   (9, .iaload, 0, 0, 0, 0, 0, []),
   (10, .ireturn, 0, 0, 0, 0, 0, [])]]
def tb_X0_replace : List (List ax_Rw) := [
  [(0, .aload_n 0, 0, 0, 0, 0, 0, []),
   (1, .iload_n 1, 1, 0, 0, 0, 0, []),
   (2, .iload_n 2, 2, 0, 0, 0, 0, []),
   (3, .invokevirtual 15, 1, 2, 0, 0, 0, [(0, 3), (0, 1)]),
   (6, .istore 4, 4, 0, 0, 0, 0, []),
   (8, .aload_n 0, 0, 0, 0, 0, 0, []),
   (9, .getfield 9, 0, 0, 0, 0, 0, []),
   (12, .iload_n 1, 1, 0, 0, 0, 0, []),
   (13, .iconst 5, 0, 0, 0, 5, 0, []),
   (14, .imul, 0, 0, 0, 0, 0, []),
   (15, .iload_n 2, 2, 0, 0, 0, 0, []),
   (16, .iadd, 0, 0, 0, 0, 0, []),
   (17, .iload_n 3, 3, 0, 0, 0, 0, []),
   (18, .iastore, 0, 0, 0, 0, 0, []),
   (19, .iload 4, 4, 0, 0, 0, 0, []),
   (21, .ireturn, 0, 0, 0, 0, 0, [])]]
def tb_X0_ofAllWards : List (List ax_Rw) := [
  [(0, .iconst 0, 0, 0, 0, 0, 0, []),
   (1, .istore_n 2, 2, 0, 0, 0, 0, []),
   (2, .iconst 0, 0, 0, 0, 0, 0, []),
   (3, .istore_n 3, 3, 0, 0, 0, 0, []),
   (4, .iload_n 3, 3, 0, 0, 0, 0, []),
   (5, .iconst 5, 0, 0, 0, 5, 0, []),
   (6, .if_icmp .ge 18, 24, 0, 0, 0, 0, []),
   (9, .iload_n 2, 2, 0, 0, 0, 0, []),
   (10, .aload_n 0, 0, 0, 0, 0, 0, []),
   (11, .iload_n 1, 1, 0, 0, 0, 0, []),
   (12, .iload_n 3, 3, 0, 0, 0, 0, []),
   (13, .invokevirtual 15, 1, 2, 0, 0, 0, [(0, 3), (0, 1)]),
   (16, .iadd, 0, 0, 0, 0, 0, []),
   (17, .istore_n 2, 2, 0, 0, 0, 0, []),
   (18, .iinc 3 1, 3, 0, 0, 1, 0, []),
   (21, .goto (-17), 4, 0, 0, 0, 0, []),
   (24, .iload_n 2, 2, 0, 0, 0, 0, []),
   (25, .ireturn, 0, 0, 0, 0, 0, [])]]
def tb_X1_copy : List (List ax_Rw) := [
  [(0, .aload_n 1, 1, 0, 0, 0, 0, []),
   (1, .getfield 11, 1, 5, 0, 0, 0, []),
   (4, .iconst 0, 0, 0, 0, 0, 0, []),
   (5, .aload_n 0, 0, 0, 0, 0, 0, []),
   (6, .getfield 11, 1, 5, 0, 0, 0, []),
   (9, .iconst 0, 0, 0, 0, 0, 0, []),
   (10, .bipush 12, 0, 0, 0, 12, 0, []),
   (12, .invokestatic 57, 999, 5, 0, 0, 0, []),
   (15, .aload_n 1, 1, 0, 0, 0, 0, []),
   (16, .getfield 27, 1, 10, 0, 0, 0, []),
   (19, .iconst 0, 0, 0, 0, 0, 0, []),
   (20, .aload_n 0, 0, 0, 0, 0, 0, []),
   (21, .getfield 27, 1, 10, 0, 0, 0, []),
   (24, .iconst 0, 0, 0, 0, 0, 0, []),
   (25, .bipush 15, 0, 0, 0, 15, 0, []),
   (27, .invokestatic 57, 999, 5, 0, 0, 0, []),
   (30, .aload_n 1, 1, 0, 0, 0, 0, []),
   (31, .getfield 30, 1, 11, 0, 0, 0, [])],
  [(34, .iconst 0, 0, 0, 0, 0, 0, []),
   (35, .aload_n 0, 0, 0, 0, 0, 0, []),
   (36, .getfield 30, 1, 11, 0, 0, 0, []),
   (39, .iconst 0, 0, 0, 0, 0, 0, []),
   (40, .iconst 5, 0, 0, 0, 5, 0, []),
   (41, .invokestatic 57, 999, 5, 0, 0, 0, []),
   (44, .aload_n 0, 0, 0, 0, 0, 0, []),
   (45, .aload_n 1, 1, 0, 0, 0, 0, []),
   (46, .getfield 63, 1, 13, 0, 0, 0, []),
   (49, .putfield 63, 1, 13, 0, 0, 0, []),
   (52, .return_, 0, 0, 0, 0, 0, [])]]
def tb_X1_clearSums : List (List ax_Rw) := [
  [(0, .aload_n 0, 0, 0, 0, 0, 0, []),
   (1, .iconst 0, 0, 0, 0, 0, 0, []),
   (2, .putfield 67, 1, 14, 0, 0, 0, []),
   (5, .aload_n 0, 0, 0, 0, 0, 0, []),
   (6, .iconst 0, 0, 0, 0, 0, 0, []),
   (7, .putfield 70, 1, 15, 0, 0, 0, []),
   (10, .aload_n 0, 0, 0, 0, 0, 0, []),
   (11, .iconst 0, 0, 0, 0, 0, 0, []),
   (12, .putfield 73, 1, 16, 0, 0, 0, []),
   (15, .aload_n 0, 0, 0, 0, 0, 0, []),
   (16, .iconst 0, 0, 0, 0, 0, 0, []),
   (17, .putfield 76, 1, 17, 0, 0, 0, []),
   (20, .return_, 0, 0, 0, 0, 0, [])]]
def tb_X1_put : List (List ax_Rw) := [
  [(0, .aload_n 0, 0, 0, 0, 0, 0, []),
   (1, .getfield 11, 1, 5, 0, 0, 0, []),
   (4, .iload_n 1, 1, 0, 0, 0, 0, []),
   (5, .iaload, 0, 0, 0, 0, 0, []),
   (6, .istore_n 3, 3, 0, 0, 0, 0, []),
   (7, .aload_n 0, 0, 0, 0, 0, 0, []),
   (8, .getfield 11, 1, 5, 0, 0, 0, []),
   (11, .iload_n 1, 1, 0, 0, 0, 0, []),
   (12, .iload_n 2, 2, 0, 0, 0, 0, []),
   (13, .iastore, 0, 0, 0, 0, 0, []),
   (14, .iload_n 3, 3, 0, 0, 0, 0, []),
   (15, .ireturn, 0, 0, 0, 0, 0, [])]]
def tb_X1_passHours : List (List ax_Rw) := [
  [(0, .iconst 0, 0, 0, 0, 0, 0, []),
   (1, .istore_n 2, 2, 0, 0, 0, 0, []),
   (2, .iload_n 2, 2, 0, 0, 0, 0, []),
   (3, .iload_n 1, 1, 0, 0, 0, 0, []),
   (4, .if_icmp .ge 30, 34, 0, 0, 0, 0, []),
   (7, .aload_n 0, 0, 0, 0, 0, 0, []),
   (8, .aload_n 0, 0, 0, 0, 0, 0, []),
   (9, .getfield 63, 1, 13, 0, 0, 0, []),
   (12, .bipush 24, 0, 0, 0, 24, 0, []),
   (14, .irem, 0, 0, 0, 0, 0, []),
   (15, .invokevirtual 79, 8, 1, 1, 0, 0, [(0, 6), (0, 0)]),
   (18, .aload_n 0, 0, 0, 0, 0, 0, []),
   (19, .dup, 0, 0, 0, 0, 0, []),
   (20, .getfield 63, 1, 13, 0, 0, 0, []),
   (23, .iconst 1, 0, 0, 0, 1, 0, []),
   (24, .iadd, 0, 0, 0, 0, 0, []),
   (25, .putfield 63, 1, 13, 0, 0, 0, []),
   (28, .iinc 2 1, 2, 0, 0, 1, 0, []),
   (31, .goto (-29), 2, 0, 0, 0, 0, [])],
  [(34, .return_, 0, 0, 0, 0, 0, [])]]
def tb_X1_passHour_0 : List ax_Rw :=
  [(0, .iconst 0, 0, 0, 0, 0, 0, []),
   (1, .istore_n 2, 2, 0, 0, 0, 0, []),
   (2, .iload_n 2, 2, 0, 0, 0, 0, []),
   (3, .iconst 5, 0, 0, 0, 5, 0, []),
   (4, .if_icmp .ge 29, 33, 0, 0, 0, 0, []),
   (7, .aload_n 0, 0, 0, 0, 0, 0, []),
   (8, .getfield 27, 1, 10, 0, 0, 0, []),
   (11, .iload_n 2, 2, 0, 0, 0, 0, []),
   (12, .iconst 3, 0, 0, 0, 3, 0, []),
   (13, .imul, 0, 0, 0, 0, 0, []),
   (14, .dup2, 0, 0, 0, 0, 0, []),
   (15, .iaload, 0, 0, 0, 0, 0, []),
   (16, .aload_n 0, 0, 0, 0, 0, 0, []),
   (17, .getfield 49, 1, 3, 0, 0, 0, []),
   (20, .iload_n 1, 1, 0, 0, 0, 0, []),
   (21, .iload_n 2, 2, 0, 0, 0, 0, []),
   (22, .invokevirtual 83, 1, 2, 0, 0, 0, [(0, 3), (0, 1)]),
   (25, .iadd, 0, 0, 0, 0, 0, []),
   (26, .iastore, 0, 0, 0, 0, 0, []),
   (27, .iinc 2 1, 2, 0, 0, 1, 0, []),
   (30, .goto (-28), 2, 0, 0, 0, 0, [])]
def tb_X1_passHour_1 : List ax_Rw :=
  [(33, .iload_n 1, 1, 0, 0, 0, 0, []),
   (34, .iconst 4, 0, 0, 0, 4, 0, []),
   (35, .bipush 15, 0, 0, 0, 15, 0, []),
   (37, .invokestatic 89, 102, 3, 10, 0, 0, [(0, 3), (0, 1)]),
   (40, .ifCond .eq 7, 47, 0, 0, 0, 0, []),
   (43, .iconst 0, 0, 0, 0, 0, 0, []),
   (44, .goto 4, 48, 0, 0, 0, 0, []),
   (47, .iconst 1, 0, 0, 0, 1, 0, []),
   (48, .istore_n 2, 2, 0, 0, 0, 0, []),
   (49, .iconst 0, 0, 0, 0, 0, 0, []),
   (50, .istore_n 3, 3, 0, 0, 0, 0, []),
   (51, .iload_n 3, 3, 0, 0, 0, 0, []),
   (52, .aload_n 0, 0, 0, 0, 0, 0, []),
   (53, .getfield 37, 1, 0, 0, 0, 0, []),
   (56, .getfield 93, 6, 4, 0, 0, 0, []),
   (59, .if_icmp .ge 74, 133, 0, 0, 0, 0, []),
   (62, .aload_n 0, 0, 0, 0, 0, 0, []),
   (63, .getfield 41, 1, 1, 0, 0, 0, [])]
def tb_X1_passHour_2 : List ax_Rw :=
  [(66, .getfield 98, 8, 1, 0, 0, 0, []),
   (69, .iload_n 3, 3, 0, 0, 0, 0, []),
   (70, .iconst 2, 0, 0, 0, 2, 0, []),
   (71, .imul, 0, 0, 0, 0, 0, []),
   (72, .iload_n 2, 2, 0, 0, 0, 0, []),
   (73, .iadd, 0, 0, 0, 0, 0, []),
   (74, .iaload, 0, 0, 0, 0, 0, []),
   (75, .istore 4, 4, 0, 0, 0, 0, []),
   (77, .aload_n 0, 0, 0, 0, 0, 0, []),
   (78, .getfield 11, 1, 5, 0, 0, 0, []),
   (81, .iload_n 3, 3, 0, 0, 0, 0, []),
   (82, .iaload, 0, 0, 0, 0, 0, []),
   (83, .iconst (-1), 0, 0, 0, (-1), 0, []),
   (84, .if_icmp .eq 13, 97, 0, 0, 0, 0, []),
   (87, .iload 4, 4, 0, 0, 0, 0, []),
   (89, .iconst (-1), 0, 0, 0, (-1), 0, []),
   (90, .if_icmp .eq 7, 97, 0, 0, 0, 0, []),
   (93, .iconst 1, 0, 0, 0, 1, 0, []),
   (94, .goto 4, 98, 0, 0, 0, 0, [])]
def tb_X1_passHour_3 : List ax_Rw :=
  [(97, .iconst 0, 0, 0, 0, 0, 0, []),
   (98, .istore 5, 5, 0, 0, 0, 0, []),
   (100, .aload_n 0, 0, 0, 0, 0, 0, []),
   (101, .getfield 33, 1, 12, 0, 0, 0, []),
   (104, .iload_n 3, 3, 0, 0, 0, 0, []),
   (105, .iload 5, 5, 0, 0, 0, 0, []),
   (107, .ifCond .eq 18, 125, 0, 0, 0, 0, []),
   (110, .aload_n 0, 0, 0, 0, 0, 0, []),
   (111, .iload_n 3, 3, 0, 0, 0, 0, []),
   (112, .iload 4, 4, 0, 0, 0, 0, []),
   (114, .iload_n 1, 1, 0, 0, 0, 0, []),
   (115, .invokevirtual 103, 9, 3, 1, 0, 0, [(0, 8), (0, 1)]),
   (118, .ifCond .ne 7, 125, 0, 0, 0, 0, []),
   (121, .iconst 1, 0, 0, 0, 1, 0, []),
   (122, .goto 4, 126, 0, 0, 0, 0, []),
   (125, .iconst 0, 0, 0, 0, 0, 0, []),
   (126, .bastore, 0, 0, 0, 0, 0, []),
   (127, .iinc 3 1, 3, 0, 0, 1, 0, [])]
def tb_X1_passHour_4 : List ax_Rw :=
  [(130, .goto (-79), 51, 0, 0, 0, 0, []),
   (133, .iconst 0, 0, 0, 0, 0, 0, []),
   (134, .istore_n 3, 3, 0, 0, 0, 0, []),
   (135, .iload_n 3, 3, 0, 0, 0, 0, []),
   (136, .aload_n 0, 0, 0, 0, 0, 0, []),
   (137, .getfield 37, 1, 0, 0, 0, 0, []),
   (140, .getfield 93, 6, 4, 0, 0, 0, []),
   (143, .if_icmp .ge 33, 176, 0, 0, 0, 0, []),
   (146, .aload_n 0, 0, 0, 0, 0, 0, []),
   (147, .getfield 33, 1, 12, 0, 0, 0, []),
   (150, .iload_n 3, 3, 0, 0, 0, 0, []),
   (151, .baload, 0, 0, 0, 0, 0, []),
   (152, .ifCond .eq 18, 170, 0, 0, 0, 0, []),
   (155, .aload_n 0, 0, 0, 0, 0, 0, []),
   (156, .dup, 0, 0, 0, 0, 0, []),
   (157, .getfield 73, 1, 16, 0, 0, 0, [])]
def tb_X1_passHour_5 : List ax_Rw :=
  [(160, .iconst 1, 0, 0, 0, 1, 0, []),
   (161, .iadd, 0, 0, 0, 0, 0, []),
   (162, .putfield 73, 1, 16, 0, 0, 0, []),
   (165, .aload_n 0, 0, 0, 0, 0, 0, []),
   (166, .iload_n 3, 3, 0, 0, 0, 0, []),
   (167, .invokevirtual 106, 12, 1, 1, 0, 0, [(0, 5), (0, 0)]),
   (170, .iinc 3 1, 3, 0, 0, 1, 0, []),
   (173, .goto (-38), 135, 0, 0, 0, 0, []),
   (176, .iconst 0, 0, 0, 0, 0, 0, []),
   (177, .istore_n 3, 3, 0, 0, 0, 0, []),
   (178, .iload_n 3, 3, 0, 0, 0, 0, []),
   (179, .iconst 5, 0, 0, 0, 5, 0, []),
   (180, .if_icmp .ge 16, 196, 0, 0, 0, 0, []),
   (183, .aload_n 0, 0, 0, 0, 0, 0, []),
   (184, .iload_n 3, 3, 0, 0, 0, 0, []),
   (185, .iconst 3, 0, 0, 0, 3, 0, []),
   (186, .imul, 0, 0, 0, 0, 0, []),
   (187, .invokevirtual 109, 13, 1, 1, 0, 0, [(0, 3), (0, 0)]),
   (190, .iinc 3 1, 3, 0, 0, 1, 0, [])]
def tb_X1_passHour_6 : List ax_Rw :=
  [(193, .goto (-15), 178, 0, 0, 0, 0, []),
   (196, .return_, 0, 0, 0, 0, 0, [])]
def tb_X1_passHour : List (List ax_Rw) := [tb_X1_passHour_0, tb_X1_passHour_1, tb_X1_passHour_2, tb_X1_passHour_3, tb_X1_passHour_4, tb_X1_passHour_5, tb_X1_passHour_6]
def tb_X1_serve_0 : List ax_Rw :=
  [(0, .aload_n 0, 0, 0, 0, 0, 0, []),
   (1, .getfield 15, 1, 6, 0, 0, 0, []),
   (4, .iload_n 1, 1, 0, 0, 0, 0, []),
   (5, .dup2, 0, 0, 0, 0, 0, []),
   (6, .iaload, 0, 0, 0, 0, 0, []),
   (7, .iconst 1, 0, 0, 0, 1, 0, []),
   (8, .iadd, 0, 0, 0, 0, 0, []),
   (9, .iastore, 0, 0, 0, 0, 0, []),
   (10, .aload_n 0, 0, 0, 0, 0, 0, []),
   (11, .getfield 21, 1, 8, 0, 0, 0, []),
   (14, .iload_n 2, 2, 0, 0, 0, 0, []),
   (15, .dup2, 0, 0, 0, 0, 0, []),
   (16, .iaload, 0, 0, 0, 0, 0, []),
   (17, .iconst 1, 0, 0, 0, 1, 0, []),
   (18, .iadd, 0, 0, 0, 0, 0, []),
   (19, .iastore, 0, 0, 0, 0, 0, []),
   (20, .aload_n 0, 0, 0, 0, 0, 0, []),
   (21, .getfield 11, 1, 5, 0, 0, 0, []),
   (24, .iload_n 1, 1, 0, 0, 0, 0, []),
   (25, .iaload, 0, 0, 0, 0, 0, []),
   (26, .istore 4, 4, 0, 0, 0, 0, []),
   (28, .aload_n 0, 0, 0, 0, 0, 0, []),
   (29, .iload 4, 4, 0, 0, 0, 0, []),
   (31, .invokevirtual 112, 10, 1, 1, 0, 0, [(0, 3), (0, 1)])]
def tb_X1_serve_1 : List ax_Rw :=
  [(34, .istore 5, 5, 0, 0, 0, 0, []),
   (36, .iload 5, 5, 0, 0, 0, 0, []),
   (38, .iconst (-1), 0, 0, 0, (-1), 0, []),
   (39, .if_icmp .ne 5, 44, 0, 0, 0, 0, []),
   (42, .iconst 0, 0, 0, 0, 0, 0, []),
   (43, .ireturn, 0, 1, 0, 0, 0, []),
   (44, .aload_n 0, 0, 0, 0, 0, 0, []),
   (45, .getfield 27, 1, 10, 0, 0, 0, []),
   (48, .iload 4, 4, 0, 0, 0, 0, []),
   (50, .iconst 3, 0, 0, 0, 3, 0, []),
   (51, .imul, 0, 0, 0, 0, 0, []),
   (52, .iload 5, 5, 0, 0, 0, 0, []),
   (54, .iadd, 0, 0, 0, 0, 0, []),
   (55, .dup2, 0, 0, 0, 0, 0, []),
   (56, .iaload, 0, 0, 0, 0, 0, []),
   (57, .iconst 1, 0, 0, 0, 1, 0, []),
   (58, .isub, 0, 0, 0, 0, 0, []),
   (59, .iastore, 0, 0, 0, 0, 0, []),
   (60, .iload 4, 4, 0, 0, 0, 0, []),
   (62, .iconst 1, 0, 0, 0, 1, 0, []),
   (63, .iadd, 0, 0, 0, 0, 0, [])]
def tb_X1_serve_2 : List ax_Rw :=
  [(64, .aload_n 0, 0, 0, 0, 0, 0, []),
   (65, .getfield 30, 1, 11, 0, 0, 0, []),
   (68, .iload 4, 4, 0, 0, 0, 0, []),
   (70, .iaload, 0, 0, 0, 0, 0, []),
   (71, .iadd, 0, 0, 0, 0, 0, []),
   (72, .iconst 5, 0, 0, 0, 5, 0, []),
   (73, .irem, 0, 0, 0, 0, 0, []),
   (74, .istore 6, 6, 0, 0, 0, 0, []),
   (76, .aload_n 0, 0, 0, 0, 0, 0, []),
   (77, .getfield 30, 1, 11, 0, 0, 0, []),
   (80, .iload 4, 4, 0, 0, 0, 0, []),
   (82, .aload_n 0, 0, 0, 0, 0, 0, []),
   (83, .getfield 30, 1, 11, 0, 0, 0, []),
   (86, .iload 4, 4, 0, 0, 0, 0, []),
   (88, .iaload, 0, 0, 0, 0, 0, []),
   (89, .iconst 1, 0, 0, 0, 1, 0, []),
   (90, .iadd, 0, 0, 0, 0, 0, []),
   (91, .iconst 5, 0, 0, 0, 5, 0, []),
   (92, .irem, 0, 0, 0, 0, 0, []),
   (93, .iastore, 0, 0, 0, 0, 0, []),
   (94, .aload_n 0, 0, 0, 0, 0, 0, []),
   (95, .getfield 45, 1, 2, 0, 0, 0, [])]
def tb_X1_serve_3 : List ax_Rw :=
  [(98, .iload 4, 4, 0, 0, 0, 0, []),
   (100, .iload 6, 6, 0, 0, 0, 0, []),
   (102, .iload_n 3, 3, 0, 0, 0, 0, []),
   (103, .iload 5, 5, 0, 0, 0, 0, []),
   (105, .invokevirtual 116, 39, 4, 5, 0, 0, [(0, 8), (0, 1)]),
   (108, .istore 7, 7, 0, 0, 0, 0, []),
   (110, .aload_n 0, 0, 0, 0, 0, 0, []),
   (111, .getfield 18, 1, 7, 0, 0, 0, []),
   (114, .iload_n 1, 1, 0, 0, 0, 0, []),
   (115, .dup2, 0, 0, 0, 0, 0, []),
   (116, .iaload, 0, 0, 0, 0, 0, []),
   (117, .iload 7, 7, 0, 0, 0, 0, []),
   (119, .iadd, 0, 0, 0, 0, 0, []),
   (120, .iastore, 0, 0, 0, 0, 0, []),
   (121, .aload_n 0, 0, 0, 0, 0, 0, []),
   (122, .getfield 24, 1, 9, 0, 0, 0, []),
   (125, .iload_n 2, 2, 0, 0, 0, 0, []),
   (126, .dup2, 0, 0, 0, 0, 0, []),
   (127, .iaload, 0, 0, 0, 0, 0, [])]
def tb_X1_serve_4 : List ax_Rw :=
  [(128, .iload 7, 7, 0, 0, 0, 0, []),
   (130, .iadd, 0, 0, 0, 0, 0, []),
   (131, .iastore, 0, 0, 0, 0, 0, []),
   (132, .aload_n 0, 0, 0, 0, 0, 0, []),
   (133, .dup, 0, 0, 0, 0, 0, []),
   (134, .getfield 76, 1, 17, 0, 0, 0, []),
   (137, .iload 7, 7, 0, 0, 0, 0, []),
   (139, .iadd, 0, 0, 0, 0, 0, []),
   (140, .putfield 76, 1, 17, 0, 0, 0, []),
   (143, .aload_n 0, 0, 0, 0, 0, 0, []),
   (144, .dup, 0, 0, 0, 0, 0, []),
   (145, .getfield 67, 1, 14, 0, 0, 0, []),
   (148, .iconst 1, 0, 0, 0, 1, 0, []),
   (149, .iadd, 0, 0, 0, 0, 0, []),
   (150, .putfield 67, 1, 14, 0, 0, 0, []),
   (153, .aload_n 0, 0, 0, 0, 0, 0, []),
   (154, .getfield 53, 1, 4, 0, 0, 0, []),
   (157, .ifnull 21, 178, 0, 0, 0, 0, [])]
def tb_X1_serve_5 : List ax_Rw :=
  [(160, .aload_n 0, 0, 0, 0, 0, 0, []),
   (161, .getfield 53, 1, 4, 0, 0, 0, []),
   (164, .aload_n 0, 0, 0, 0, 0, 0, []),
   (165, .getfield 63, 1, 13, 0, 0, 0, []),
   (168, .iload_n 1, 1, 0, 0, 0, 0, []),
   (169, .iload 4, 4, 0, 0, 0, 0, []),
   (171, .iload 6, 6, 0, 0, 0, 0, []),
   (173, .iload 7, 7, 0, 0, 0, 0, []),
   (175, .invokevirtual 122, 50, 5, 7, 0, 0, [(0, 7), (0, 0)]),
   (178, .aload_n 0, 0, 0, 0, 0, 0, []),
   (179, .getfield 11, 1, 5, 0, 0, 0, []),
   (182, .iload_n 1, 1, 0, 0, 0, 0, []),
   (183, .aload_n 0, 0, 0, 0, 0, 0, []),
   (184, .getfield 37, 1, 0, 0, 0, 0, []),
   (187, .iload_n 1, 1, 0, 0, 0, 0, []),
   (188, .iload 6, 6, 0, 0, 0, 0, []),
   (190, .invokevirtual 128, 45, 2, 6, 0, 0, [(0, 3), (0, 1)])]
def tb_X1_serve_6 : List ax_Rw :=
  [(193, .iastore, 0, 0, 0, 0, 0, []),
   (194, .iconst 1, 0, 0, 0, 1, 0, []),
   (195, .ireturn, 0, 1, 0, 0, 0, [])]
def tb_X1_serve : List (List ax_Rw) := [tb_X1_serve_0, tb_X1_serve_1, tb_X1_serve_2, tb_X1_serve_3, tb_X1_serve_4, tb_X1_serve_5, tb_X1_serve_6]
def tb_X1_longestWait : List (List ax_Rw) := [
  [(0, .iconst 2, 0, 0, 0, 2, 0, []),
   (1, .istore_n 2, 2, 0, 0, 0, 0, []),
   (2, .iload_n 2, 2, 0, 0, 0, 0, []),
   (3, .ifCond .lt 24, 27, 0, 0, 0, 0, []),
   (6, .aload_n 0, 0, 0, 0, 0, 0, []),
   (7, .getfield 27, 1, 10, 0, 0, 0, []),
   (10, .iload_n 1, 1, 0, 0, 0, 0, []),
   (11, .iconst 3, 0, 0, 0, 3, 0, []),
   (12, .imul, 0, 0, 0, 0, 0, []),
   (13, .iload_n 2, 2, 0, 0, 0, 0, []),
   (14, .iadd, 0, 0, 0, 0, 0, []),
   (15, .iaload, 0, 0, 0, 0, 0, []),
   (16, .ifCond .le 5, 21, 0, 0, 0, 0, []),
   (19, .iload_n 2, 2, 0, 0, 0, 0, []),
   (20, .ireturn, 0, 0, 0, 0, 0, []),
   (21, .iinc 2 (-1), 2, 0, 0, (-1), 0, []),
   (24, .goto (-22), 2, 0, 0, 0, 0, []),
   (27, .iconst (-1), 0, 0, 0, (-1), 0, []),
   (28, .ireturn, 0, 0, 0, 0, 0, [])]]
def tb_X1_waitingIn : List (List ax_Rw) := [
  [(0, .iconst 0, 0, 0, 0, 0, 0, []),
   (1, .istore_n 2, 2, 0, 0, 0, 0, []),
   (2, .iconst 0, 0, 0, 0, 0, 0, []),
   (3, .istore_n 3, 3, 0, 0, 0, 0, []),
   (4, .iload_n 3, 3, 0, 0, 0, 0, []),
   (5, .iconst 3, 0, 0, 0, 3, 0, []),
   (6, .if_icmp .ge 22, 28, 0, 0, 0, 0, []),
   (9, .iload_n 2, 2, 0, 0, 0, 0, []),
   (10, .aload_n 0, 0, 0, 0, 0, 0, []),
   (11, .getfield 27, 1, 10, 0, 0, 0, []),
   (14, .iload_n 1, 1, 0, 0, 0, 0, []),
   (15, .iconst 3, 0, 0, 0, 3, 0, []),
   (16, .imul, 0, 0, 0, 0, 0, []),
   (17, .iload_n 3, 3, 0, 0, 0, 0, []),
   (18, .iadd, 0, 0, 0, 0, 0, []),
   (19, .iaload, 0, 0, 0, 0, 0, []),
   (20, .iadd, 0, 0, 0, 0, 0, []),
   (21, .istore_n 2, 2, 0, 0, 0, 0, []),
   (22, .iinc 3 1, 3, 0, 0, 1, 0, []),
   (25, .goto (-21), 4, 0, 0, 0, 0, []),
   (28, .iload_n 2, 2, 0, 0, 0, 0, []),
   (29, .ireturn, 0, 0, 0, 0, 0, [])]]
def tb_X1_roam : List (List ax_Rw) := [
  [(0, .aload_n 0, 0, 0, 0, 0, 0, []),
   (1, .getfield 11, 1, 5, 0, 0, 0, []),
   (4, .iload_n 1, 1, 0, 0, 0, 0, []),
   (5, .iaload, 0, 0, 0, 0, 0, []),
   (6, .istore_n 2, 2, 0, 0, 0, 0, []),
   (7, .aload_n 0, 0, 0, 0, 0, 0, []),
   (8, .iload_n 2, 2, 0, 0, 0, 0, []),
   (9, .invokevirtual 131, 11, 1, 1, 0, 0, [(0, 4), (0, 1)]),
   (12, .istore_n 3, 3, 0, 0, 0, 0, []),
   (13, .iconst 0, 0, 0, 0, 0, 0, []),
   (14, .istore 4, 4, 0, 0, 0, 0, []),
   (16, .iload 4, 4, 0, 0, 0, 0, []),
   (18, .iconst 5, 0, 0, 0, 5, 0, []),
   (19, .if_icmp .ge 42, 61, 0, 0, 0, 0, []),
   (22, .aload_n 0, 0, 0, 0, 0, 0, []),
   (23, .getfield 37, 1, 0, 0, 0, 0, []),
   (26, .iload_n 1, 1, 0, 0, 0, 0, []),
   (27, .iload 4, 4, 0, 0, 0, 0, []),
   (29, .invokevirtual 134, 44, 2, 6, 0, 0, [(0, 3), (0, 1)])],
  [(32, .ifCond .eq 23, 55, 0, 0, 0, 0, []),
   (35, .aload_n 0, 0, 0, 0, 0, 0, []),
   (36, .iload 4, 4, 0, 0, 0, 0, []),
   (38, .invokevirtual 131, 11, 1, 1, 0, 0, [(0, 4), (0, 1)]),
   (41, .iload_n 3, 3, 0, 0, 0, 0, []),
   (42, .if_icmp .le 13, 55, 0, 0, 0, 0, []),
   (45, .iload 4, 4, 0, 0, 0, 0, []),
   (47, .istore_n 2, 2, 0, 0, 0, 0, []),
   (48, .aload_n 0, 0, 0, 0, 0, 0, []),
   (49, .iload 4, 4, 0, 0, 0, 0, []),
   (51, .invokevirtual 131, 11, 1, 1, 0, 0, [(0, 4), (0, 1)]),
   (54, .istore_n 3, 3, 0, 0, 0, 0, []),
   (55, .iinc 4 1, 4, 0, 0, 1, 0, []),
   (58, .goto (-42), 16, 0, 0, 0, 0, []),
   (61, .aload_n 0, 0, 0, 0, 0, 0, []),
   (62, .getfield 11, 1, 5, 0, 0, 0, [])],
  [(65, .iload_n 1, 1, 0, 0, 0, 0, []),
   (66, .iload_n 2, 2, 0, 0, 0, 0, []),
   (67, .iastore, 0, 0, 0, 0, 0, []),
   (68, .return_, 0, 0, 0, 0, 0, [])]]
def tb_X1_tire : List (List ax_Rw) := [
  [(0, .aload_n 0, 0, 0, 0, 0, 0, []),
   (1, .dup, 0, 0, 0, 0, 0, []),
   (2, .getfield 70, 1, 15, 0, 0, 0, []),
   (5, .aload_n 0, 0, 0, 0, 0, 0, []),
   (6, .getfield 27, 1, 10, 0, 0, 0, []),
   (9, .iload_n 1, 1, 0, 0, 0, 0, []),
   (10, .iconst 2, 0, 0, 0, 2, 0, []),
   (11, .iadd, 0, 0, 0, 0, 0, []),
   (12, .iaload, 0, 0, 0, 0, 0, []),
   (13, .iadd, 0, 0, 0, 0, 0, []),
   (14, .putfield 70, 1, 15, 0, 0, 0, []),
   (17, .iconst 2, 0, 0, 0, 2, 0, []),
   (18, .istore_n 2, 2, 0, 0, 0, 0, []),
   (19, .iload_n 2, 2, 0, 0, 0, 0, []),
   (20, .ifCond .le 27, 47, 0, 0, 0, 0, []),
   (23, .aload_n 0, 0, 0, 0, 0, 0, []),
   (24, .getfield 27, 1, 10, 0, 0, 0, []),
   (27, .iload_n 1, 1, 0, 0, 0, 0, []),
   (28, .iload_n 2, 2, 0, 0, 0, 0, []),
   (29, .iadd, 0, 0, 0, 0, 0, []),
   (30, .aload_n 0, 0, 0, 0, 0, 0, []),
   (31, .getfield 27, 1, 10, 0, 0, 0, [])],
  [(34, .iload_n 1, 1, 0, 0, 0, 0, []),
   (35, .iload_n 2, 2, 0, 0, 0, 0, []),
   (36, .iadd, 0, 0, 0, 0, 0, []),
   (37, .iconst 1, 0, 0, 0, 1, 0, []),
   (38, .isub, 0, 0, 0, 0, 0, []),
   (39, .iaload, 0, 0, 0, 0, 0, []),
   (40, .iastore, 0, 0, 0, 0, 0, []),
   (41, .iinc 2 (-1), 2, 0, 0, (-1), 0, []),
   (44, .goto (-25), 19, 0, 0, 0, 0, []),
   (47, .aload_n 0, 0, 0, 0, 0, 0, []),
   (48, .getfield 27, 1, 10, 0, 0, 0, []),
   (51, .iload_n 1, 1, 0, 0, 0, 0, []),
   (52, .iconst 0, 0, 0, 0, 0, 0, []),
   (53, .iastore, 0, 0, 0, 0, 0, []),
   (54, .return_, 0, 0, 0, 0, 0, [])]]
def tb_X2_add : List (List ax_Rw) := [
  [(0, .aload_n 0, 0, 0, 0, 0, 0, []),
   (1, .getfield 9, 2, 1, 0, 0, 0, []),
   (4, .aload_n 0, 0, 0, 0, 0, 0, []),
   (5, .getfield 23, 2, 2, 0, 0, 0, []),
   (8, .iload_n 1, 1, 0, 0, 0, 0, []),
   (9, .iastore, 0, 0, 0, 0, 0, []),
   (10, .aload_n 0, 0, 0, 0, 0, 0, []),
   (11, .dup, 0, 0, 0, 0, 0, []),
   (12, .getfield 23, 2, 2, 0, 0, 0, []),
   (15, .iconst 1, 0, 0, 0, 1, 0, []),
   (16, .iadd, 0, 0, 0, 0, 0, []),
   (17, .putfield 23, 2, 2, 0, 0, 0, []),
   (20, .aload_n 0, 0, 0, 0, 0, 0, []),
   (21, .getfield 23, 2, 2, 0, 0, 0, []),
   (24, .iconst 1, 0, 0, 0, 1, 0, []),
   (25, .isub, 0, 0, 0, 0, 0, []),
   (26, .ireturn, 0, 0, 0, 0, 0, [])]]
def tb_X2_clear : List (List ax_Rw) := [
  [(0, .aload_n 0, 0, 0, 0, 0, 0, []),
   (1, .getfield 23, 2, 2, 0, 0, 0, []),
   (4, .istore_n 1, 1, 0, 0, 0, 0, []),
   (5, .aload_n 0, 0, 0, 0, 0, 0, []),
   (6, .iconst 0, 0, 0, 0, 0, 0, []),
   (7, .putfield 23, 2, 2, 0, 0, 0, []),
   (10, .iload_n 1, 1, 0, 0, 0, 0, []),
   (11, .ireturn, 0, 0, 0, 0, 0, [])]]
def tb_X2_arrange : List (List ax_Rw) := [
  [(0, .aload_n 0, 0, 0, 0, 0, 0, []),
   (1, .iconst 0, 0, 0, 0, 0, 0, []),
   (2, .putfield 27, 2, 5, 0, 0, 0, []),
   (5, .aload_n 0, 0, 0, 0, 0, 0, []),
   (6, .iconst 0, 0, 0, 0, 0, 0, []),
   (7, .invokevirtual 30, 21, 1, 2, 0, 0, [(0, 3), (0, 0)]),
   (10, .aload_n 0, 0, 0, 0, 0, 0, []),
   (11, .getfield 13, 2, 3, 0, 0, 0, []),
   (14, .aload_n 0, 0, 0, 0, 0, 0, []),
   (15, .invokevirtual 34, 19, 0, 2, 0, 0, [(0, 1), (0, 1)]),
   (18, .iaload, 0, 0, 0, 0, 0, []),
   (19, .ldc 38, 0, 0, 0, 1073741824, 0, []),
   (21, .if_icmp .ne 35, 56, 0, 0, 0, 0, []),
   (24, .aload_n 0, 0, 0, 0, 0, 0, []),
   (25, .getfield 27, 2, 5, 0, 0, 0, []),
   (28, .aload_n 0, 0, 0, 0, 0, 0, []),
   (29, .getfield 23, 2, 2, 0, 0, 0, [])],
  [(32, .if_icmp .ge 24, 56, 0, 0, 0, 0, []),
   (35, .aload_n 0, 0, 0, 0, 0, 0, []),
   (36, .dup, 0, 0, 0, 0, 0, []),
   (37, .getfield 27, 2, 5, 0, 0, 0, []),
   (40, .iconst 1, 0, 0, 0, 1, 0, []),
   (41, .iadd, 0, 0, 0, 0, 0, []),
   (42, .putfield 27, 2, 5, 0, 0, 0, []),
   (45, .aload_n 0, 0, 0, 0, 0, 0, []),
   (46, .aload_n 0, 0, 0, 0, 0, 0, []),
   (47, .getfield 27, 2, 5, 0, 0, 0, []),
   (50, .invokevirtual 30, 21, 1, 2, 0, 0, [(0, 3), (0, 0)]),
   (53, .goto (-43), 10, 0, 0, 0, 0, []),
   (56, .return_, 0, 0, 0, 0, 0, [])]]
def tb_X2_asksTogether : List (List ax_Rw) := [
  [(0, .aload_n 0, 0, 0, 0, 0, 0, []),
   (1, .getfield 13, 2, 3, 0, 0, 0, []),
   (4, .aload_n 0, 0, 0, 0, 0, 0, []),
   (5, .invokevirtual 34, 19, 0, 2, 0, 0, [(0, 1), (0, 1)]),
   (8, .iaload, 0, 0, 0, 0, 0, []),
   (9, .bipush 18, 0, 0, 0, 18, 0, []),
   (11, .ishr, 0, 0, 0, 0, 0, []),
   (12, .ireturn, 0, 0, 0, 0, 0, [])]]
def tb_X2_hourOf : List (List ax_Rw) := [
  [(0, .bipush 12, 0, 0, 0, 12, 0, []),
   (2, .aload_n 0, 0, 0, 0, 0, 0, []),
   (3, .getfield 13, 2, 3, 0, 0, 0, []),
   (6, .aload_n 0, 0, 0, 0, 0, 0, []),
   (7, .invokevirtual 34, 19, 0, 2, 0, 0, [(0, 1), (0, 1)]),
   (10, .iaload, 0, 0, 0, 0, 0, []),
   (11, .iload_n 1, 1, 0, 0, 0, 0, []),
   (12, .invokestatic 39, 20, 1, 2, 0, 0, [(0, 1), (0, 1)]),
   (15, .ishr, 0, 0, 0, 0, 0, []),
   (16, .bipush 7, 0, 0, 0, 7, 0, []),
   (18, .iand, 0, 0, 0, 0, 0, []),
   (19, .iadd, 0, 0, 0, 0, 0, []),
   (20, .ireturn, 0, 0, 0, 0, 0, [])]]
def tb_X2_everyFleet : List (List ax_Rw) := [
  [(0, .iconst 1, 0, 0, 0, 1, 0, []),
   (1, .aload_n 0, 0, 0, 0, 0, 0, []),
   (2, .getfield 23, 2, 2, 0, 0, 0, []),
   (5, .ishl, 0, 0, 0, 0, 0, []),
   (6, .iconst 1, 0, 0, 0, 1, 0, []),
   (7, .isub, 0, 0, 0, 0, 0, []),
   (8, .ireturn, 0, 0, 0, 0, 0, [])]]
def tb_X2_lowestBit : List (List ax_Rw) := [
  [(0, .iconst 3, 0, 0, 0, 3, 0, []),
   (1, .iconst 5, 0, 0, 0, 5, 0, []),
   (2, .iload_n 0, 0, 0, 0, 0, 0, []),
   (3, .isub, 0, 0, 0, 0, 0, []),
   (4, .imul, 0, 0, 0, 0, 0, []),
   (5, .ireturn, 0, 0, 0, 0, 0, [])]]
def tb_X2_placeAll : List (List ax_Rw) := [
  [(0, .iconst 1, 0, 0, 0, 1, 0, []),
   (1, .istore_n 2, 2, 0, 0, 0, 0, []),
   (2, .iload_n 2, 2, 0, 0, 0, 0, []),
   (3, .bipush 64, 0, 0, 0, 64, 0, []),
   (5, .if_icmp .ge 17, 22, 0, 0, 0, 0, []),
   (8, .aload_n 0, 0, 0, 0, 0, 0, []),
   (9, .getfield 13, 2, 3, 0, 0, 0, []),
   (12, .iload_n 2, 2, 0, 0, 0, 0, []),
   (13, .ldc 38, 0, 0, 0, 1073741824, 0, []),
   (15, .iastore, 0, 0, 0, 0, 0, []),
   (16, .iinc 2 1, 2, 0, 0, 1, 0, []),
   (19, .goto (-17), 2, 0, 0, 0, 0, []),
   (22, .aload_n 0, 0, 0, 0, 0, 0, []),
   (23, .getfield 13, 2, 3, 0, 0, 0, []),
   (26, .iconst 0, 0, 0, 0, 0, 0, []),
   (27, .iconst 0, 0, 0, 0, 0, 0, []),
   (28, .iastore, 0, 0, 0, 0, 0, []),
   (29, .iconst 0, 0, 0, 0, 0, 0, []),
   (30, .istore_n 2, 2, 0, 0, 0, 0, []),
   (31, .iload_n 2, 2, 0, 0, 0, 0, [])],
  [(32, .bipush 8, 0, 0, 0, 8, 0, []),
   (34, .if_icmp .ge 24, 58, 0, 0, 0, 0, []),
   (37, .aload_n 0, 0, 0, 0, 0, 0, []),
   (38, .iload_n 2, 2, 0, 0, 0, 0, []),
   (39, .invokevirtual 43, 23, 1, 2, 0, 0, [(0, 6), (0, 0)]),
   (42, .aload_n 0, 0, 0, 0, 0, 0, []),
   (43, .aload_n 0, 0, 0, 0, 0, 0, []),
   (44, .iload_n 2, 2, 0, 0, 0, 0, []),
   (45, .invokevirtual 46, 22, 1, 2, 0, 0, [(0, 4), (0, 1)]),
   (48, .iload_n 1, 1, 0, 0, 0, 0, []),
   (49, .invokevirtual 49, 24, 2, 2, 0, 0, [(0, 7), (0, 0)]),
   (52, .iinc 2 1, 2, 0, 0, 1, 0, []),
   (55, .goto (-24), 31, 0, 0, 0, 0, []),
   (58, .return_, 0, 0, 0, 0, 0, [])]]
def tb_X2_takersOf : List (List ax_Rw) := [
  [(0, .iconst 0, 0, 0, 0, 0, 0, []),
   (1, .istore_n 2, 2, 0, 0, 0, 0, []),
   (2, .iconst 0, 0, 0, 0, 0, 0, []),
   (3, .istore_n 3, 3, 0, 0, 0, 0, []),
   (4, .iload_n 3, 3, 0, 0, 0, 0, []),
   (5, .aload_n 0, 0, 0, 0, 0, 0, []),
   (6, .getfield 23, 2, 2, 0, 0, 0, []),
   (9, .if_icmp .ge 24, 33, 0, 0, 0, 0, []),
   (12, .iload_n 2, 2, 0, 0, 0, 0, []),
   (13, .aload_n 0, 0, 0, 0, 0, 0, []),
   (14, .getfield 9, 2, 1, 0, 0, 0, []),
   (17, .iload_n 3, 3, 0, 0, 0, 0, []),
   (18, .iaload, 0, 0, 0, 0, 0, []),
   (19, .iload_n 1, 1, 0, 0, 0, 0, []),
   (20, .ishr, 0, 0, 0, 0, 0, []),
   (21, .iconst 1, 0, 0, 0, 1, 0, []),
   (22, .iand, 0, 0, 0, 0, 0, []),
   (23, .iload_n 3, 3, 0, 0, 0, 0, []),
   (24, .ishl, 0, 0, 0, 0, 0, []),
   (25, .ior, 0, 0, 0, 0, 0, []),
   (26, .istore_n 2, 2, 0, 0, 0, 0, []),
   (27, .iinc 3 1, 3, 0, 0, 1, 0, []),
   (30, .goto (-26), 4, 0, 0, 0, 0, [])],
  [(33, .iload_n 2, 2, 0, 0, 0, 0, []),
   (34, .ireturn, 0, 0, 0, 0, 0, [])]]
def tb_X2_rateHour : List (List ax_Rw) := [
  [(0, .aload_n 0, 0, 0, 0, 0, 0, []),
   (1, .getfield 19, 2, 0, 0, 0, 0, []),
   (4, .bipush 12, 0, 0, 0, 12, 0, []),
   (6, .iload_n 1, 1, 0, 0, 0, 0, []),
   (7, .iadd, 0, 0, 0, 0, 0, []),
   (8, .invokevirtual 53, 3, 1, 0, 0, 0, [(0, 4), (0, 1)]),
   (11, .bipush 18, 0, 0, 0, 18, 0, []),
   (13, .ishl, 0, 0, 0, 0, 0, []),
   (14, .istore_n 2, 2, 0, 0, 0, 0, []),
   (15, .aload_n 0, 0, 0, 0, 0, 0, []),
   (16, .getfield 16, 2, 4, 0, 0, 0, []),
   (19, .iconst 0, 0, 0, 0, 0, 0, []),
   (20, .iconst 0, 0, 0, 0, 0, 0, []),
   (21, .iastore, 0, 0, 0, 0, 0, []),
   (22, .iconst 0, 0, 0, 0, 0, 0, []),
   (23, .istore_n 3, 3, 0, 0, 0, 0, []),
   (24, .iload_n 3, 3, 0, 0, 0, 0, []),
   (25, .aload_n 0, 0, 0, 0, 0, 0, []),
   (26, .getfield 23, 2, 2, 0, 0, 0, []),
   (29, .if_icmp .ge 59, 88, 0, 0, 0, 0, [])],
  [(32, .iconst 1, 0, 0, 0, 1, 0, []),
   (33, .iload_n 3, 3, 0, 0, 0, 0, []),
   (34, .ishl, 0, 0, 0, 0, 0, []),
   (35, .istore 4, 4, 0, 0, 0, 0, []),
   (37, .iload 4, 4, 0, 0, 0, 0, []),
   (39, .istore 5, 5, 0, 0, 0, 0, []),
   (41, .iload 5, 5, 0, 0, 0, 0, []),
   (43, .iconst 2, 0, 0, 0, 2, 0, []),
   (44, .iload 4, 4, 0, 0, 0, 0, []),
   (46, .imul, 0, 0, 0, 0, 0, []),
   (47, .if_icmp .ge 35, 82, 0, 0, 0, 0, []),
   (50, .aload_n 0, 0, 0, 0, 0, 0, []),
   (51, .getfield 16, 2, 4, 0, 0, 0, []),
   (54, .iload 5, 5, 0, 0, 0, 0, []),
   (56, .aload_n 0, 0, 0, 0, 0, 0, []),
   (57, .getfield 16, 2, 4, 0, 0, 0, []),
   (60, .iload 5, 5, 0, 0, 0, 0, []),
   (62, .iload 4, 4, 0, 0, 0, 0, [])],
  [(64, .isub, 0, 0, 0, 0, 0, []),
   (65, .iaload, 0, 0, 0, 0, 0, []),
   (66, .iload_n 2, 2, 0, 0, 0, 0, []),
   (67, .iadd, 0, 0, 0, 0, 0, []),
   (68, .iload_n 1, 1, 0, 0, 0, 0, []),
   (69, .iload_n 3, 3, 0, 0, 0, 0, []),
   (70, .invokestatic 39, 20, 1, 2, 0, 0, [(0, 1), (0, 1)]),
   (73, .ishl, 0, 0, 0, 0, 0, []),
   (74, .iadd, 0, 0, 0, 0, 0, []),
   (75, .iastore, 0, 0, 0, 0, 0, []),
   (76, .iinc 5 1, 5, 0, 0, 1, 0, []),
   (79, .goto (-38), 41, 0, 0, 0, 0, []),
   (82, .iinc 3 1, 3, 0, 0, 1, 0, []),
   (85, .goto (-61), 24, 0, 0, 0, 0, []),
   (88, .return_, 0, 0, 0, 0, 0, [])]]
def tb_X2_placeHour : List (List ax_Rw) := [
  [(0, .aload_n 0, 0, 0, 0, 0, 0, []),
   (1, .invokevirtual 34, 19, 0, 2, 0, 0, [(0, 1), (0, 1)]),
   (4, .istore_n 3, 3, 0, 0, 0, 0, []),
   (5, .iload_n 3, 3, 0, 0, 0, 0, []),
   (6, .ifCond .le 87, 93, 0, 0, 0, 0, []),
   (9, .iload_n 3, 3, 0, 0, 0, 0, []),
   (10, .iload_n 1, 1, 0, 0, 0, 0, []),
   (11, .iand, 0, 0, 0, 0, 0, []),
   (12, .istore 4, 4, 0, 0, 0, 0, []),
   (14, .iload 4, 4, 0, 0, 0, 0, []),
   (16, .istore 5, 5, 0, 0, 0, 0, []),
   (18, .iload 5, 5, 0, 0, 0, 0, []),
   (20, .ifCond .le 67, 87, 0, 0, 0, 0, []),
   (23, .aload_n 0, 0, 0, 0, 0, 0, []),
   (24, .getfield 13, 2, 3, 0, 0, 0, []),
   (27, .iload_n 3, 3, 0, 0, 0, 0, []),
   (28, .iload 5, 5, 0, 0, 0, 0, []),
   (30, .ixor, 0, 0, 0, 0, 0, []),
   (31, .iaload, 0, 0, 0, 0, 0, [])],
  [(32, .istore 6, 6, 0, 0, 0, 0, []),
   (34, .iload 6, 6, 0, 0, 0, 0, []),
   (36, .ldc 38, 0, 0, 0, 1073741824, 0, []),
   (38, .if_icmp .eq 37, 75, 0, 0, 0, 0, []),
   (41, .iload 5, 5, 0, 0, 0, 0, []),
   (43, .invokestatic 58, 173, 1, 13, 0, 0, [(0, 1), (0, 1)]),
   (46, .iload_n 2, 2, 0, 0, 0, 0, []),
   (47, .if_icmp .gt 28, 75, 0, 0, 0, 0, []),
   (50, .aload_n 0, 0, 0, 0, 0, 0, []),
   (51, .getfield 13, 2, 3, 0, 0, 0, []),
   (54, .iload_n 3, 3, 0, 0, 0, 0, []),
   (55, .aload_n 0, 0, 0, 0, 0, 0, []),
   (56, .getfield 13, 2, 3, 0, 0, 0, []),
   (59, .iload_n 3, 3, 0, 0, 0, 0, []),
   (60, .iaload, 0, 0, 0, 0, 0, []),
   (61, .iload 6, 6, 0, 0, 0, 0, []),
   (63, .aload_n 0, 0, 0, 0, 0, 0, [])],
  [(64, .getfield 16, 2, 4, 0, 0, 0, []),
   (67, .iload 5, 5, 0, 0, 0, 0, []),
   (69, .iaload, 0, 0, 0, 0, 0, []),
   (70, .iadd, 0, 0, 0, 0, 0, []),
   (71, .invokestatic 63, 176, 2, 14, 0, 0, [(0, 2), (0, 1)]),
   (74, .iastore, 0, 0, 0, 0, 0, []),
   (75, .iload 5, 5, 0, 0, 0, 0, []),
   (77, .iconst 1, 0, 0, 0, 1, 0, []),
   (78, .isub, 0, 0, 0, 0, 0, []),
   (79, .iload 4, 4, 0, 0, 0, 0, []),
   (81, .iand, 0, 0, 0, 0, 0, []),
   (82, .istore 5, 5, 0, 0, 0, 0, []),
   (84, .goto (-66), 18, 0, 0, 0, 0, []),
   (87, .iinc 3 (-1), 3, 0, 0, (-1), 0, []),
   (90, .goto (-85), 5, 0, 0, 0, 0, []),
   (93, .return_, 0, 0, 0, 0, 0, [])]]
def tb_X3_placeOf : List (List ax_Rw) := [
  [(0, .iconst 0, 0, 0, 0, 0, 0, []),
   (1, .istore_n 2, 2, 0, 0, 0, 0, []),
   (2, .iload_n 2, 2, 0, 0, 0, 0, []),
   (3, .aload_n 0, 0, 0, 0, 0, 0, []),
   (4, .getfield 15, 3, 1, 0, 0, 0, []),
   (7, .if_icmp .ge 21, 28, 0, 0, 0, 0, []),
   (10, .aload_n 0, 0, 0, 0, 0, 0, []),
   (11, .getfield 9, 3, 0, 0, 0, 0, []),
   (14, .iload_n 2, 2, 0, 0, 0, 0, []),
   (15, .iaload, 0, 0, 0, 0, 0, []),
   (16, .iload_n 1, 1, 0, 0, 0, 0, []),
   (17, .if_icmp .ne 5, 22, 0, 0, 0, 0, []),
   (20, .iload_n 2, 2, 0, 0, 0, 0, []),
   (21, .ireturn, 0, 0, 0, 0, 0, []),
   (22, .iinc 2 1, 2, 0, 0, 1, 0, []),
   (25, .goto (-23), 2, 0, 0, 0, 0, []),
   (28, .iconst (-1), 0, 0, 0, (-1), 0, []),
   (29, .ireturn, 0, 0, 0, 0, 0, [])]]
def tb_X3_append : List (List ax_Rw) := [
  [(0, .aload_n 0, 0, 0, 0, 0, 0, []),
   (1, .getfield 9, 3, 0, 0, 0, 0, []),
   (4, .aload_n 0, 0, 0, 0, 0, 0, []),
   (5, .getfield 15, 3, 1, 0, 0, 0, []),
   (8, .iload_n 1, 1, 0, 0, 0, 0, []),
   (9, .iastore, 0, 0, 0, 0, 0, []),
   (10, .aload_n 0, 0, 0, 0, 0, 0, []),
   (11, .dup, 0, 0, 0, 0, 0, []),
   (12, .getfield 15, 3, 1, 0, 0, 0, []),
   (15, .iconst 1, 0, 0, 0, 1, 0, []),
   (16, .iadd, 0, 0, 0, 0, 0, []),
   (17, .putfield 15, 3, 1, 0, 0, 0, []),
   (20, .aload_n 0, 0, 0, 0, 0, 0, []),
   (21, .getfield 15, 3, 1, 0, 0, 0, []),
   (24, .ireturn, 0, 0, 0, 0, 0, [])]]
def tb_X3_removeAt : List (List ax_Rw) := [
  [(0, .iload_n 1, 1, 0, 0, 0, 0, []),
   (1, .iconst 1, 0, 0, 0, 1, 0, []),
   (2, .iadd, 0, 0, 0, 0, 0, []),
   (3, .istore_n 2, 2, 0, 0, 0, 0, []),
   (4, .iload_n 2, 2, 0, 0, 0, 0, []),
   (5, .aload_n 0, 0, 0, 0, 0, 0, []),
   (6, .getfield 15, 3, 1, 0, 0, 0, []),
   (9, .if_icmp .ge 23, 32, 0, 0, 0, 0, []),
   (12, .aload_n 0, 0, 0, 0, 0, 0, []),
   (13, .getfield 9, 3, 0, 0, 0, 0, []),
   (16, .iload_n 2, 2, 0, 0, 0, 0, []),
   (17, .iconst 1, 0, 0, 0, 1, 0, []),
   (18, .isub, 0, 0, 0, 0, 0, []),
   (19, .aload_n 0, 0, 0, 0, 0, 0, []),
   (20, .getfield 9, 3, 0, 0, 0, 0, []),
   (23, .iload_n 2, 2, 0, 0, 0, 0, []),
   (24, .iaload, 0, 0, 0, 0, 0, []),
   (25, .iastore, 0, 0, 0, 0, 0, []),
   (26, .iinc 2 1, 2, 0, 0, 1, 0, []),
   (29, .goto (-25), 4, 0, 0, 0, 0, [])],
  [(32, .aload_n 0, 0, 0, 0, 0, 0, []),
   (33, .dup, 0, 0, 0, 0, 0, []),
   (34, .getfield 15, 3, 1, 0, 0, 0, []),
   (37, .iconst 1, 0, 0, 0, 1, 0, []),
   (38, .isub, 0, 0, 0, 0, 0, []),
   (39, .putfield 15, 3, 1, 0, 0, 0, []),
   (42, .return_, 0, 0, 0, 0, 0, [])]]
def tb_X4_has : List (List ax_Rw) := [
  [(0, .iload_n 1, 1, 0, 0, 0, 0, []),
   (1, .iconst 0, 0, 0, 0, 0, 0, []),
   (2, .aload_n 0, 0, 0, 0, 0, 0, []),
   (3, .getfield 22, 4, 4, 0, 0, 0, []),
   (6, .iconst 1, 0, 0, 0, 1, 0, []),
   (7, .isub, 0, 0, 0, 0, 0, []),
   (8, .invokestatic 26, 102, 3, 10, 0, 0, [(0, 3), (0, 1)]),
   (11, .ireturn, 0, 1, 0, 0, 0, [])]]
def tb_X4_add : List (List ax_Rw) := [
  [(0, .aload_n 0, 0, 0, 0, 0, 0, []),
   (1, .getfield 9, 4, 0, 0, 0, 0, []),
   (4, .aload_n 0, 0, 0, 0, 0, 0, []),
   (5, .getfield 22, 4, 4, 0, 0, 0, []),
   (8, .iload_n 1, 1, 0, 0, 0, 0, []),
   (9, .iastore, 0, 0, 0, 0, 0, []),
   (10, .aload_n 0, 0, 0, 0, 0, 0, []),
   (11, .getfield 13, 4, 1, 0, 0, 0, []),
   (14, .aload_n 0, 0, 0, 0, 0, 0, []),
   (15, .getfield 22, 4, 4, 0, 0, 0, []),
   (18, .iload_n 2, 2, 0, 0, 0, 0, []),
   (19, .iastore, 0, 0, 0, 0, 0, []),
   (20, .aload_n 0, 0, 0, 0, 0, 0, []),
   (21, .getfield 16, 4, 2, 0, 0, 0, []),
   (24, .aload_n 0, 0, 0, 0, 0, 0, []),
   (25, .getfield 22, 4, 4, 0, 0, 0, []),
   (28, .iload_n 3, 3, 0, 0, 0, 0, []),
   (29, .iastore, 0, 0, 0, 0, 0, []),
   (30, .aload_n 0, 0, 0, 0, 0, 0, []),
   (31, .dup, 0, 0, 0, 0, 0, [])],
  [(32, .getfield 22, 4, 4, 0, 0, 0, []),
   (35, .iconst 1, 0, 0, 0, 1, 0, []),
   (36, .iadd, 0, 0, 0, 0, 0, []),
   (37, .putfield 22, 4, 4, 0, 0, 0, []),
   (40, .aload_n 0, 0, 0, 0, 0, 0, []),
   (41, .getfield 22, 4, 4, 0, 0, 0, []),
   (44, .iconst 1, 0, 0, 0, 1, 0, []),
   (45, .isub, 0, 0, 0, 0, 0, []),
   (46, .ireturn, 0, 0, 0, 0, 0, [])]]
def tb_X4_debt : List (List ax_Rw) := [
  [(0, .iconst 0, 0, 0, 0, 0, 0, []),
   (1, .istore_n 2, 2, 0, 0, 0, 0, []),
   (2, .iconst 0, 0, 0, 0, 0, 0, []),
   (3, .istore_n 3, 3, 0, 0, 0, 0, []),
   (4, .iload_n 3, 3, 0, 0, 0, 0, []),
   (5, .aload_n 0, 0, 0, 0, 0, 0, []),
   (6, .getfield 22, 4, 4, 0, 0, 0, []),
   (9, .if_icmp .ge 28, 37, 0, 0, 0, 0, []),
   (12, .aload_n 0, 0, 0, 0, 0, 0, []),
   (13, .getfield 9, 4, 0, 0, 0, 0, []),
   (16, .iload_n 3, 3, 0, 0, 0, 0, []),
   (17, .iaload, 0, 0, 0, 0, 0, []),
   (18, .iload_n 1, 1, 0, 0, 0, 0, []),
   (19, .if_icmp .ne 12, 31, 0, 0, 0, 0, []),
   (22, .iload_n 2, 2, 0, 0, 0, 0, []),
   (23, .aload_n 0, 0, 0, 0, 0, 0, []),
   (24, .getfield 16, 4, 2, 0, 0, 0, []),
   (27, .iload_n 3, 3, 0, 0, 0, 0, []),
   (28, .iaload, 0, 0, 0, 0, 0, []),
   (29, .iadd, 0, 0, 0, 0, 0, []),
   (30, .istore_n 2, 2, 0, 0, 0, 0, []),
   (31, .iinc 3 1, 3, 0, 0, 1, 0, [])],
  [(34, .goto (-30), 4, 0, 0, 0, 0, []),
   (37, .iload_n 2, 2, 0, 0, 0, 0, []),
   (38, .ireturn, 0, 0, 0, 0, 0, [])]]
def tb_X4_divide : List (List ax_Rw) := [
  [(0, .iload_n 2, 2, 0, 0, 0, 0, []),
   (1, .istore_n 3, 3, 0, 0, 0, 0, []),
   (2, .iconst 0, 0, 0, 0, 0, 0, []),
   (3, .istore 4, 4, 0, 0, 0, 0, []),
   (5, .iload 4, 4, 0, 0, 0, 0, []),
   (7, .bipush 9, 0, 0, 0, 9, 0, []),
   (9, .if_icmp .gt 51, 60, 0, 0, 0, 0, []),
   (12, .aload_n 0, 0, 0, 0, 0, 0, []),
   (13, .iload_n 1, 1, 0, 0, 0, 0, []),
   (14, .iload 4, 4, 0, 0, 0, 0, []),
   (16, .invokevirtual 32, 34, 2, 4, 0, 0, [(0, 5), (0, 1)]),
   (19, .istore 5, 5, 0, 0, 0, 0, []),
   (21, .iload_n 3, 3, 0, 0, 0, 0, []),
   (22, .iload 5, 5, 0, 0, 0, 0, []),
   (24, .if_icmp .lt 18, 42, 0, 0, 0, 0, []),
   (27, .aload_n 0, 0, 0, 0, 0, 0, []),
   (28, .iload_n 1, 1, 0, 0, 0, 0, []),
   (29, .iload 4, 4, 0, 0, 0, 0, []),
   (31, .invokevirtual 36, 35, 2, 4, 0, 0, [(0, 4), (0, 0)])],
  [(34, .iload_n 3, 3, 0, 0, 0, 0, []),
   (35, .iload 5, 5, 0, 0, 0, 0, []),
   (37, .isub, 0, 0, 0, 0, 0, []),
   (38, .istore_n 3, 3, 0, 0, 0, 0, []),
   (39, .goto 15, 54, 0, 0, 0, 0, []),
   (42, .aload_n 0, 0, 0, 0, 0, 0, []),
   (43, .iload_n 1, 1, 0, 0, 0, 0, []),
   (44, .iload 4, 4, 0, 0, 0, 0, []),
   (46, .iload_n 3, 3, 0, 0, 0, 0, []),
   (47, .iload 5, 5, 0, 0, 0, 0, []),
   (49, .invokevirtual 40, 36, 4, 4, 0, 0, [(0, 7), (0, 0)]),
   (52, .iconst 0, 0, 0, 0, 0, 0, []),
   (53, .istore_n 3, 3, 0, 0, 0, 0, []),
   (54, .iinc 4 1, 4, 0, 0, 1, 0, []),
   (57, .goto (-52), 5, 0, 0, 0, 0, []),
   (60, .return_, 0, 0, 0, 0, 0, [])]]
def tb_X4_settle : List (List ax_Rw) := [
  [(0, .iconst 0, 0, 0, 0, 0, 0, []),
   (1, .istore_n 2, 2, 0, 0, 0, 0, []),
   (2, .iload_n 2, 2, 0, 0, 0, 0, []),
   (3, .aload_n 0, 0, 0, 0, 0, 0, []),
   (4, .getfield 22, 4, 4, 0, 0, 0, []),
   (7, .if_icmp .ge 31, 38, 0, 0, 0, 0, []),
   (10, .aload_n 0, 0, 0, 0, 0, 0, []),
   (11, .getfield 9, 4, 0, 0, 0, 0, []),
   (14, .iload_n 2, 2, 0, 0, 0, 0, []),
   (15, .iaload, 0, 0, 0, 0, 0, []),
   (16, .iload_n 1, 1, 0, 0, 0, 0, []),
   (17, .if_icmp .ne 15, 32, 0, 0, 0, 0, []),
   (20, .aload_n 0, 0, 0, 0, 0, 0, []),
   (21, .getfield 16, 4, 2, 0, 0, 0, []),
   (24, .iload_n 2, 2, 0, 0, 0, 0, []),
   (25, .aload_n 0, 0, 0, 0, 0, 0, []),
   (26, .getfield 19, 4, 3, 0, 0, 0, []),
   (29, .iload_n 2, 2, 0, 0, 0, 0, []),
   (30, .iaload, 0, 0, 0, 0, 0, []),
   (31, .iastore, 0, 0, 0, 0, 0, [])],
  [(32, .iinc 2 1, 2, 0, 0, 1, 0, []),
   (35, .goto (-33), 2, 0, 0, 0, 0, []),
   (38, .return_, 0, 0, 0, 0, 0, [])]]
def tb_X4_isOf : List (List ax_Rw) := [
  [(0, .aload_n 0, 0, 0, 0, 0, 0, []),
   (1, .getfield 9, 4, 0, 0, 0, 0, []),
   (4, .iload_n 1, 1, 0, 0, 0, 0, []),
   (5, .iaload, 0, 0, 0, 0, 0, []),
   (6, .iload_n 2, 2, 0, 0, 0, 0, []),
   (7, .if_icmp .ne 17, 24, 0, 0, 0, 0, []),
   (10, .aload_n 0, 0, 0, 0, 0, 0, []),
   (11, .getfield 13, 4, 1, 0, 0, 0, []),
   (14, .iload_n 1, 1, 0, 0, 0, 0, []),
   (15, .iaload, 0, 0, 0, 0, 0, []),
   (16, .iload_n 3, 3, 0, 0, 0, 0, []),
   (17, .if_icmp .ne 7, 24, 0, 0, 0, 0, []),
   (20, .iconst 1, 0, 0, 0, 1, 0, []),
   (21, .goto 4, 25, 0, 0, 0, 0, []),
   (24, .iconst 0, 0, 0, 0, 0, 0, []),
   (25, .ireturn, 0, 1, 0, 0, 0, [])]]
def tb_X4_rankDebt : List (List ax_Rw) := [
  [(0, .iconst 0, 0, 0, 0, 0, 0, []),
   (1, .istore_n 3, 3, 0, 0, 0, 0, []),
   (2, .iconst 0, 0, 0, 0, 0, 0, []),
   (3, .istore 4, 4, 0, 0, 0, 0, []),
   (5, .iload 4, 4, 0, 0, 0, 0, []),
   (7, .aload_n 0, 0, 0, 0, 0, 0, []),
   (8, .getfield 22, 4, 4, 0, 0, 0, []),
   (11, .if_icmp .ge 30, 41, 0, 0, 0, 0, []),
   (14, .aload_n 0, 0, 0, 0, 0, 0, []),
   (15, .iload 4, 4, 0, 0, 0, 0, []),
   (17, .iload_n 1, 1, 0, 0, 0, 0, []),
   (18, .iload_n 2, 2, 0, 0, 0, 0, []),
   (19, .invokevirtual 44, 33, 3, 4, 0, 0, [(0, 4), (0, 1)]),
   (22, .ifCond .eq 13, 35, 0, 0, 0, 0, []),
   (25, .iload_n 3, 3, 0, 0, 0, 0, []),
   (26, .aload_n 0, 0, 0, 0, 0, 0, []),
   (27, .getfield 16, 4, 2, 0, 0, 0, []),
   (30, .iload 4, 4, 0, 0, 0, 0, [])],
  [(32, .iaload, 0, 0, 0, 0, 0, []),
   (33, .iadd, 0, 0, 0, 0, 0, []),
   (34, .istore_n 3, 3, 0, 0, 0, 0, []),
   (35, .iinc 4 1, 4, 0, 0, 1, 0, []),
   (38, .goto (-33), 5, 0, 0, 0, 0, []),
   (41, .iload_n 3, 3, 0, 0, 0, 0, []),
   (42, .ireturn, 0, 0, 0, 0, 0, [])]]
def tb_X4_payRank : List (List ax_Rw) := [
  [(0, .iconst 0, 0, 0, 0, 0, 0, []),
   (1, .istore_n 3, 3, 0, 0, 0, 0, []),
   (2, .iload_n 3, 3, 0, 0, 0, 0, []),
   (3, .aload_n 0, 0, 0, 0, 0, 0, []),
   (4, .getfield 22, 4, 4, 0, 0, 0, []),
   (7, .if_icmp .ge 31, 38, 0, 0, 0, 0, []),
   (10, .aload_n 0, 0, 0, 0, 0, 0, []),
   (11, .iload_n 3, 3, 0, 0, 0, 0, []),
   (12, .iload_n 1, 1, 0, 0, 0, 0, []),
   (13, .iload_n 2, 2, 0, 0, 0, 0, []),
   (14, .invokevirtual 44, 33, 3, 4, 0, 0, [(0, 4), (0, 1)]),
   (17, .ifCond .eq 15, 32, 0, 0, 0, 0, []),
   (20, .aload_n 0, 0, 0, 0, 0, 0, []),
   (21, .getfield 19, 4, 3, 0, 0, 0, []),
   (24, .iload_n 3, 3, 0, 0, 0, 0, []),
   (25, .aload_n 0, 0, 0, 0, 0, 0, []),
   (26, .getfield 16, 4, 2, 0, 0, 0, []),
   (29, .iload_n 3, 3, 0, 0, 0, 0, []),
   (30, .iaload, 0, 0, 0, 0, 0, []),
   (31, .iastore, 0, 0, 0, 0, 0, [])],
  [(32, .iinc 3 1, 3, 0, 0, 1, 0, []),
   (35, .goto (-33), 2, 0, 0, 0, 0, []),
   (38, .return_, 0, 0, 0, 0, 0, [])]]
def tb_X4_shareRank : List (List ax_Rw) := [
  [(0, .iload_n 3, 3, 0, 0, 0, 0, []),
   (1, .istore 5, 5, 0, 0, 0, 0, []),
   (3, .iconst 0, 0, 0, 0, 0, 0, []),
   (4, .istore 6, 6, 0, 0, 0, 0, []),
   (6, .iload 6, 6, 0, 0, 0, 0, []),
   (8, .aload_n 0, 0, 0, 0, 0, 0, []),
   (9, .getfield 22, 4, 4, 0, 0, 0, []),
   (12, .if_icmp .ge 60, 72, 0, 0, 0, 0, []),
   (15, .aload_n 0, 0, 0, 0, 0, 0, []),
   (16, .iload 6, 6, 0, 0, 0, 0, []),
   (18, .iload_n 1, 1, 0, 0, 0, 0, []),
   (19, .iload_n 2, 2, 0, 0, 0, 0, []),
   (20, .invokevirtual 44, 33, 3, 4, 0, 0, [(0, 4), (0, 1)]),
   (23, .ifCond .eq 43, 66, 0, 0, 0, 0, []),
   (26, .iload 4, 4, 0, 0, 0, 0, []),
   (28, .ifCond .le 38, 66, 0, 0, 0, 0, []),
   (31, .aload_n 0, 0, 0, 0, 0, 0, [])],
  [(32, .getfield 19, 4, 3, 0, 0, 0, []),
   (35, .iload 6, 6, 0, 0, 0, 0, []),
   (37, .iload_n 3, 3, 0, 0, 0, 0, []),
   (38, .i2l, 0, 0, 0, 0, 0, []),
   (39, .aload_n 0, 0, 0, 0, 0, 0, []),
   (40, .getfield 16, 4, 2, 0, 0, 0, []),
   (43, .iload 6, 6, 0, 0, 0, 0, []),
   (45, .iaload, 0, 0, 0, 0, 0, []),
   (46, .i2l, 0, 0, 0, 0, 0, []),
   (47, .lmul, 0, 0, 0, 0, 0, []),
   (48, .iload 4, 4, 0, 0, 0, 0, []),
   (50, .i2l, 0, 0, 0, 0, 0, []),
   (51, .ldiv, 0, 0, 0, 0, 0, []),
   (52, .l2i, 0, 0, 0, 0, 0, []),
   (53, .iastore, 0, 0, 0, 0, 0, []),
   (54, .iload 5, 5, 0, 0, 0, 0, []),
   (56, .aload_n 0, 0, 0, 0, 0, 0, []),
   (57, .getfield 19, 4, 3, 0, 0, 0, []),
   (60, .iload 6, 6, 0, 0, 0, 0, []),
   (62, .iaload, 0, 0, 0, 0, 0, []),
   (63, .isub, 0, 0, 0, 0, 0, [])],
  [(64, .istore 5, 5, 0, 0, 0, 0, []),
   (66, .iinc 6 1, 6, 0, 0, 1, 0, []),
   (69, .goto (-63), 6, 0, 0, 0, 0, []),
   (72, .iconst 0, 0, 0, 0, 0, 0, []),
   (73, .istore 6, 6, 0, 0, 0, 0, []),
   (75, .iload 6, 6, 0, 0, 0, 0, []),
   (77, .aload_n 0, 0, 0, 0, 0, 0, []),
   (78, .getfield 22, 4, 4, 0, 0, 0, []),
   (81, .if_icmp .ge 56, 137, 0, 0, 0, 0, []),
   (84, .iload 5, 5, 0, 0, 0, 0, []),
   (86, .ifCond .le 51, 137, 0, 0, 0, 0, []),
   (89, .aload_n 0, 0, 0, 0, 0, 0, []),
   (90, .iload 6, 6, 0, 0, 0, 0, []),
   (92, .iload_n 1, 1, 0, 0, 0, 0, []),
   (93, .iload_n 2, 2, 0, 0, 0, 0, []),
   (94, .invokevirtual 44, 33, 3, 4, 0, 0, [(0, 4), (0, 1)])],
  [(97, .ifCond .eq 34, 131, 0, 0, 0, 0, []),
   (100, .aload_n 0, 0, 0, 0, 0, 0, []),
   (101, .getfield 19, 4, 3, 0, 0, 0, []),
   (104, .iload 6, 6, 0, 0, 0, 0, []),
   (106, .iaload, 0, 0, 0, 0, 0, []),
   (107, .aload_n 0, 0, 0, 0, 0, 0, []),
   (108, .getfield 16, 4, 2, 0, 0, 0, []),
   (111, .iload 6, 6, 0, 0, 0, 0, []),
   (113, .iaload, 0, 0, 0, 0, 0, []),
   (114, .if_icmp .ge 17, 131, 0, 0, 0, 0, []),
   (117, .aload_n 0, 0, 0, 0, 0, 0, []),
   (118, .getfield 19, 4, 3, 0, 0, 0, []),
   (121, .iload 6, 6, 0, 0, 0, 0, []),
   (123, .dup2, 0, 0, 0, 0, 0, []),
   (124, .iaload, 0, 0, 0, 0, 0, []),
   (125, .iconst 1, 0, 0, 0, 1, 0, []),
   (126, .iadd, 0, 0, 0, 0, 0, []),
   (127, .iastore, 0, 0, 0, 0, 0, [])],
  [(128, .iinc 5 (-1), 5, 0, 0, (-1), 0, []),
   (131, .iinc 6 1, 6, 0, 0, 1, 0, []),
   (134, .goto (-59), 75, 0, 0, 0, 0, []),
   (137, .return_, 0, 0, 0, 0, 0, [])]]
def tb_X5_add : List (List ax_Rw) := [
  [(0, .aload_n 0, 0, 0, 0, 0, 0, []),
   (1, .getfield 9, 5, 0, 0, 0, 0, []),
   (4, .aload_n 0, 0, 0, 0, 0, 0, []),
   (5, .getfield 19, 5, 3, 0, 0, 0, []),
   (8, .iload_n 1, 1, 0, 0, 0, 0, []),
   (9, .iastore, 0, 0, 0, 0, 0, []),
   (10, .aload_n 0, 0, 0, 0, 0, 0, []),
   (11, .getfield 13, 5, 1, 0, 0, 0, []),
   (14, .aload_n 0, 0, 0, 0, 0, 0, []),
   (15, .getfield 19, 5, 3, 0, 0, 0, []),
   (18, .iload_n 2, 2, 0, 0, 0, 0, []),
   (19, .iastore, 0, 0, 0, 0, 0, []),
   (20, .aload_n 0, 0, 0, 0, 0, 0, []),
   (21, .getfield 16, 5, 2, 0, 0, 0, []),
   (24, .aload_n 0, 0, 0, 0, 0, 0, []),
   (25, .getfield 19, 5, 3, 0, 0, 0, []),
   (28, .iload_n 3, 3, 0, 0, 0, 0, []),
   (29, .iastore, 0, 0, 0, 0, 0, []),
   (30, .aload_n 0, 0, 0, 0, 0, 0, []),
   (31, .dup, 0, 0, 0, 0, 0, [])],
  [(32, .getfield 19, 5, 3, 0, 0, 0, []),
   (35, .iconst 1, 0, 0, 0, 1, 0, []),
   (36, .iadd, 0, 0, 0, 0, 0, []),
   (37, .putfield 19, 5, 3, 0, 0, 0, []),
   (40, .return_, 0, 0, 0, 0, 0, [])]]
def tb_X5_copy : List (List ax_Rw) := [
  [(0, .iconst 0, 0, 0, 0, 0, 0, []),
   (1, .istore_n 2, 2, 0, 0, 0, 0, []),
   (2, .iload_n 2, 2, 0, 0, 0, 0, []),
   (3, .aload_n 1, 1, 0, 0, 0, 0, []),
   (4, .getfield 19, 5, 3, 0, 0, 0, []),
   (7, .if_icmp .ge 45, 52, 0, 0, 0, 0, []),
   (10, .aload_n 0, 0, 0, 0, 0, 0, []),
   (11, .getfield 9, 5, 0, 0, 0, 0, []),
   (14, .iload_n 2, 2, 0, 0, 0, 0, []),
   (15, .aload_n 1, 1, 0, 0, 0, 0, []),
   (16, .getfield 9, 5, 0, 0, 0, 0, []),
   (19, .iload_n 2, 2, 0, 0, 0, 0, []),
   (20, .iaload, 0, 0, 0, 0, 0, []),
   (21, .iastore, 0, 0, 0, 0, 0, []),
   (22, .aload_n 0, 0, 0, 0, 0, 0, []),
   (23, .getfield 13, 5, 1, 0, 0, 0, []),
   (26, .iload_n 2, 2, 0, 0, 0, 0, []),
   (27, .aload_n 1, 1, 0, 0, 0, 0, []),
   (28, .getfield 13, 5, 1, 0, 0, 0, []),
   (31, .iload_n 2, 2, 0, 0, 0, 0, [])],
  [(32, .iaload, 0, 0, 0, 0, 0, []),
   (33, .iastore, 0, 0, 0, 0, 0, []),
   (34, .aload_n 0, 0, 0, 0, 0, 0, []),
   (35, .getfield 16, 5, 2, 0, 0, 0, []),
   (38, .iload_n 2, 2, 0, 0, 0, 0, []),
   (39, .aload_n 1, 1, 0, 0, 0, 0, []),
   (40, .getfield 16, 5, 2, 0, 0, 0, []),
   (43, .iload_n 2, 2, 0, 0, 0, 0, []),
   (44, .iaload, 0, 0, 0, 0, 0, []),
   (45, .iastore, 0, 0, 0, 0, 0, []),
   (46, .iinc 2 1, 2, 0, 0, 1, 0, []),
   (49, .goto (-47), 2, 0, 0, 0, 0, []),
   (52, .aload_n 0, 0, 0, 0, 0, 0, []),
   (53, .aload_n 1, 1, 0, 0, 0, 0, []),
   (54, .getfield 19, 5, 3, 0, 0, 0, []),
   (57, .putfield 19, 5, 3, 0, 0, 0, []),
   (60, .return_, 0, 0, 0, 0, 0, [])]]
def tb_X5_price : List (List ax_Rw) := [
  [(0, .iconst 0, 0, 0, 0, 0, 0, []),
   (1, .istore 5, 5, 0, 0, 0, 0, []),
   (3, .ldc 23, 0, 0, 0, 99999, 0, []),
   (5, .istore 6, 6, 0, 0, 0, 0, []),
   (7, .iconst 0, 0, 0, 0, 0, 0, []),
   (8, .istore 7, 7, 0, 0, 0, 0, []),
   (10, .iload 7, 7, 0, 0, 0, 0, []),
   (12, .aload_n 0, 0, 0, 0, 0, 0, []),
   (13, .getfield 19, 5, 3, 0, 0, 0, []),
   (16, .if_icmp .ge 61, 77, 0, 0, 0, 0, []),
   (19, .aload_n 0, 0, 0, 0, 0, 0, []),
   (20, .getfield 9, 5, 0, 0, 0, 0, []),
   (23, .iload 7, 7, 0, 0, 0, 0, []),
   (25, .iaload, 0, 0, 0, 0, 0, []),
   (26, .iconst 5, 0, 0, 0, 5, 0, []),
   (27, .if_icmp .ne 20, 47, 0, 0, 0, 0, []),
   (30, .iload 6, 6, 0, 0, 0, 0, [])],
  [(32, .aload_n 0, 0, 0, 0, 0, 0, []),
   (33, .getfield 16, 5, 2, 0, 0, 0, []),
   (36, .iload 7, 7, 0, 0, 0, 0, []),
   (38, .iaload, 0, 0, 0, 0, 0, []),
   (39, .invokestatic 24, 176, 2, 14, 0, 0, [(0, 2), (0, 1)]),
   (42, .istore 6, 6, 0, 0, 0, 0, []),
   (44, .goto 27, 71, 0, 0, 0, 0, []),
   (47, .iload 5, 5, 0, 0, 0, 0, []),
   (49, .aload_n 0, 0, 0, 0, 0, 0, []),
   (50, .getfield 16, 5, 2, 0, 0, 0, []),
   (53, .iload 7, 7, 0, 0, 0, 0, []),
   (55, .iaload, 0, 0, 0, 0, 0, []),
   (56, .aload_n 0, 0, 0, 0, 0, 0, []),
   (57, .iload 7, 7, 0, 0, 0, 0, []),
   (59, .iload_n 1, 1, 0, 0, 0, 0, []),
   (60, .iload_n 2, 2, 0, 0, 0, 0, []),
   (61, .iload_n 3, 3, 0, 0, 0, 0, []),
   (62, .iload 4, 4, 0, 0, 0, 0, [])],
  [(64, .invokevirtual 30, 40, 5, 5, 0, 0, [(0, 6), (0, 1)]),
   (67, .imul, 0, 0, 0, 0, 0, []),
   (68, .iadd, 0, 0, 0, 0, 0, []),
   (69, .istore 5, 5, 0, 0, 0, 0, []),
   (71, .iinc 7 1, 7, 0, 0, 1, 0, []),
   (74, .goto (-64), 10, 0, 0, 0, 0, []),
   (77, .iload 5, 5, 0, 0, 0, 0, []),
   (79, .iload 6, 6, 0, 0, 0, 0, []),
   (81, .invokestatic 24, 176, 2, 14, 0, 0, [(0, 2), (0, 1)]),
   (84, .ireturn, 0, 0, 0, 0, 0, [])]]
def tb_X5_timesDue : List (List ax_Rw) := [
  [(0, .aload_n 0, 0, 0, 0, 0, 0, []),
   (1, .getfield 9, 5, 0, 0, 0, 0, []),
   (4, .iload_n 1, 1, 0, 0, 0, 0, []),
   (5, .iaload, 0, 0, 0, 0, 0, []),
   (6, .tableswitch 92 0 4 #[34, 36, 43, 63, 89], 98, 0, 0, 0, 0, [(0, 40), (1, 42), (2, 49), (3, 69), (4, 95)])],
  [(40, .iconst 1, 0, 0, 0, 1, 0, []),
   (41, .ireturn, 0, 0, 0, 0, 0, []),
   (42, .iload_n 2, 2, 0, 0, 0, 0, []),
   (43, .iload_n 3, 3, 0, 0, 0, 0, []),
   (44, .isub, 0, 0, 0, 0, 0, []),
   (45, .invokestatic 34, 174, 1, 14, 0, 0, [(0, 1), (0, 1)]),
   (48, .ireturn, 0, 0, 0, 0, 0, []),
   (49, .iload 4, 4, 0, 0, 0, 0, []),
   (51, .bipush 6, 0, 0, 0, 6, 0, []),
   (53, .if_icmp .lt 10, 63, 0, 0, 0, 0, []),
   (56, .iload 4, 4, 0, 0, 0, 0, []),
   (58, .bipush 19, 0, 0, 0, 19, 0, []),
   (60, .if_icmp .le 7, 67, 0, 0, 0, 0, []),
   (63, .iconst 1, 0, 0, 0, 1, 0, [])],
  [(64, .goto 4, 68, 0, 0, 0, 0, []),
   (67, .iconst 0, 0, 0, 0, 0, 0, []),
   (68, .ireturn, 0, 0, 0, 0, 0, []),
   (69, .iload_n 2, 2, 0, 0, 0, 0, []),
   (70, .aload_n 0, 0, 0, 0, 0, 0, []),
   (71, .getfield 13, 5, 1, 0, 0, 0, []),
   (74, .iload_n 1, 1, 0, 0, 0, 0, []),
   (75, .iaload, 0, 0, 0, 0, 0, []),
   (76, .if_icmp .eq 13, 89, 0, 0, 0, 0, []),
   (79, .iload_n 3, 3, 0, 0, 0, 0, []),
   (80, .aload_n 0, 0, 0, 0, 0, 0, []),
   (81, .getfield 13, 5, 1, 0, 0, 0, []),
   (84, .iload_n 1, 1, 0, 0, 0, 0, []),
   (85, .iaload, 0, 0, 0, 0, 0, []),
   (86, .if_icmp .ne 7, 93, 0, 0, 0, 0, []),
   (89, .iconst 1, 0, 0, 0, 1, 0, []),
   (90, .goto 4, 94, 0, 0, 0, 0, []),
   (93, .iconst 0, 0, 0, 0, 0, 0, []),
   (94, .ireturn, 0, 0, 0, 0, 0, []),
   (95, .iload 5, 5, 0, 0, 0, 0, [])],
  [(97, .ireturn, 0, 0, 0, 0, 0, []),
   (98, .iconst 0, 0, 0, 0, 0, 0, []),
   (99, .ireturn, 0, 0, 0, 0, 0, [])]]
def tb_X6_has : List (List ax_Rw) := [
  [(0, .iload_n 1, 1, 0, 0, 0, 0, []),
   (1, .iconst 0, 0, 0, 0, 0, 0, []),
   (2, .aload_n 0, 0, 0, 0, 0, 0, []),
   (3, .getfield 24, 6, 4, 0, 0, 0, []),
   (6, .iconst 1, 0, 0, 0, 1, 0, []),
   (7, .isub, 0, 0, 0, 0, 0, []),
   (8, .invokestatic 28, 102, 3, 10, 0, 0, [(0, 3), (0, 1)]),
   (11, .ireturn, 0, 1, 0, 0, 0, [])]]
def tb_X6_add : List (List ax_Rw) := [
  [(0, .aload_n 0, 0, 0, 0, 0, 0, []),
   (1, .getfield 9, 6, 0, 0, 0, 0, []),
   (4, .aload_n 0, 0, 0, 0, 0, 0, []),
   (5, .getfield 24, 6, 4, 0, 0, 0, []),
   (8, .iload_n 1, 1, 0, 0, 0, 0, []),
   (9, .iastore, 0, 0, 0, 0, 0, []),
   (10, .aload_n 0, 0, 0, 0, 0, 0, []),
   (11, .getfield 15, 6, 1, 0, 0, 0, []),
   (14, .aload_n 0, 0, 0, 0, 0, 0, []),
   (15, .getfield 24, 6, 4, 0, 0, 0, []),
   (18, .iload_n 2, 2, 0, 0, 0, 0, []),
   (19, .iastore, 0, 0, 0, 0, 0, []),
   (20, .aload_n 0, 0, 0, 0, 0, 0, []),
   (21, .getfield 18, 6, 2, 0, 0, 0, []),
   (24, .aload_n 0, 0, 0, 0, 0, 0, []),
   (25, .getfield 24, 6, 4, 0, 0, 0, []),
   (28, .iload_n 3, 3, 0, 0, 0, 0, []),
   (29, .iastore, 0, 0, 0, 0, 0, []),
   (30, .aload_n 0, 0, 0, 0, 0, 0, []),
   (31, .getfield 21, 6, 3, 0, 0, 0, [])],
  [(34, .aload_n 0, 0, 0, 0, 0, 0, []),
   (35, .getfield 24, 6, 4, 0, 0, 0, []),
   (38, .iload 4, 4, 0, 0, 0, 0, []),
   (40, .iastore, 0, 0, 0, 0, 0, []),
   (41, .aload_n 0, 0, 0, 0, 0, 0, []),
   (42, .dup, 0, 0, 0, 0, 0, []),
   (43, .getfield 24, 6, 4, 0, 0, 0, []),
   (46, .iconst 1, 0, 0, 0, 1, 0, []),
   (47, .iadd, 0, 0, 0, 0, 0, []),
   (48, .putfield 24, 6, 4, 0, 0, 0, []),
   (51, .aload_n 0, 0, 0, 0, 0, 0, []),
   (52, .getfield 24, 6, 4, 0, 0, 0, []),
   (55, .iconst 1, 0, 0, 0, 1, 0, []),
   (56, .isub, 0, 0, 0, 0, 0, []),
   (57, .ireturn, 0, 0, 0, 0, 0, [])]]
def tb_X6_replaceRent : List (List ax_Rw) := [
  [(0, .aload_n 0, 0, 0, 0, 0, 0, []),
   (1, .getfield 18, 6, 2, 0, 0, 0, []),
   (4, .iload_n 1, 1, 0, 0, 0, 0, []),
   (5, .iaload, 0, 0, 0, 0, 0, []),
   (6, .istore 4, 4, 0, 0, 0, 0, []),
   (8, .aload_n 0, 0, 0, 0, 0, 0, []),
   (9, .getfield 18, 6, 2, 0, 0, 0, []),
   (12, .iload_n 1, 1, 0, 0, 0, 0, []),
   (13, .iload_n 2, 2, 0, 0, 0, 0, []),
   (14, .iastore, 0, 0, 0, 0, 0, []),
   (15, .aload_n 0, 0, 0, 0, 0, 0, []),
   (16, .getfield 21, 6, 3, 0, 0, 0, []),
   (19, .iload_n 1, 1, 0, 0, 0, 0, []),
   (20, .iload_n 3, 3, 0, 0, 0, 0, []),
   (21, .iastore, 0, 0, 0, 0, 0, []),
   (22, .iload 4, 4, 0, 0, 0, 0, []),
   (24, .ireturn, 0, 0, 0, 0, 0, [])]]
def tb_X6_mayStand : List (List ax_Rw) := [
  [(0, .aload_n 0, 0, 0, 0, 0, 0, []),
   (1, .getfield 9, 6, 0, 0, 0, 0, []),
   (4, .iload_n 1, 1, 0, 0, 0, 0, []),
   (5, .iaload, 0, 0, 0, 0, 0, []),
   (6, .iconst 3, 0, 0, 0, 3, 0, []),
   (7, .if_icmp .ne 8, 15, 0, 0, 0, 0, []),
   (10, .iload_n 2, 2, 0, 0, 0, 0, []),
   (11, .iconst 2, 0, 0, 0, 2, 0, []),
   (12, .if_icmp .lt 7, 19, 0, 0, 0, 0, []),
   (15, .iconst 1, 0, 0, 0, 1, 0, []),
   (16, .goto 4, 20, 0, 0, 0, 0, []),
   (19, .iconst 0, 0, 0, 0, 0, 0, []),
   (20, .ireturn, 0, 1, 0, 0, 0, [])]]
def tb_X6_restingWard : List (List ax_Rw) := [
  [(0, .aload_n 0, 0, 0, 0, 0, 0, []),
   (1, .iload_n 1, 1, 0, 0, 0, 0, []),
   (2, .iload_n 2, 2, 0, 0, 0, 0, []),
   (3, .invokevirtual 32, 44, 2, 6, 0, 0, [(0, 3), (0, 1)]),
   (6, .ifCond .eq 7, 13, 0, 0, 0, 0, []),
   (9, .iload_n 2, 2, 0, 0, 0, 0, []),
   (10, .goto 4, 14, 0, 0, 0, 0, []),
   (13, .iconst 2, 0, 0, 0, 2, 0, []),
   (14, .ireturn, 0, 0, 0, 0, 0, [])]]
def tb_X6_hoursDue : List (List ax_Rw) := [
  [(0, .aload_n 0, 0, 0, 0, 0, 0, []),
   (1, .getfield 9, 6, 0, 0, 0, 0, []),
   (4, .iload_n 1, 1, 0, 0, 0, 0, []),
   (5, .iaload, 0, 0, 0, 0, 0, []),
   (6, .iconst 1, 0, 0, 0, 1, 0, []),
   (7, .if_icmp .ne 13, 20, 0, 0, 0, 0, []),
   (10, .iconst 0, 0, 0, 0, 0, 0, []),
   (11, .iconst 5, 0, 0, 0, 5, 0, []),
   (12, .iload_n 2, 2, 0, 0, 0, 0, []),
   (13, .isub, 0, 0, 0, 0, 0, []),
   (14, .invokestatic 36, 175, 2, 14, 0, 0, [(0, 2), (0, 1)]),
   (17, .goto 4, 21, 0, 0, 0, 0, []),
   (20, .iconst 0, 0, 0, 0, 0, 0, []),
   (21, .ireturn, 0, 0, 0, 0, 0, [])]]
def tb_X6_worth : List (List ax_Rw) := [
  [(0, .aload_n 0, 0, 0, 0, 0, 0, []),
   (1, .getfield 9, 6, 0, 0, 0, 0, []),
   (4, .iload_n 1, 1, 0, 0, 0, 0, []),
   (5, .iaload, 0, 0, 0, 0, 0, []),
   (6, .iconst 2, 0, 0, 0, 2, 0, []),
   (7, .if_icmp .ne 18, 25, 0, 0, 0, 0, []),
   (10, .aload_n 0, 0, 0, 0, 0, 0, []),
   (11, .getfield 18, 6, 2, 0, 0, 0, []),
   (14, .iload_n 1, 1, 0, 0, 0, 0, []),
   (15, .iaload, 0, 0, 0, 0, 0, []),
   (16, .bipush 9, 0, 0, 0, 9, 0, []),
   (18, .imul, 0, 0, 0, 0, 0, []),
   (19, .bipush 10, 0, 0, 0, 10, 0, []),
   (21, .idiv, 0, 0, 0, 0, 0, []),
   (22, .goto 9, 31, 0, 0, 0, 0, []),
   (25, .aload_n 0, 0, 0, 0, 0, 0, []),
   (26, .getfield 18, 6, 2, 0, 0, 0, []),
   (29, .iload_n 1, 1, 0, 0, 0, 0, []),
   (30, .iaload, 0, 0, 0, 0, 0, []),
   (31, .istore 4, 4, 0, 0, 0, 0, [])],
  [(33, .iload 4, 4, 0, 0, 0, 0, []),
   (35, .aload_n 0, 0, 0, 0, 0, 0, []),
   (36, .getfield 21, 6, 3, 0, 0, 0, []),
   (39, .iload_n 1, 1, 0, 0, 0, 0, []),
   (40, .iaload, 0, 0, 0, 0, 0, []),
   (41, .isub, 0, 0, 0, 0, 0, []),
   (42, .istore 5, 5, 0, 0, 0, 0, []),
   (44, .iconst 0, 0, 0, 0, 0, 0, []),
   (45, .istore 6, 6, 0, 0, 0, 0, []),
   (47, .iconst 0, 0, 0, 0, 0, 0, []),
   (48, .istore 7, 7, 0, 0, 0, 0, []),
   (50, .iload 7, 7, 0, 0, 0, 0, []),
   (52, .iload_n 2, 2, 0, 0, 0, 0, []),
   (53, .if_icmp .ge 30, 83, 0, 0, 0, 0, []),
   (56, .iconst 0, 0, 0, 0, 0, 0, []),
   (57, .iload 6, 6, 0, 0, 0, 0, []),
   (59, .iload 5, 5, 0, 0, 0, 0, []),
   (61, .iadd, 0, 0, 0, 0, 0, []),
   (62, .sipush 1000, 0, 0, 0, 1000, 0, [])],
  [(65, .imul, 0, 0, 0, 0, 0, []),
   (66, .sipush 1000, 0, 0, 0, 1000, 0, []),
   (69, .iload_n 3, 3, 0, 0, 0, 0, []),
   (70, .iadd, 0, 0, 0, 0, 0, []),
   (71, .idiv, 0, 0, 0, 0, 0, []),
   (72, .invokestatic 36, 175, 2, 14, 0, 0, [(0, 2), (0, 1)]),
   (75, .istore 6, 6, 0, 0, 0, 0, []),
   (77, .iinc 7 1, 7, 0, 0, 1, 0, []),
   (80, .goto (-30), 50, 0, 0, 0, 0, []),
   (83, .iload 6, 6, 0, 0, 0, 0, []),
   (85, .ireturn, 0, 0, 0, 0, 0, [])]]
def tb_X7_has : List (List ax_Rw) := [
  [(0, .iload_n 1, 1, 0, 0, 0, 0, []),
   (1, .iconst 0, 0, 0, 0, 0, 0, []),
   (2, .aload_n 0, 0, 0, 0, 0, 0, []),
   (3, .getfield 15, 7, 1, 0, 0, 0, []),
   (6, .iconst 1, 0, 0, 0, 1, 0, []),
   (7, .isub, 0, 0, 0, 0, 0, []),
   (8, .invokestatic 19, 102, 3, 10, 0, 0, [(0, 3), (0, 1)]),
   (11, .ireturn, 0, 1, 0, 0, 0, [])]]
def tb_X7_detail : List (List ax_Rw) := [
  [(0, .aload_n 0, 0, 0, 0, 0, 0, []),
   (1, .getfield 11, 7, 0, 0, 0, 0, []),
   (4, .iload_n 1, 1, 0, 0, 0, 0, []),
   (5, .iconst 5, 0, 0, 0, 5, 0, []),
   (6, .imul, 0, 0, 0, 0, 0, []),
   (7, .iload_n 2, 2, 0, 0, 0, 0, []),
   (8, .iadd, 0, 0, 0, 0, 0, []),
   (9, .iaload, 0, 0, 0, 0, 0, []),
   (10, .ireturn, 0, 0, 0, 0, 0, [])]]
def tb_X7_keep : List (List ax_Rw) := [
  [(0, .aload_n 0, 0, 0, 0, 0, 0, []),
   (1, .getfield 15, 7, 1, 0, 0, 0, []),
   (4, .sipush 300, 0, 0, 0, 300, 0, []),
   (7, .if_icmp .ne 4, 11, 0, 0, 0, 0, []),
   (10, .return_, 0, 0, 0, 0, 0, []),
   (11, .aload_n 0, 0, 0, 0, 0, 0, []),
   (12, .getfield 15, 7, 1, 0, 0, 0, []),
   (15, .iconst 5, 0, 0, 0, 5, 0, []),
   (16, .imul, 0, 0, 0, 0, 0, []),
   (17, .istore 6, 6, 0, 0, 0, 0, []),
   (19, .aload_n 0, 0, 0, 0, 0, 0, []),
   (20, .getfield 11, 7, 0, 0, 0, 0, []),
   (23, .iload 6, 6, 0, 0, 0, 0, []),
   (25, .iconst 0, 0, 0, 0, 0, 0, []),
   (26, .iadd, 0, 0, 0, 0, 0, []),
   (27, .iload_n 1, 1, 0, 0, 0, 0, []),
   (28, .iastore, 0, 0, 0, 0, 0, []),
   (29, .aload_n 0, 0, 0, 0, 0, 0, []),
   (30, .getfield 11, 7, 0, 0, 0, 0, [])],
  [(33, .iload 6, 6, 0, 0, 0, 0, []),
   (35, .iconst 1, 0, 0, 0, 1, 0, []),
   (36, .iadd, 0, 0, 0, 0, 0, []),
   (37, .iload_n 2, 2, 0, 0, 0, 0, []),
   (38, .iastore, 0, 0, 0, 0, 0, []),
   (39, .aload_n 0, 0, 0, 0, 0, 0, []),
   (40, .getfield 11, 7, 0, 0, 0, 0, []),
   (43, .iload 6, 6, 0, 0, 0, 0, []),
   (45, .iconst 2, 0, 0, 0, 2, 0, []),
   (46, .iadd, 0, 0, 0, 0, 0, []),
   (47, .iload_n 3, 3, 0, 0, 0, 0, []),
   (48, .iastore, 0, 0, 0, 0, 0, []),
   (49, .aload_n 0, 0, 0, 0, 0, 0, []),
   (50, .getfield 11, 7, 0, 0, 0, 0, []),
   (53, .iload 6, 6, 0, 0, 0, 0, []),
   (55, .iconst 3, 0, 0, 0, 3, 0, []),
   (56, .iadd, 0, 0, 0, 0, 0, []),
   (57, .iload 4, 4, 0, 0, 0, 0, []),
   (59, .iastore, 0, 0, 0, 0, 0, []),
   (60, .aload_n 0, 0, 0, 0, 0, 0, []),
   (61, .getfield 11, 7, 0, 0, 0, 0, [])],
  [(64, .iload 6, 6, 0, 0, 0, 0, []),
   (66, .iconst 4, 0, 0, 0, 4, 0, []),
   (67, .iadd, 0, 0, 0, 0, 0, []),
   (68, .iload 5, 5, 0, 0, 0, 0, []),
   (70, .iastore, 0, 0, 0, 0, 0, []),
   (71, .aload_n 0, 0, 0, 0, 0, 0, []),
   (72, .dup, 0, 0, 0, 0, 0, []),
   (73, .getfield 15, 7, 1, 0, 0, 0, []),
   (76, .iconst 1, 0, 0, 0, 1, 0, []),
   (77, .iadd, 0, 0, 0, 0, 0, []),
   (78, .putfield 15, 7, 1, 0, 0, 0, []),
   (81, .return_, 0, 0, 0, 0, 0, [])]]
def tb_X7_search : List (List ax_Rw) := [
  [(0, .iconst 0, 0, 0, 0, 0, 0, []),
   (1, .istore 6, 6, 0, 0, 0, 0, []),
   (3, .iconst 0, 0, 0, 0, 0, 0, []),
   (4, .istore 7, 7, 0, 0, 0, 0, []),
   (6, .iload 7, 7, 0, 0, 0, 0, []),
   (8, .aload_n 0, 0, 0, 0, 0, 0, []),
   (9, .getfield 15, 7, 1, 0, 0, 0, []),
   (12, .if_icmp .ge 60, 72, 0, 0, 0, 0, []),
   (15, .aload_n 0, 0, 0, 0, 0, 0, []),
   (16, .iload 7, 7, 0, 0, 0, 0, []),
   (18, .iconst 0, 0, 0, 0, 0, 0, []),
   (19, .invokevirtual 23, 49, 2, 7, 0, 0, [(0, 3), (0, 1)]),
   (22, .iload_n 1, 1, 0, 0, 0, 0, []),
   (23, .iload_n 2, 2, 0, 0, 0, 0, []),
   (24, .invokestatic 19, 102, 3, 10, 0, 0, [(0, 3), (0, 1)]),
   (27, .ifCond .eq 39, 66, 0, 0, 0, 0, []),
   (30, .aload_n 0, 0, 0, 0, 0, 0, []),
   (31, .iload 7, 7, 0, 0, 0, 0, [])],
  [(33, .iconst 2, 0, 0, 0, 2, 0, []),
   (34, .iload_n 3, 3, 0, 0, 0, 0, []),
   (35, .invokevirtual 27, 52, 3, 7, 0, 0, [(0, 4), (0, 1)]),
   (38, .ifCond .eq 28, 66, 0, 0, 0, 0, []),
   (41, .aload_n 0, 0, 0, 0, 0, 0, []),
   (42, .iload 7, 7, 0, 0, 0, 0, []),
   (44, .iconst 3, 0, 0, 0, 3, 0, []),
   (45, .iload 4, 4, 0, 0, 0, 0, []),
   (47, .invokevirtual 27, 52, 3, 7, 0, 0, [(0, 4), (0, 1)]),
   (50, .ifCond .eq 16, 66, 0, 0, 0, 0, []),
   (53, .iload 6, 6, 0, 0, 0, 0, []),
   (55, .iload 5, 5, 0, 0, 0, 0, []),
   (57, .if_icmp .ne 6, 63, 0, 0, 0, 0, []),
   (60, .iload 7, 7, 0, 0, 0, 0, []),
   (62, .ireturn, 0, 0, 0, 0, 0, []),
   (63, .iinc 6 1, 6, 0, 0, 1, 0, [])],
  [(66, .iinc 7 1, 7, 0, 0, 1, 0, []),
   (69, .goto (-63), 6, 0, 0, 0, 0, []),
   (72, .iconst (-1), 0, 0, 0, (-1), 0, []),
   (73, .ireturn, 0, 0, 0, 0, 0, [])]]
def tb_X7_fits : List (List ax_Rw) := [
  [(0, .iload_n 3, 3, 0, 0, 0, 0, []),
   (1, .iconst (-1), 0, 0, 0, (-1), 0, []),
   (2, .if_icmp .eq 13, 15, 0, 0, 0, 0, []),
   (5, .aload_n 0, 0, 0, 0, 0, 0, []),
   (6, .iload_n 1, 1, 0, 0, 0, 0, []),
   (7, .iload_n 2, 2, 0, 0, 0, 0, []),
   (8, .invokevirtual 23, 49, 2, 7, 0, 0, [(0, 3), (0, 1)]),
   (11, .iload_n 3, 3, 0, 0, 0, 0, []),
   (12, .if_icmp .ne 7, 19, 0, 0, 0, 0, []),
   (15, .iconst 1, 0, 0, 0, 1, 0, []),
   (16, .goto 4, 20, 0, 0, 0, 0, []),
   (19, .iconst 0, 0, 0, 0, 0, 0, []),
   (20, .ireturn, 0, 1, 0, 0, 0, [])]]
def tb_X8_hasDriver : List (List ax_Rw) := [
  [(0, .iload_n 1, 1, 0, 0, 0, 0, []),
   (1, .iconst 0, 0, 0, 0, 0, 0, []),
   (2, .aload_n 0, 0, 0, 0, 0, 0, []),
   (3, .getfield 34, 8, 2, 0, 0, 0, []),
   (6, .iconst 1, 0, 0, 0, 1, 0, []),
   (7, .isub, 0, 0, 0, 0, 0, []),
   (8, .invokestatic 38, 102, 3, 10, 0, 0, [(0, 3), (0, 1)]),
   (11, .ireturn, 0, 1, 0, 0, 0, [])]]
def tb_X8_addDriver : List (List ax_Rw) := [
  [(0, .aload_n 0, 0, 0, 0, 0, 0, []),
   (1, .getfield 9, 8, 0, 0, 0, 0, []),
   (4, .aload_n 0, 0, 0, 0, 0, 0, []),
   (5, .getfield 34, 8, 2, 0, 0, 0, []),
   (8, .iload_n 1, 1, 0, 0, 0, 0, []),
   (9, .iastore, 0, 0, 0, 0, 0, []),
   (10, .aload_n 0, 0, 0, 0, 0, 0, []),
   (11, .dup, 0, 0, 0, 0, 0, []),
   (12, .getfield 34, 8, 2, 0, 0, 0, []),
   (15, .iconst 1, 0, 0, 0, 1, 0, []),
   (16, .iadd, 0, 0, 0, 0, 0, []),
   (17, .putfield 34, 8, 2, 0, 0, 0, []),
   (20, .aload_n 0, 0, 0, 0, 0, 0, []),
   (21, .getfield 34, 8, 2, 0, 0, 0, []),
   (24, .iconst 1, 0, 0, 0, 1, 0, []),
   (25, .isub, 0, 0, 0, 0, 0, []),
   (26, .ireturn, 0, 0, 0, 0, 0, [])]]
def tb_X8_placeOfDriver : List (List ax_Rw) := [
  [(0, .iconst 0, 0, 0, 0, 0, 0, []),
   (1, .istore_n 2, 2, 0, 0, 0, 0, []),
   (2, .iload_n 2, 2, 0, 0, 0, 0, []),
   (3, .aload_n 0, 0, 0, 0, 0, 0, []),
   (4, .getfield 15, 8, 1, 0, 0, 0, []),
   (7, .arraylength, 0, 0, 0, 0, 0, []),
   (8, .if_icmp .ge 21, 29, 0, 0, 0, 0, []),
   (11, .aload_n 0, 0, 0, 0, 0, 0, []),
   (12, .getfield 15, 8, 1, 0, 0, 0, []),
   (15, .iload_n 2, 2, 0, 0, 0, 0, []),
   (16, .iaload, 0, 0, 0, 0, 0, []),
   (17, .iload_n 1, 1, 0, 0, 0, 0, []),
   (18, .if_icmp .ne 5, 23, 0, 0, 0, 0, []),
   (21, .iload_n 2, 2, 0, 0, 0, 0, []),
   (22, .ireturn, 0, 0, 0, 0, 0, []),
   (23, .iinc 2 1, 2, 0, 0, 1, 0, []),
   (26, .goto (-24), 2, 0, 0, 0, 0, []),
   (29, .iconst (-1), 0, 0, 0, (-1), 0, []),
   (30, .ireturn, 0, 0, 0, 0, 0, [])]]
def tb_X8_assign : List (List ax_Rw) := [
  [(0, .aload_n 0, 0, 0, 0, 0, 0, []),
   (1, .getfield 15, 8, 1, 0, 0, 0, []),
   (4, .iload_n 1, 1, 0, 0, 0, 0, []),
   (5, .iaload, 0, 0, 0, 0, 0, []),
   (6, .istore_n 3, 3, 0, 0, 0, 0, []),
   (7, .iload_n 2, 2, 0, 0, 0, 0, []),
   (8, .iconst (-1), 0, 0, 0, (-1), 0, []),
   (9, .if_icmp .ne 7, 16, 0, 0, 0, 0, []),
   (12, .iconst (-1), 0, 0, 0, (-1), 0, []),
   (13, .goto 8, 21, 0, 0, 0, 0, []),
   (16, .aload_n 0, 0, 0, 0, 0, 0, []),
   (17, .iload_n 2, 2, 0, 0, 0, 0, []),
   (18, .invokevirtual 42, 55, 1, 8, 0, 0, [(0, 3), (0, 1)]),
   (21, .istore 4, 4, 0, 0, 0, 0, []),
   (23, .iload 4, 4, 0, 0, 0, 0, []),
   (25, .iconst (-1), 0, 0, 0, (-1), 0, []),
   (26, .if_icmp .eq 11, 37, 0, 0, 0, 0, []),
   (29, .aload_n 0, 0, 0, 0, 0, 0, []),
   (30, .getfield 15, 8, 1, 0, 0, 0, [])],
  [(33, .iload 4, 4, 0, 0, 0, 0, []),
   (35, .iconst (-1), 0, 0, 0, (-1), 0, []),
   (36, .iastore, 0, 0, 0, 0, 0, []),
   (37, .aload_n 0, 0, 0, 0, 0, 0, []),
   (38, .getfield 15, 8, 1, 0, 0, 0, []),
   (41, .iload_n 1, 1, 0, 0, 0, 0, []),
   (42, .iload_n 2, 2, 0, 0, 0, 0, []),
   (43, .iastore, 0, 0, 0, 0, 0, []),
   (44, .iload_n 3, 3, 0, 0, 0, 0, []),
   (45, .ireturn, 0, 0, 0, 0, 0, [])]]
def tb_X8_fillFree : List (List ax_Rw) := [
  [(0, .aload_n 0, 0, 0, 0, 0, 0, []),
   (1, .iload_n 1, 1, 0, 0, 0, 0, []),
   (2, .invokevirtual 46, 58, 1, 8, 0, 0, [(0, 3), (0, 0)]),
   (5, .aload_n 0, 0, 0, 0, 0, 0, []),
   (6, .invokevirtual 50, 59, 0, 8, 0, 0, [(0, 2), (0, 0)]),
   (9, .iconst 0, 0, 0, 0, 0, 0, []),
   (10, .istore_n 2, 2, 0, 0, 0, 0, []),
   (11, .iconst 0, 0, 0, 0, 0, 0, []),
   (12, .istore_n 3, 3, 0, 0, 0, 0, []),
   (13, .iload_n 3, 3, 0, 0, 0, 0, []),
   (14, .aload_n 0, 0, 0, 0, 0, 0, []),
   (15, .getfield 53, 8, 6, 0, 0, 0, []),
   (18, .if_icmp .ge 22, 40, 0, 0, 0, 0, []),
   (21, .iload_n 2, 2, 0, 0, 0, 0, []),
   (22, .aload_n 0, 0, 0, 0, 0, 0, []),
   (23, .aload_n 0, 0, 0, 0, 0, 0, []),
   (24, .getfield 18, 8, 3, 0, 0, 0, []),
   (27, .iload_n 3, 3, 0, 0, 0, 0, []),
   (28, .iaload, 0, 0, 0, 0, 0, []),
   (29, .invokevirtual 56, 60, 1, 8, 0, 0, [(0, 7), (0, 1)])],
  [(32, .iadd, 0, 0, 0, 0, 0, []),
   (33, .istore_n 2, 2, 0, 0, 0, 0, []),
   (34, .iinc 3 1, 3, 0, 0, 1, 0, []),
   (37, .goto (-24), 13, 0, 0, 0, 0, []),
   (40, .iload_n 2, 2, 0, 0, 0, 0, []),
   (41, .ireturn, 0, 0, 0, 0, 0, [])]]
def tb_X8_listFreePlaces : List (List ax_Rw) := [
  [(0, .aload_n 0, 0, 0, 0, 0, 0, []),
   (1, .iconst 0, 0, 0, 0, 0, 0, []),
   (2, .putfield 53, 8, 6, 0, 0, 0, []),
   (5, .aload_n 0, 0, 0, 0, 0, 0, []),
   (6, .getfield 28, 8, 8, 0, 0, 0, []),
   (9, .iconst 0, 0, 0, 0, 0, 0, []),
   (10, .iconst 0, 0, 0, 0, 0, 0, []),
   (11, .iastore, 0, 0, 0, 0, 0, []),
   (12, .aload_n 0, 0, 0, 0, 0, 0, []),
   (13, .getfield 28, 8, 8, 0, 0, 0, []),
   (16, .iconst 1, 0, 0, 0, 1, 0, []),
   (17, .iconst 0, 0, 0, 0, 0, 0, []),
   (18, .iastore, 0, 0, 0, 0, 0, []),
   (19, .iconst 0, 0, 0, 0, 0, 0, []),
   (20, .istore_n 2, 2, 0, 0, 0, 0, []),
   (21, .iload_n 2, 2, 0, 0, 0, 0, []),
   (22, .iload_n 1, 1, 0, 0, 0, 0, []),
   (23, .iconst 2, 0, 0, 0, 2, 0, []),
   (24, .imul, 0, 0, 0, 0, 0, []),
   (25, .if_icmp .ge 60, 85, 0, 0, 0, 0, []),
   (28, .aload_n 0, 0, 0, 0, 0, 0, []),
   (29, .getfield 53, 8, 6, 0, 0, 0, [])],
  [(32, .bipush 10, 0, 0, 0, 10, 0, []),
   (34, .if_icmp .ge 51, 85, 0, 0, 0, 0, []),
   (37, .aload_n 0, 0, 0, 0, 0, 0, []),
   (38, .getfield 15, 8, 1, 0, 0, 0, []),
   (41, .iload_n 2, 2, 0, 0, 0, 0, []),
   (42, .iaload, 0, 0, 0, 0, 0, []),
   (43, .iconst (-1), 0, 0, 0, (-1), 0, []),
   (44, .if_icmp .ne 35, 79, 0, 0, 0, 0, []),
   (47, .aload_n 0, 0, 0, 0, 0, 0, []),
   (48, .getfield 18, 8, 3, 0, 0, 0, []),
   (51, .aload_n 0, 0, 0, 0, 0, 0, []),
   (52, .getfield 53, 8, 6, 0, 0, 0, []),
   (55, .iload_n 2, 2, 0, 0, 0, 0, []),
   (56, .iastore, 0, 0, 0, 0, 0, []),
   (57, .aload_n 0, 0, 0, 0, 0, 0, []),
   (58, .dup, 0, 0, 0, 0, 0, []),
   (59, .getfield 53, 8, 6, 0, 0, 0, []),
   (62, .iconst 1, 0, 0, 0, 1, 0, []),
   (63, .iadd, 0, 0, 0, 0, 0, [])],
  [(64, .putfield 53, 8, 6, 0, 0, 0, []),
   (67, .aload_n 0, 0, 0, 0, 0, 0, []),
   (68, .getfield 28, 8, 8, 0, 0, 0, []),
   (71, .iload_n 2, 2, 0, 0, 0, 0, []),
   (72, .iconst 2, 0, 0, 0, 2, 0, []),
   (73, .irem, 0, 0, 0, 0, 0, []),
   (74, .dup2, 0, 0, 0, 0, 0, []),
   (75, .iaload, 0, 0, 0, 0, 0, []),
   (76, .iconst 1, 0, 0, 0, 1, 0, []),
   (77, .iadd, 0, 0, 0, 0, 0, []),
   (78, .iastore, 0, 0, 0, 0, 0, []),
   (79, .iinc 2 1, 2, 0, 0, 1, 0, []),
   (82, .goto (-61), 21, 0, 0, 0, 0, []),
   (85, .return_, 0, 0, 0, 0, 0, [])]]
def tb_X8_listFreeDrivers : List (List ax_Rw) := [
  [(0, .aload_n 0, 0, 0, 0, 0, 0, []),
   (1, .iconst 0, 0, 0, 0, 0, 0, []),
   (2, .putfield 59, 8, 7, 0, 0, 0, []),
   (5, .aload_n 0, 0, 0, 0, 0, 0, []),
   (6, .getfield 31, 8, 9, 0, 0, 0, []),
   (9, .iconst 0, 0, 0, 0, 0, 0, []),
   (10, .iconst 0, 0, 0, 0, 0, 0, []),
   (11, .iastore, 0, 0, 0, 0, 0, []),
   (12, .aload_n 0, 0, 0, 0, 0, 0, []),
   (13, .getfield 31, 8, 9, 0, 0, 0, []),
   (16, .iconst 1, 0, 0, 0, 1, 0, []),
   (17, .iconst 0, 0, 0, 0, 0, 0, []),
   (18, .iastore, 0, 0, 0, 0, 0, []),
   (19, .aload_n 0, 0, 0, 0, 0, 0, []),
   (20, .getfield 31, 8, 9, 0, 0, 0, []),
   (23, .iconst 2, 0, 0, 0, 2, 0, []),
   (24, .iconst 0, 0, 0, 0, 0, 0, []),
   (25, .iastore, 0, 0, 0, 0, 0, []),
   (26, .iconst 0, 0, 0, 0, 0, 0, []),
   (27, .istore_n 1, 1, 0, 0, 0, 0, []),
   (28, .iload_n 1, 1, 0, 0, 0, 0, []),
   (29, .aload_n 0, 0, 0, 0, 0, 0, []),
   (30, .getfield 34, 8, 2, 0, 0, 0, [])],
  [(33, .if_icmp .ge 72, 105, 0, 0, 0, 0, []),
   (36, .aload_n 0, 0, 0, 0, 0, 0, []),
   (37, .getfield 59, 8, 7, 0, 0, 0, []),
   (40, .bipush 10, 0, 0, 0, 10, 0, []),
   (42, .if_icmp .ge 63, 105, 0, 0, 0, 0, []),
   (45, .aload_n 0, 0, 0, 0, 0, 0, []),
   (46, .iload_n 1, 1, 0, 0, 0, 0, []),
   (47, .invokevirtual 42, 55, 1, 8, 0, 0, [(0, 3), (0, 1)]),
   (50, .iconst (-1), 0, 0, 0, (-1), 0, []),
   (51, .if_icmp .ne 48, 99, 0, 0, 0, 0, []),
   (54, .aload_n 0, 0, 0, 0, 0, 0, []),
   (55, .getfield 21, 8, 4, 0, 0, 0, []),
   (58, .aload_n 0, 0, 0, 0, 0, 0, []),
   (59, .getfield 59, 8, 7, 0, 0, 0, []),
   (62, .iload_n 1, 1, 0, 0, 0, 0, []),
   (63, .iastore, 0, 0, 0, 0, 0, [])],
  [(64, .aload_n 0, 0, 0, 0, 0, 0, []),
   (65, .getfield 24, 8, 5, 0, 0, 0, []),
   (68, .aload_n 0, 0, 0, 0, 0, 0, []),
   (69, .getfield 59, 8, 7, 0, 0, 0, []),
   (72, .iconst 0, 0, 0, 0, 0, 0, []),
   (73, .bastore, 0, 0, 0, 0, 0, []),
   (74, .aload_n 0, 0, 0, 0, 0, 0, []),
   (75, .dup, 0, 0, 0, 0, 0, []),
   (76, .getfield 59, 8, 7, 0, 0, 0, []),
   (79, .iconst 1, 0, 0, 0, 1, 0, []),
   (80, .iadd, 0, 0, 0, 0, 0, []),
   (81, .putfield 59, 8, 7, 0, 0, 0, []),
   (84, .aload_n 0, 0, 0, 0, 0, 0, []),
   (85, .getfield 31, 8, 9, 0, 0, 0, []),
   (88, .aload_n 0, 0, 0, 0, 0, 0, []),
   (89, .getfield 9, 8, 0, 0, 0, 0, []),
   (92, .iload_n 1, 1, 0, 0, 0, 0, []),
   (93, .iaload, 0, 0, 0, 0, 0, []),
   (94, .dup2, 0, 0, 0, 0, 0, []),
   (95, .iaload, 0, 0, 0, 0, 0, [])],
  [(96, .iconst 1, 0, 0, 0, 1, 0, []),
   (97, .iadd, 0, 0, 0, 0, 0, []),
   (98, .iastore, 0, 0, 0, 0, 0, []),
   (99, .iinc 1 1, 1, 0, 0, 1, 0, []),
   (102, .goto (-74), 28, 0, 0, 0, 0, []),
   (105, .return_, 0, 0, 0, 0, 0, [])]]
def tb_X8_fillPlace : List (List ax_Rw) := [
  [(0, .iload_n 1, 1, 0, 0, 0, 0, []),
   (1, .iconst 2, 0, 0, 0, 2, 0, []),
   (2, .irem, 0, 0, 0, 0, 0, []),
   (3, .istore_n 2, 2, 0, 0, 0, 0, []),
   (4, .aload_n 0, 0, 0, 0, 0, 0, []),
   (5, .invokevirtual 62, 61, 0, 8, 0, 0, [(0, 4), (0, 1)]),
   (8, .istore_n 3, 3, 0, 0, 0, 0, []),
   (9, .aload_n 0, 0, 0, 0, 0, 0, []),
   (10, .getfield 28, 8, 8, 0, 0, 0, []),
   (13, .iload_n 2, 2, 0, 0, 0, 0, []),
   (14, .dup2, 0, 0, 0, 0, 0, []),
   (15, .iaload, 0, 0, 0, 0, 0, []),
   (16, .iconst 1, 0, 0, 0, 1, 0, []),
   (17, .isub, 0, 0, 0, 0, 0, []),
   (18, .iastore, 0, 0, 0, 0, 0, []),
   (19, .iconst 0, 0, 0, 0, 0, 0, []),
   (20, .istore 4, 4, 0, 0, 0, 0, []),
   (22, .iload 4, 4, 0, 0, 0, 0, []),
   (24, .aload_n 0, 0, 0, 0, 0, 0, []),
   (25, .getfield 59, 8, 7, 0, 0, 0, []),
   (28, .if_icmp .ge 112, 140, 0, 0, 0, 0, []),
   (31, .aload_n 0, 0, 0, 0, 0, 0, [])],
  [(32, .getfield 24, 8, 5, 0, 0, 0, []),
   (35, .iload 4, 4, 0, 0, 0, 0, []),
   (37, .baload, 0, 0, 0, 0, 0, []),
   (38, .ifCond .eq 6, 44, 0, 0, 0, 0, []),
   (41, .goto 93, 134, 0, 0, 0, 0, []),
   (44, .aload_n 0, 0, 0, 0, 0, 0, []),
   (45, .getfield 9, 8, 0, 0, 0, 0, []),
   (48, .aload_n 0, 0, 0, 0, 0, 0, []),
   (49, .getfield 21, 8, 4, 0, 0, 0, []),
   (52, .iload 4, 4, 0, 0, 0, 0, []),
   (54, .iaload, 0, 0, 0, 0, 0, []),
   (55, .iaload, 0, 0, 0, 0, 0, []),
   (56, .istore 5, 5, 0, 0, 0, 0, []),
   (58, .iload 5, 5, 0, 0, 0, 0, []),
   (60, .iconst 2, 0, 0, 0, 2, 0, []),
   (61, .if_icmp .eq 9, 70, 0, 0, 0, 0, [])],
  [(64, .iload 5, 5, 0, 0, 0, 0, []),
   (66, .iload_n 2, 2, 0, 0, 0, 0, []),
   (67, .if_icmp .ne 7, 74, 0, 0, 0, 0, []),
   (70, .iconst 2, 0, 0, 0, 2, 0, []),
   (71, .goto 4, 75, 0, 0, 0, 0, []),
   (74, .iconst 1, 0, 0, 0, 1, 0, []),
   (75, .istore 6, 6, 0, 0, 0, 0, []),
   (77, .aload_n 0, 0, 0, 0, 0, 0, []),
   (78, .getfield 31, 8, 9, 0, 0, 0, []),
   (81, .iload 5, 5, 0, 0, 0, 0, []),
   (83, .dup2, 0, 0, 0, 0, 0, []),
   (84, .iaload, 0, 0, 0, 0, 0, []),
   (85, .iconst 1, 0, 0, 0, 1, 0, []),
   (86, .isub, 0, 0, 0, 0, 0, []),
   (87, .iastore, 0, 0, 0, 0, 0, []),
   (88, .iload 6, 6, 0, 0, 0, 0, []),
   (90, .aload_n 0, 0, 0, 0, 0, 0, []),
   (91, .invokevirtual 62, 61, 0, 8, 0, 0, [(0, 4), (0, 1)]),
   (94, .iadd, 0, 0, 0, 0, 0, []),
   (95, .iload_n 3, 3, 0, 0, 0, 0, [])],
  [(96, .if_icmp .ne 27, 123, 0, 0, 0, 0, []),
   (99, .aload_n 0, 0, 0, 0, 0, 0, []),
   (100, .getfield 24, 8, 5, 0, 0, 0, []),
   (103, .iload 4, 4, 0, 0, 0, 0, []),
   (105, .iconst 1, 0, 0, 0, 1, 0, []),
   (106, .bastore, 0, 0, 0, 0, 0, []),
   (107, .aload_n 0, 0, 0, 0, 0, 0, []),
   (108, .getfield 15, 8, 1, 0, 0, 0, []),
   (111, .iload_n 1, 1, 0, 0, 0, 0, []),
   (112, .aload_n 0, 0, 0, 0, 0, 0, []),
   (113, .getfield 21, 8, 4, 0, 0, 0, []),
   (116, .iload 4, 4, 0, 0, 0, 0, []),
   (118, .iaload, 0, 0, 0, 0, 0, []),
   (119, .iastore, 0, 0, 0, 0, 0, []),
   (120, .iload 6, 6, 0, 0, 0, 0, []),
   (122, .ireturn, 0, 0, 0, 0, 0, []),
   (123, .aload_n 0, 0, 0, 0, 0, 0, []),
   (124, .getfield 31, 8, 9, 0, 0, 0, []),
   (127, .iload 5, 5, 0, 0, 0, 0, [])],
  [(129, .dup2, 0, 0, 0, 0, 0, []),
   (130, .iaload, 0, 0, 0, 0, 0, []),
   (131, .iconst 1, 0, 0, 0, 1, 0, []),
   (132, .iadd, 0, 0, 0, 0, 0, []),
   (133, .iastore, 0, 0, 0, 0, 0, []),
   (134, .iinc 4 1, 4, 0, 0, 1, 0, []),
   (137, .goto (-115), 22, 0, 0, 0, 0, []),
   (140, .iconst 0, 0, 0, 0, 0, 0, []),
   (141, .ireturn, 0, 0, 0, 0, 0, [])]]
def tb_X8_mostWorths : List (List ax_Rw) := [
  [(0, .aload_n 0, 0, 0, 0, 0, 0, []),
   (1, .getfield 28, 8, 8, 0, 0, 0, []),
   (4, .iconst 0, 0, 0, 0, 0, 0, []),
   (5, .iaload, 0, 0, 0, 0, 0, []),
   (6, .aload_n 0, 0, 0, 0, 0, 0, []),
   (7, .getfield 28, 8, 8, 0, 0, 0, []),
   (10, .iconst 1, 0, 0, 0, 1, 0, []),
   (11, .iaload, 0, 0, 0, 0, 0, []),
   (12, .iadd, 0, 0, 0, 0, 0, []),
   (13, .istore_n 1, 1, 0, 0, 0, 0, []),
   (14, .iload_n 1, 1, 0, 0, 0, 0, []),
   (15, .aload_n 0, 0, 0, 0, 0, 0, []),
   (16, .getfield 31, 8, 9, 0, 0, 0, []),
   (19, .iconst 0, 0, 0, 0, 0, 0, []),
   (20, .iaload, 0, 0, 0, 0, 0, []),
   (21, .aload_n 0, 0, 0, 0, 0, 0, []),
   (22, .getfield 31, 8, 9, 0, 0, 0, []),
   (25, .iconst 1, 0, 0, 0, 1, 0, []),
   (26, .iaload, 0, 0, 0, 0, 0, []),
   (27, .iadd, 0, 0, 0, 0, 0, []),
   (28, .aload_n 0, 0, 0, 0, 0, 0, []),
   (29, .getfield 31, 8, 9, 0, 0, 0, [])],
  [(32, .iconst 2, 0, 0, 0, 2, 0, []),
   (33, .iaload, 0, 0, 0, 0, 0, []),
   (34, .iadd, 0, 0, 0, 0, 0, []),
   (35, .invokestatic 66, 176, 2, 14, 0, 0, [(0, 2), (0, 1)]),
   (38, .istore_n 2, 2, 0, 0, 0, 0, []),
   (39, .aload_n 0, 0, 0, 0, 0, 0, []),
   (40, .getfield 28, 8, 8, 0, 0, 0, []),
   (43, .iconst 0, 0, 0, 0, 0, 0, []),
   (44, .iaload, 0, 0, 0, 0, 0, []),
   (45, .aload_n 0, 0, 0, 0, 0, 0, []),
   (46, .getfield 31, 8, 9, 0, 0, 0, []),
   (49, .iconst 0, 0, 0, 0, 0, 0, []),
   (50, .iaload, 0, 0, 0, 0, 0, []),
   (51, .invokestatic 66, 176, 2, 14, 0, 0, [(0, 2), (0, 1)]),
   (54, .aload_n 0, 0, 0, 0, 0, 0, []),
   (55, .getfield 28, 8, 8, 0, 0, 0, []),
   (58, .iconst 1, 0, 0, 0, 1, 0, []),
   (59, .iaload, 0, 0, 0, 0, 0, []),
   (60, .aload_n 0, 0, 0, 0, 0, 0, []),
   (61, .getfield 31, 8, 9, 0, 0, 0, [])],
  [(64, .iconst 1, 0, 0, 0, 1, 0, []),
   (65, .iaload, 0, 0, 0, 0, 0, []),
   (66, .invokestatic 66, 176, 2, 14, 0, 0, [(0, 2), (0, 1)]),
   (69, .iadd, 0, 0, 0, 0, 0, []),
   (70, .istore_n 3, 3, 0, 0, 0, 0, []),
   (71, .iload_n 2, 2, 0, 0, 0, 0, []),
   (72, .iload_n 3, 3, 0, 0, 0, 0, []),
   (73, .iadd, 0, 0, 0, 0, 0, []),
   (74, .aload_n 0, 0, 0, 0, 0, 0, []),
   (75, .getfield 31, 8, 9, 0, 0, 0, []),
   (78, .iconst 2, 0, 0, 0, 2, 0, []),
   (79, .iaload, 0, 0, 0, 0, 0, []),
   (80, .iload_n 1, 1, 0, 0, 0, 0, []),
   (81, .iload_n 3, 3, 0, 0, 0, 0, []),
   (82, .isub, 0, 0, 0, 0, 0, []),
   (83, .invokestatic 66, 176, 2, 14, 0, 0, [(0, 2), (0, 1)]),
   (86, .iadd, 0, 0, 0, 0, 0, []),
   (87, .ireturn, 0, 0, 0, 0, 0, [])]]
def tb_X9_append : List (List ax_Rw) := [
  [(0, .iload_n 3, 3, 0, 0, 0, 0, []),
   (1, .iconst 1, 0, 0, 0, 1, 0, []),
   (2, .isub, 0, 0, 0, 0, 0, []),
   (3, .istore 4, 4, 0, 0, 0, 0, []),
   (5, .iload 4, 4, 0, 0, 0, 0, []),
   (7, .ifCond .lt 40, 47, 0, 0, 0, 0, []),
   (10, .aload_n 0, 0, 0, 0, 0, 0, []),
   (11, .getfield 11, 9, 0, 0, 0, 0, []),
   (14, .aload_n 0, 0, 0, 0, 0, 0, []),
   (15, .getfield 22, 9, 2, 0, 0, 0, []),
   (18, .lload_n 1, 1, 0, 0, 0, 0, []),
   (19, .bipush 8, 0, 0, 0, 8, 0, []),
   (21, .iload 4, 4, 0, 0, 0, 0, []),
   (23, .imul, 0, 0, 0, 0, 0, []),
   (24, .lushr, 0, 0, 0, 0, 0, []),
   (25, .l2i, 0, 0, 0, 0, 0, []),
   (26, .sipush 255, 0, 0, 0, 255, 0, []),
   (29, .iand, 0, 0, 0, 0, 0, []),
   (30, .iastore, 0, 0, 0, 0, 0, []),
   (31, .aload_n 0, 0, 0, 0, 0, 0, [])],
  [(32, .dup, 0, 0, 0, 0, 0, []),
   (33, .getfield 22, 9, 2, 0, 0, 0, []),
   (36, .iconst 1, 0, 0, 0, 1, 0, []),
   (37, .iadd, 0, 0, 0, 0, 0, []),
   (38, .putfield 22, 9, 2, 0, 0, 0, []),
   (41, .iinc 4 (-1), 4, 0, 0, (-1), 0, []),
   (44, .goto (-39), 5, 0, 0, 0, 0, []),
   (47, .aload_n 0, 0, 0, 0, 0, 0, []),
   (48, .getfield 22, 9, 2, 0, 0, 0, []),
   (51, .ireturn, 0, 0, 0, 0, 0, [])]]
def tb_X9_read : List (List ax_Rw) := [
  [(0, .aload_n 0, 0, 0, 0, 0, 0, []),
   (1, .iconst 0, 0, 0, 0, 0, 0, []),
   (2, .putfield 26, 9, 3, 0, 0, 0, []),
   (5, .aload_n 0, 0, 0, 0, 0, 0, []),
   (6, .getfield 18, 9, 1, 0, 0, 0, []),
   (9, .iconst 0, 0, 0, 0, 0, 0, []),
   (10, .putfield 29, 5, 3, 0, 0, 0, []),
   (13, .aload_n 0, 0, 0, 0, 0, 0, []),
   (14, .invokevirtual 30, 64, 0, 9, 0, 0, [(0, 2), (0, 1)]),
   (17, .ifCond .eq 7, 24, 0, 0, 0, 0, []),
   (20, .iconst (-1), 0, 0, 0, (-1), 0, []),
   (21, .goto 7, 28, 0, 0, 0, 0, []),
   (24, .aload_n 0, 0, 0, 0, 0, 0, []),
   (25, .getfield 26, 9, 3, 0, 0, 0, []),
   (28, .istore_n 1, 1, 0, 0, 0, 0, []),
   (29, .aload_n 0, 0, 0, 0, 0, 0, []),
   (30, .iconst 0, 0, 0, 0, 0, 0, []),
   (31, .putfield 22, 9, 2, 0, 0, 0, [])],
  [(34, .iload_n 1, 1, 0, 0, 0, 0, []),
   (35, .ireturn, 0, 0, 0, 0, 0, [])]]
def tb_X9_readClauses : List (List ax_Rw) := [
  [(0, .iconst 1, 0, 0, 0, 1, 0, []),
   (1, .istore_n 1, 1, 0, 0, 0, 0, []),
   (2, .iload_n 1, 1, 0, 0, 0, 0, []),
   (3, .bipush 6, 0, 0, 0, 6, 0, []),
   (5, .if_icmp .gt 48, 53, 0, 0, 0, 0, []),
   (8, .aload_n 0, 0, 0, 0, 0, 0, []),
   (9, .invokevirtual 34, 65, 0, 9, 0, 0, [(0, 4), (0, 1)]),
   (12, .ifCond .ne 5, 17, 0, 0, 0, 0, []),
   (15, .iconst 0, 0, 0, 0, 0, 0, []),
   (16, .ireturn, 0, 1, 0, 0, 0, []),
   (17, .aload_n 0, 0, 0, 0, 0, 0, []),
   (18, .getfield 26, 9, 3, 0, 0, 0, []),
   (21, .aload_n 0, 0, 0, 0, 0, 0, []),
   (22, .getfield 22, 9, 2, 0, 0, 0, []),
   (25, .if_icmp .ne 5, 30, 0, 0, 0, 0, []),
   (28, .iconst 1, 0, 0, 0, 1, 0, []),
   (29, .ireturn, 0, 1, 0, 0, 0, []),
   (30, .iload_n 1, 1, 0, 0, 0, 0, []),
   (31, .bipush 6, 0, 0, 0, 6, 0, [])],
  [(33, .if_icmp .eq 12, 45, 0, 0, 0, 0, []),
   (36, .aload_n 0, 0, 0, 0, 0, 0, []),
   (37, .bipush 59, 0, 0, 0, 59, 0, []),
   (39, .invokevirtual 37, 69, 1, 9, 0, 0, [(0, 2), (0, 1)]),
   (42, .ifCond .ne 5, 47, 0, 0, 0, 0, []),
   (45, .iconst 0, 0, 0, 0, 0, 0, []),
   (46, .ireturn, 0, 1, 0, 0, 0, []),
   (47, .iinc 1 1, 1, 0, 0, 1, 0, []),
   (50, .goto (-48), 2, 0, 0, 0, 0, []),
   (53, .iconst 0, 0, 0, 0, 0, 0, []),
   (54, .ireturn, 0, 1, 0, 0, 0, [])]]
def tb_X9_readClause : List (List ax_Rw) := [
  [(0, .aload_n 0, 0, 0, 0, 0, 0, []),
   (1, .invokevirtual 41, 66, 0, 9, 0, 0, [(0, 5), (0, 1)]),
   (4, .istore_n 1, 1, 0, 0, 0, 0, []),
   (5, .iload_n 1, 1, 0, 0, 0, 0, []),
   (6, .iconst (-1), 0, 0, 0, (-1), 0, []),
   (7, .if_icmp .ne 5, 12, 0, 0, 0, 0, []),
   (10, .iconst 0, 0, 0, 0, 0, 0, []),
   (11, .ireturn, 0, 1, 0, 0, 0, []),
   (12, .iconst (-1), 0, 0, 0, (-1), 0, []),
   (13, .istore_n 2, 2, 0, 0, 0, 0, []),
   (14, .iload_n 1, 1, 0, 0, 0, 0, []),
   (15, .iconst 3, 0, 0, 0, 3, 0, []),
   (16, .if_icmp .ne 25, 41, 0, 0, 0, 0, []),
   (19, .aload_n 0, 0, 0, 0, 0, 0, []),
   (20, .iconst 4, 0, 0, 0, 4, 0, []),
   (21, .invokevirtual 45, 70, 1, 9, 0, 0, [(0, 2), (0, 1)]),
   (24, .istore_n 2, 2, 0, 0, 0, 0, []),
   (25, .iload_n 2, 2, 0, 0, 0, 0, []),
   (26, .iconst (-1), 0, 0, 0, (-1), 0, []),
   (27, .if_icmp .eq 12, 39, 0, 0, 0, 0, []),
   (30, .aload_n 0, 0, 0, 0, 0, 0, []),
   (31, .bipush 32, 0, 0, 0, 32, 0, [])],
  [(33, .invokevirtual 37, 69, 1, 9, 0, 0, [(0, 2), (0, 1)]),
   (36, .ifCond .ne 5, 41, 0, 0, 0, 0, []),
   (39, .iconst 0, 0, 0, 0, 0, 0, []),
   (40, .ireturn, 0, 1, 0, 0, 0, []),
   (41, .aload_n 0, 0, 0, 0, 0, 0, []),
   (42, .invokevirtual 49, 71, 0, 9, 0, 0, [(0, 4), (0, 1)]),
   (45, .istore_n 3, 3, 0, 0, 0, 0, []),
   (46, .iload_n 3, 3, 0, 0, 0, 0, []),
   (47, .iconst (-1), 0, 0, 0, (-1), 0, []),
   (48, .if_icmp .ne 5, 53, 0, 0, 0, 0, []),
   (51, .iconst 0, 0, 0, 0, 0, 0, []),
   (52, .ireturn, 0, 1, 0, 0, 0, []),
   (53, .aload_n 0, 0, 0, 0, 0, 0, []),
   (54, .getfield 18, 9, 1, 0, 0, 0, []),
   (57, .iload_n 1, 1, 0, 0, 0, 0, []),
   (58, .iload_n 2, 2, 0, 0, 0, 0, []),
   (59, .iload_n 3, 3, 0, 0, 0, 0, []),
   (60, .invokevirtual 52, 37, 3, 5, 0, 0, [(0, 4), (0, 0)]),
   (63, .iconst 1, 0, 0, 0, 1, 0, [])],
  [(64, .ireturn, 0, 1, 0, 0, 0, [])]]
def tb_X9_readWord : List (List ax_Rw) := [
  [(0, .iconst 0, 0, 0, 0, 0, 0, []),
   (1, .istore_n 1, 1, 0, 0, 0, 0, []),
   (2, .iconst 0, 0, 0, 0, 0, 0, []),
   (3, .istore_n 2, 2, 0, 0, 0, 0, []),
   (4, .iload_n 2, 2, 0, 0, 0, 0, []),
   (5, .iconst 5, 0, 0, 0, 5, 0, []),
   (6, .if_icmp .gt 50, 56, 0, 0, 0, 0, []),
   (9, .iload_n 2, 2, 0, 0, 0, 0, []),
   (10, .invokestatic 56, 67, 1, 9, 0, 0, [(0, 1), (0, 2)]),
   (13, .astore_n 3, 3, 0, 0, 0, 0, []),
   (14, .aload_n 0, 0, 0, 0, 0, 0, []),
   (15, .aload_n 3, 3, 0, 0, 0, 0, []),
   (16, .invokevirtual 60, 68, 1, 9, 0, 0, [(0, 3), (0, 1)]),
   (19, .istore 4, 4, 0, 0, 0, 0, []),
   (21, .iload 4, 4, 0, 0, 0, 0, []),
   (23, .aload_n 3, 3, 0, 0, 0, 0, []),
   (24, .invokevirtual 64, 997, 0, 0, 0, 0, []),
   (27, .if_icmp .ne 16, 43, 0, 0, 0, 0, []),
   (30, .aload_n 0, 0, 0, 0, 0, 0, []),
   (31, .dup, 0, 0, 0, 0, 0, [])],
  [(32, .getfield 26, 9, 3, 0, 0, 0, []),
   (35, .iload 4, 4, 0, 0, 0, 0, []),
   (37, .iadd, 0, 0, 0, 0, 0, []),
   (38, .putfield 26, 9, 3, 0, 0, 0, []),
   (41, .iload_n 2, 2, 0, 0, 0, 0, []),
   (42, .ireturn, 0, 0, 0, 0, 0, []),
   (43, .iload_n 1, 1, 0, 0, 0, 0, []),
   (44, .iload 4, 4, 0, 0, 0, 0, []),
   (46, .invokestatic 69, 175, 2, 14, 0, 0, [(0, 2), (0, 1)]),
   (49, .istore_n 1, 1, 0, 0, 0, 0, []),
   (50, .iinc 2 1, 2, 0, 0, 1, 0, []),
   (53, .goto (-49), 4, 0, 0, 0, 0, []),
   (56, .aload_n 0, 0, 0, 0, 0, 0, []),
   (57, .dup, 0, 0, 0, 0, 0, []),
   (58, .getfield 26, 9, 3, 0, 0, 0, []),
   (61, .iload_n 1, 1, 0, 0, 0, 0, []),
   (62, .iadd, 0, 0, 0, 0, 0, []),
   (63, .putfield 26, 9, 3, 0, 0, 0, [])],
  [(66, .iconst (-1), 0, 0, 0, (-1), 0, []),
   (67, .ireturn, 0, 0, 0, 0, 0, [])]]
def tb_X9_wordOf : List (List ax_Rw) := [
  [(0, .iload_n 0, 0, 0, 0, 0, 0, []),
   (1, .tableswitch 50 0 4 #[35, 38, 41, 44, 47], 51, 0, 0, 0, 0, [(0, 36), (1, 39), (2, 42), (3, 45), (4, 48)])],
  [(36, .ldc 75, 0, 1, 0, 0, 0, []),
   (38, .areturn, 0, 0, 0, 0, 0, []),
   (39, .ldc 77, 1, 1, 0, 0, 0, []),
   (41, .areturn, 0, 0, 0, 0, 0, []),
   (42, .ldc 79, 2, 1, 0, 0, 0, []),
   (44, .areturn, 0, 0, 0, 0, 0, []),
   (45, .ldc 81, 3, 1, 0, 0, 0, []),
   (47, .areturn, 0, 0, 0, 0, 0, []),
   (48, .ldc 83, 4, 1, 0, 0, 0, []),
   (50, .areturn, 0, 0, 0, 0, 0, []),
   (51, .ldc 85, 5, 1, 0, 0, 0, []),
   (53, .areturn, 0, 0, 0, 0, 0, [])]]
def tb_X9_sameBytes : List (List ax_Rw) := [
  [(0, .iconst 0, 0, 0, 0, 0, 0, []),
   (1, .istore_n 2, 2, 0, 0, 0, 0, []),
   (2, .iload_n 2, 2, 0, 0, 0, 0, []),
   (3, .aload_n 1, 1, 0, 0, 0, 0, []),
   (4, .invokevirtual 64, 997, 0, 0, 0, 0, []),
   (7, .if_icmp .ge 41, 48, 0, 0, 0, 0, []),
   (10, .aload_n 0, 0, 0, 0, 0, 0, []),
   (11, .getfield 26, 9, 3, 0, 0, 0, []),
   (14, .iload_n 2, 2, 0, 0, 0, 0, []),
   (15, .iadd, 0, 0, 0, 0, 0, []),
   (16, .aload_n 0, 0, 0, 0, 0, 0, []),
   (17, .getfield 22, 9, 2, 0, 0, 0, []),
   (20, .if_icmp .ge 28, 48, 0, 0, 0, 0, []),
   (23, .aload_n 0, 0, 0, 0, 0, 0, []),
   (24, .getfield 11, 9, 0, 0, 0, 0, []),
   (27, .aload_n 0, 0, 0, 0, 0, 0, []),
   (28, .getfield 26, 9, 3, 0, 0, 0, []),
   (31, .iload_n 2, 2, 0, 0, 0, 0, [])],
  [(32, .iadd, 0, 0, 0, 0, 0, []),
   (33, .iaload, 0, 0, 0, 0, 0, []),
   (34, .aload_n 1, 1, 0, 0, 0, 0, []),
   (35, .iload_n 2, 2, 0, 0, 0, 0, []),
   (36, .invokevirtual 87, 998, 1, 0, 0, 0, []),
   (39, .if_icmp .ne 9, 48, 0, 0, 0, 0, []),
   (42, .iinc 2 1, 2, 0, 0, 1, 0, []),
   (45, .goto (-43), 2, 0, 0, 0, 0, []),
   (48, .iload_n 2, 2, 0, 0, 0, 0, []),
   (49, .ireturn, 0, 0, 0, 0, 0, [])]]
def tb_X9_readByte : List (List ax_Rw) := [
  [(0, .aload_n 0, 0, 0, 0, 0, 0, []),
   (1, .getfield 26, 9, 3, 0, 0, 0, []),
   (4, .aload_n 0, 0, 0, 0, 0, 0, []),
   (5, .getfield 22, 9, 2, 0, 0, 0, []),
   (8, .if_icmp .ge 28, 36, 0, 0, 0, 0, []),
   (11, .aload_n 0, 0, 0, 0, 0, 0, []),
   (12, .getfield 11, 9, 0, 0, 0, 0, []),
   (15, .aload_n 0, 0, 0, 0, 0, 0, []),
   (16, .getfield 26, 9, 3, 0, 0, 0, []),
   (19, .iaload, 0, 0, 0, 0, 0, []),
   (20, .iload_n 1, 1, 0, 0, 0, 0, []),
   (21, .if_icmp .ne 15, 36, 0, 0, 0, 0, []),
   (24, .aload_n 0, 0, 0, 0, 0, 0, []),
   (25, .dup, 0, 0, 0, 0, 0, []),
   (26, .getfield 26, 9, 3, 0, 0, 0, []),
   (29, .iconst 1, 0, 0, 0, 1, 0, []),
   (30, .iadd, 0, 0, 0, 0, 0, []),
   (31, .putfield 26, 9, 3, 0, 0, 0, [])],
  [(34, .iconst 1, 0, 0, 0, 1, 0, []),
   (35, .ireturn, 0, 1, 0, 0, 0, []),
   (36, .iconst 0, 0, 0, 0, 0, 0, []),
   (37, .ireturn, 0, 1, 0, 0, 0, [])]]
def tb_X9_readDigit : List (List ax_Rw) := [
  [(0, .aload_n 0, 0, 0, 0, 0, 0, []),
   (1, .getfield 26, 9, 3, 0, 0, 0, []),
   (4, .aload_n 0, 0, 0, 0, 0, 0, []),
   (5, .getfield 22, 9, 2, 0, 0, 0, []),
   (8, .if_icmp .ge 48, 56, 0, 0, 0, 0, []),
   (11, .aload_n 0, 0, 0, 0, 0, 0, []),
   (12, .getfield 11, 9, 0, 0, 0, 0, []),
   (15, .aload_n 0, 0, 0, 0, 0, 0, []),
   (16, .getfield 26, 9, 3, 0, 0, 0, []),
   (19, .iaload, 0, 0, 0, 0, 0, []),
   (20, .bipush 48, 0, 0, 0, 48, 0, []),
   (22, .isub, 0, 0, 0, 0, 0, []),
   (23, .iconst 0, 0, 0, 0, 0, 0, []),
   (24, .iload_n 1, 1, 0, 0, 0, 0, []),
   (25, .invokestatic 91, 102, 3, 10, 0, 0, [(0, 3), (0, 1)]),
   (28, .ifCond .eq 28, 56, 0, 0, 0, 0, []),
   (31, .aload_n 0, 0, 0, 0, 0, 0, [])],
  [(32, .dup, 0, 0, 0, 0, 0, []),
   (33, .getfield 26, 9, 3, 0, 0, 0, []),
   (36, .iconst 1, 0, 0, 0, 1, 0, []),
   (37, .iadd, 0, 0, 0, 0, 0, []),
   (38, .putfield 26, 9, 3, 0, 0, 0, []),
   (41, .aload_n 0, 0, 0, 0, 0, 0, []),
   (42, .getfield 11, 9, 0, 0, 0, 0, []),
   (45, .aload_n 0, 0, 0, 0, 0, 0, []),
   (46, .getfield 26, 9, 3, 0, 0, 0, []),
   (49, .iconst 1, 0, 0, 0, 1, 0, []),
   (50, .isub, 0, 0, 0, 0, 0, []),
   (51, .iaload, 0, 0, 0, 0, 0, []),
   (52, .bipush 48, 0, 0, 0, 48, 0, []),
   (54, .isub, 0, 0, 0, 0, 0, []),
   (55, .ireturn, 0, 0, 0, 0, 0, []),
   (56, .iconst (-1), 0, 0, 0, (-1), 0, []),
   (57, .ireturn, 0, 0, 0, 0, 0, [])]]
def tb_X9_readNumber : List (List ax_Rw) := [
  [(0, .aload_n 0, 0, 0, 0, 0, 0, []),
   (1, .bipush 9, 0, 0, 0, 9, 0, []),
   (3, .invokevirtual 45, 70, 1, 9, 0, 0, [(0, 2), (0, 1)]),
   (6, .istore_n 1, 1, 0, 0, 0, 0, []),
   (7, .iconst 1, 0, 0, 0, 1, 0, []),
   (8, .istore_n 2, 2, 0, 0, 0, 0, []),
   (9, .iload_n 2, 2, 0, 0, 0, 0, []),
   (10, .iconst 4, 0, 0, 0, 4, 0, []),
   (11, .if_icmp .ge 35, 46, 0, 0, 0, 0, []),
   (14, .iload_n 1, 1, 0, 0, 0, 0, []),
   (15, .iconst (-1), 0, 0, 0, (-1), 0, []),
   (16, .if_icmp .eq 30, 46, 0, 0, 0, 0, []),
   (19, .aload_n 0, 0, 0, 0, 0, 0, []),
   (20, .bipush 9, 0, 0, 0, 9, 0, []),
   (22, .invokevirtual 45, 70, 1, 9, 0, 0, [(0, 2), (0, 1)]),
   (25, .istore_n 3, 3, 0, 0, 0, 0, []),
   (26, .iload_n 3, 3, 0, 0, 0, 0, []),
   (27, .iconst (-1), 0, 0, 0, (-1), 0, []),
   (28, .if_icmp .ne 5, 33, 0, 0, 0, 0, []),
   (31, .iload_n 1, 1, 0, 0, 0, 0, [])],
  [(32, .ireturn, 0, 0, 0, 0, 0, []),
   (33, .iload_n 1, 1, 0, 0, 0, 0, []),
   (34, .bipush 10, 0, 0, 0, 10, 0, []),
   (36, .imul, 0, 0, 0, 0, 0, []),
   (37, .iload_n 3, 3, 0, 0, 0, 0, []),
   (38, .iadd, 0, 0, 0, 0, 0, []),
   (39, .istore_n 1, 1, 0, 0, 0, 0, []),
   (40, .iinc 2 1, 2, 0, 0, 1, 0, []),
   (43, .goto (-34), 9, 0, 0, 0, 0, []),
   (46, .iload_n 1, 1, 0, 0, 0, 0, []),
   (47, .ireturn, 0, 0, 0, 0, 0, [])]]
def tb_X10_plate : List (List ax_Rw) := [
  [(0, .iload_n 1, 1, 0, 0, 0, 0, []),
   (1, .iconst 0, 0, 0, 0, 0, 0, []),
   (2, .iconst 3, 0, 0, 0, 3, 0, []),
   (3, .invokestatic 86, 102, 3, 10, 0, 0, [(0, 3), (0, 1)]),
   (6, .ifCond .eq 21, 27, 0, 0, 0, 0, []),
   (9, .iload_n 2, 2, 0, 0, 0, 0, []),
   (10, .iconst 0, 0, 0, 0, 0, 0, []),
   (11, .iconst 5, 0, 0, 0, 5, 0, []),
   (12, .invokestatic 86, 102, 3, 10, 0, 0, [(0, 3), (0, 1)]),
   (15, .ifCond .eq 12, 27, 0, 0, 0, 0, []),
   (18, .iload_n 3, 3, 0, 0, 0, 0, []),
   (19, .iload 4, 4, 0, 0, 0, 0, []),
   (21, .invokestatic 90, 104, 2, 10, 0, 0, [(0, 2), (0, 1)]),
   (24, .ifCond .ne 6, 30, 0, 0, 0, 0, []),
   (27, .bipush (-2), 0, 0, 0, (-2), 0, []),
   (29, .ireturn, 0, 0, 0, 0, 0, []),
   (30, .aload_n 0, 0, 0, 0, 0, 0, []),
   (31, .getfield 10, 10, 0, 0, 0, 0, [])],
  [(34, .getfield 94, 6, 4, 0, 0, 0, []),
   (37, .bipush 12, 0, 0, 0, 12, 0, []),
   (39, .if_icmp .ne 6, 45, 0, 0, 0, 0, []),
   (42, .bipush (-4), 0, 0, 0, (-4), 0, []),
   (44, .ireturn, 0, 0, 0, 0, 0, []),
   (45, .aload_n 0, 0, 0, 0, 0, 0, []),
   (46, .getfield 10, 10, 0, 0, 0, 0, []),
   (49, .iload_n 1, 1, 0, 0, 0, 0, []),
   (50, .iload_n 2, 2, 0, 0, 0, 0, []),
   (51, .iload_n 3, 3, 0, 0, 0, 0, []),
   (52, .iload 4, 4, 0, 0, 0, 0, []),
   (54, .invokevirtual 98, 42, 4, 6, 0, 0, [(0, 5), (0, 1)]),
   (57, .ireturn, 0, 0, 0, 0, 0, [])]]
def tb_X10_driver : List (List ax_Rw) := [
  [(0, .iload_n 1, 1, 0, 0, 0, 0, []),
   (1, .iconst 0, 0, 0, 0, 0, 0, []),
   (2, .iconst 2, 0, 0, 0, 2, 0, []),
   (3, .invokestatic 86, 102, 3, 10, 0, 0, [(0, 3), (0, 1)]),
   (6, .ifCond .ne 6, 12, 0, 0, 0, 0, []),
   (9, .bipush (-2), 0, 0, 0, (-2), 0, []),
   (11, .ireturn, 0, 0, 0, 0, 0, []),
   (12, .aload_n 0, 0, 0, 0, 0, 0, []),
   (13, .getfield 19, 10, 1, 0, 0, 0, []),
   (16, .getfield 102, 8, 2, 0, 0, 0, []),
   (19, .bipush 16, 0, 0, 0, 16, 0, []),
   (21, .if_icmp .ne 6, 27, 0, 0, 0, 0, []),
   (24, .bipush (-4), 0, 0, 0, (-4), 0, []),
   (26, .ireturn, 0, 0, 0, 0, 0, []),
   (27, .aload_n 0, 0, 0, 0, 0, 0, []),
   (28, .getfield 19, 10, 1, 0, 0, 0, []),
   (31, .iload_n 1, 1, 0, 0, 0, 0, [])],
  [(32, .invokevirtual 105, 54, 1, 8, 0, 0, [(0, 2), (0, 1)]),
   (35, .ireturn, 0, 0, 0, 0, 0, [])]]
def tb_X10_drive : List (List ax_Rw) := [
  [(0, .aload_n 0, 0, 0, 0, 0, 0, []),
   (1, .getfield 10, 10, 0, 0, 0, 0, []),
   (4, .iload_n 1, 1, 0, 0, 0, 0, []),
   (5, .invokevirtual 109, 41, 1, 6, 0, 0, [(0, 2), (0, 1)]),
   (8, .ifCond .eq 28, 36, 0, 0, 0, 0, []),
   (11, .iload_n 2, 2, 0, 0, 0, 0, []),
   (12, .iconst 0, 0, 0, 0, 0, 0, []),
   (13, .iconst 1, 0, 0, 0, 1, 0, []),
   (14, .invokestatic 86, 102, 3, 10, 0, 0, [(0, 3), (0, 1)]),
   (17, .ifCond .eq 19, 36, 0, 0, 0, 0, []),
   (20, .iload_n 3, 3, 0, 0, 0, 0, []),
   (21, .iconst (-1), 0, 0, 0, (-1), 0, []),
   (22, .if_icmp .eq 17, 39, 0, 0, 0, 0, []),
   (25, .aload_n 0, 0, 0, 0, 0, 0, []),
   (26, .getfield 19, 10, 1, 0, 0, 0, []),
   (29, .iload_n 3, 3, 0, 0, 0, 0, []),
   (30, .invokevirtual 113, 53, 1, 8, 0, 0, [(0, 2), (0, 1)])],
  [(33, .ifCond .ne 6, 39, 0, 0, 0, 0, []),
   (36, .bipush (-5), 0, 0, 0, (-5), 0, []),
   (38, .ireturn, 0, 0, 0, 0, 0, []),
   (39, .aload_n 0, 0, 0, 0, 0, 0, []),
   (40, .getfield 19, 10, 1, 0, 0, 0, []),
   (43, .iload_n 1, 1, 0, 0, 0, 0, []),
   (44, .iconst 2, 0, 0, 0, 2, 0, []),
   (45, .imul, 0, 0, 0, 0, 0, []),
   (46, .iload_n 2, 2, 0, 0, 0, 0, []),
   (47, .iadd, 0, 0, 0, 0, 0, []),
   (48, .iload_n 3, 3, 0, 0, 0, 0, []),
   (49, .invokevirtual 116, 56, 2, 8, 0, 0, [(0, 5), (0, 1)]),
   (52, .ireturn, 0, 0, 0, 0, 0, [])]]
def tb_X10_about : List (List ax_Rw) := [
  [(0, .aload_n 0, 0, 0, 0, 0, 0, []),
   (1, .getfield 10, 10, 0, 0, 0, 0, []),
   (4, .iload_n 1, 1, 0, 0, 0, 0, []),
   (5, .invokevirtual 109, 41, 1, 6, 0, 0, [(0, 2), (0, 1)]),
   (8, .ifCond .ne 5, 13, 0, 0, 0, 0, []),
   (11, .iconst (-1), 0, 0, 0, (-1), 0, []),
   (12, .ireturn, 0, 0, 0, 0, 0, []),
   (13, .iload_n 2, 2, 0, 0, 0, 0, []),
   (14, .tableswitch 140 0 7 #[46, 56, 66, 78, 92, 102, 112, 122], 154, 0, 0, 0, 0, [(0, 60), (1, 70), (2, 80), (3, 92), (4, 106), (5, 116), (6, 126), (7, 136)])],
  [(60, .aload_n 0, 0, 0, 0, 0, 0, []),
   (61, .getfield 10, 10, 0, 0, 0, 0, [])],
  [(64, .getfield 120, 6, 0, 0, 0, 0, []),
   (67, .iload_n 1, 1, 0, 0, 0, 0, []),
   (68, .iaload, 0, 0, 0, 0, 0, []),
   (69, .ireturn, 0, 0, 0, 0, 0, []),
   (70, .aload_n 0, 0, 0, 0, 0, 0, []),
   (71, .getfield 10, 10, 0, 0, 0, 0, []),
   (74, .getfield 124, 6, 1, 0, 0, 0, []),
   (77, .iload_n 1, 1, 0, 0, 0, 0, []),
   (78, .iaload, 0, 0, 0, 0, 0, []),
   (79, .ireturn, 0, 0, 0, 0, 0, []),
   (80, .aload_n 0, 0, 0, 0, 0, 0, []),
   (81, .getfield 19, 10, 1, 0, 0, 0, []),
   (84, .getfield 127, 8, 1, 0, 0, 0, []),
   (87, .iload_n 1, 1, 0, 0, 0, 0, []),
   (88, .iconst 2, 0, 0, 0, 2, 0, []),
   (89, .imul, 0, 0, 0, 0, 0, []),
   (90, .iaload, 0, 0, 0, 0, 0, []),
   (91, .ireturn, 0, 0, 0, 0, 0, []),
   (92, .aload_n 0, 0, 0, 0, 0, 0, []),
   (93, .getfield 19, 10, 1, 0, 0, 0, [])],
  [(96, .getfield 127, 8, 1, 0, 0, 0, []),
   (99, .iload_n 1, 1, 0, 0, 0, 0, []),
   (100, .iconst 2, 0, 0, 0, 2, 0, []),
   (101, .imul, 0, 0, 0, 0, 0, []),
   (102, .iconst 1, 0, 0, 0, 1, 0, []),
   (103, .iadd, 0, 0, 0, 0, 0, []),
   (104, .iaload, 0, 0, 0, 0, 0, []),
   (105, .ireturn, 0, 0, 0, 0, 0, []),
   (106, .aload_n 0, 0, 0, 0, 0, 0, []),
   (107, .getfield 56, 10, 6, 0, 0, 0, []),
   (110, .getfield 130, 1, 6, 0, 0, 0, []),
   (113, .iload_n 1, 1, 0, 0, 0, 0, []),
   (114, .iaload, 0, 0, 0, 0, 0, []),
   (115, .ireturn, 0, 0, 0, 0, 0, []),
   (116, .aload_n 0, 0, 0, 0, 0, 0, []),
   (117, .getfield 56, 10, 6, 0, 0, 0, []),
   (120, .getfield 133, 1, 7, 0, 0, 0, []),
   (123, .iload_n 1, 1, 0, 0, 0, 0, []),
   (124, .iaload, 0, 0, 0, 0, 0, []),
   (125, .ireturn, 0, 0, 0, 0, 0, []),
   (126, .aload_n 0, 0, 0, 0, 0, 0, []),
   (127, .getfield 56, 10, 6, 0, 0, 0, [])],
  [(130, .getfield 136, 1, 5, 0, 0, 0, []),
   (133, .iload_n 1, 1, 0, 0, 0, 0, []),
   (134, .iaload, 0, 0, 0, 0, 0, []),
   (135, .ireturn, 0, 0, 0, 0, 0, []),
   (136, .aload_n 0, 0, 0, 0, 0, 0, []),
   (137, .getfield 10, 10, 0, 0, 0, 0, []),
   (140, .iload_n 1, 1, 0, 0, 0, 0, []),
   (141, .aload_n 0, 0, 0, 0, 0, 0, []),
   (142, .getfield 56, 10, 6, 0, 0, 0, []),
   (145, .getfield 130, 1, 6, 0, 0, 0, []),
   (148, .iload_n 1, 1, 0, 0, 0, 0, []),
   (149, .iaload, 0, 0, 0, 0, 0, []),
   (150, .invokevirtual 139, 46, 2, 6, 0, 0, [(0, 3), (0, 1)]),
   (153, .ireturn, 0, 0, 0, 0, 0, []),
   (154, .iconst (-1), 0, 0, 0, (-1), 0, []),
   (155, .ireturn, 0, 0, 0, 0, 0, [])]]
def tb_X10_driven : List (List ax_Rw) := [
  [(0, .aload_n 0, 0, 0, 0, 0, 0, []),
   (1, .getfield 19, 10, 1, 0, 0, 0, []),
   (4, .iload_n 1, 1, 0, 0, 0, 0, []),
   (5, .invokevirtual 113, 53, 1, 8, 0, 0, [(0, 2), (0, 1)]),
   (8, .ifCond .ne 5, 13, 0, 0, 0, 0, []),
   (11, .iconst (-1), 0, 0, 0, (-1), 0, []),
   (12, .ireturn, 0, 0, 0, 0, 0, []),
   (13, .iload_n 2, 2, 0, 0, 0, 0, []),
   (14, .tableswitch 56 0 2 #[26, 36, 46], 70, 0, 0, 0, 0, [(0, 40), (1, 50), (2, 60)])],
  [(40, .aload_n 0, 0, 0, 0, 0, 0, []),
   (41, .getfield 19, 10, 1, 0, 0, 0, []),
   (44, .getfield 142, 8, 0, 0, 0, 0, []),
   (47, .iload_n 1, 1, 0, 0, 0, 0, []),
   (48, .iaload, 0, 0, 0, 0, 0, []),
   (49, .ireturn, 0, 0, 0, 0, 0, []),
   (50, .aload_n 0, 0, 0, 0, 0, 0, []),
   (51, .getfield 56, 10, 6, 0, 0, 0, []),
   (54, .getfield 145, 1, 8, 0, 0, 0, []),
   (57, .iload_n 1, 1, 0, 0, 0, 0, []),
   (58, .iaload, 0, 0, 0, 0, 0, []),
   (59, .ireturn, 0, 0, 0, 0, 0, []),
   (60, .aload_n 0, 0, 0, 0, 0, 0, []),
   (61, .getfield 56, 10, 6, 0, 0, 0, [])],
  [(64, .getfield 148, 1, 9, 0, 0, 0, []),
   (67, .iload_n 1, 1, 0, 0, 0, 0, []),
   (68, .iaload, 0, 0, 0, 0, 0, []),
   (69, .ireturn, 0, 0, 0, 0, 0, []),
   (70, .iconst (-1), 0, 0, 0, (-1), 0, []),
   (71, .ireturn, 0, 0, 0, 0, 0, [])]]
def tb_X10_fill : List (List ax_Rw) := [
  [(0, .aload_n 0, 0, 0, 0, 0, 0, []),
   (1, .getfield 19, 10, 1, 0, 0, 0, []),
   (4, .aload_n 0, 0, 0, 0, 0, 0, []),
   (5, .getfield 10, 10, 0, 0, 0, 0, []),
   (8, .getfield 94, 6, 4, 0, 0, 0, []),
   (11, .invokevirtual 151, 57, 1, 8, 0, 0, [(0, 4), (0, 1)]),
   (14, .ireturn, 0, 0, 0, 0, 0, [])]]
def tb_X10_feed : List (List ax_Rw) := [
  [(0, .iload_n 3, 3, 0, 0, 0, 0, []),
   (1, .iconst 1, 0, 0, 0, 1, 0, []),
   (2, .bipush 8, 0, 0, 0, 8, 0, []),
   (4, .invokestatic 86, 102, 3, 10, 0, 0, [(0, 3), (0, 1)]),
   (7, .ifCond .ne 6, 13, 0, 0, 0, 0, []),
   (10, .bipush (-2), 0, 0, 0, (-2), 0, []),
   (12, .ireturn, 0, 0, 0, 0, 0, []),
   (13, .aload_n 0, 0, 0, 0, 0, 0, []),
   (14, .getfield 26, 10, 2, 0, 0, 0, []),
   (17, .getfield 154, 9, 2, 0, 0, 0, []),
   (20, .iload_n 3, 3, 0, 0, 0, 0, []),
   (21, .iadd, 0, 0, 0, 0, 0, []),
   (22, .bipush 120, 0, 0, 0, 120, 0, []),
   (24, .if_icmp .le 6, 30, 0, 0, 0, 0, []),
   (27, .bipush (-4), 0, 0, 0, (-4), 0, []),
   (29, .ireturn, 0, 0, 0, 0, 0, []),
   (30, .aload_n 0, 0, 0, 0, 0, 0, []),
   (31, .getfield 26, 10, 2, 0, 0, 0, [])],
  [(34, .lload_n 1, 1, 0, 0, 0, 0, []),
   (35, .iload_n 3, 3, 0, 0, 0, 0, []),
   (36, .invokevirtual 155, 62, 2, 9, 0, 0, [(0, 5), (0, 1)]),
   (39, .ireturn, 0, 0, 0, 0, 0, [])]]
def tb_X10_law : List (List ax_Rw) := [
  [(0, .aload_n 0, 0, 0, 0, 0, 0, []),
   (1, .getfield 26, 10, 2, 0, 0, 0, []),
   (4, .invokevirtual 159, 63, 0, 9, 0, 0, [(0, 2), (0, 1)]),
   (7, .istore_n 1, 1, 0, 0, 0, 0, []),
   (8, .iload_n 1, 1, 0, 0, 0, 0, []),
   (9, .iconst (-1), 0, 0, 0, (-1), 0, []),
   (10, .if_icmp .eq 8, 18, 0, 0, 0, 0, []),
   (13, .bipush (-10), 0, 0, 0, (-10), 0, []),
   (15, .iload_n 1, 1, 0, 0, 0, 0, []),
   (16, .isub, 0, 0, 0, 0, 0, []),
   (17, .ireturn, 0, 0, 0, 0, 0, []),
   (18, .aload_n 0, 0, 0, 0, 0, 0, []),
   (19, .getfield 33, 10, 3, 0, 0, 0, []),
   (22, .aload_n 0, 0, 0, 0, 0, 0, []),
   (23, .getfield 26, 10, 2, 0, 0, 0, []),
   (26, .getfield 163, 9, 1, 0, 0, 0, []),
   (29, .invokevirtual 166, 38, 1, 5, 0, 0, [(0, 3), (0, 0)])],
  [(32, .aload_n 0, 0, 0, 0, 0, 0, []),
   (33, .getfield 33, 10, 3, 0, 0, 0, []),
   (36, .getfield 170, 5, 3, 0, 0, 0, []),
   (39, .ireturn, 0, 0, 0, 0, 0, [])]]
def tb_X10_fare : List (List ax_Rw) := [
  [(0, .iload_n 1, 1, 0, 0, 0, 0, []),
   (1, .invokestatic 171, 103, 1, 10, 0, 0, [(0, 1), (0, 1)]),
   (4, .ifCond .eq 10, 14, 0, 0, 0, 0, []),
   (7, .iload_n 2, 2, 0, 0, 0, 0, []),
   (8, .invokestatic 171, 103, 1, 10, 0, 0, [(0, 1), (0, 1)]),
   (11, .ifCond .ne 5, 16, 0, 0, 0, 0, []),
   (14, .iconst (-1), 0, 0, 0, (-1), 0, []),
   (15, .ireturn, 0, 0, 0, 0, 0, []),
   (16, .iload_n 3, 3, 0, 0, 0, 0, []),
   (17, .iconst 0, 0, 0, 0, 0, 0, []),
   (18, .bipush 23, 0, 0, 0, 23, 0, []),
   (20, .invokestatic 86, 102, 3, 10, 0, 0, [(0, 3), (0, 1)]),
   (23, .ifCond .eq 14, 37, 0, 0, 0, 0, []),
   (26, .iload 4, 4, 0, 0, 0, 0, []),
   (28, .iconst 0, 0, 0, 0, 0, 0, []),
   (29, .bipush 9, 0, 0, 0, 9, 0, []),
   (31, .invokestatic 86, 102, 3, 10, 0, 0, [(0, 3), (0, 1)])],
  [(34, .ifCond .ne 6, 40, 0, 0, 0, 0, []),
   (37, .bipush (-2), 0, 0, 0, (-2), 0, []),
   (39, .ireturn, 0, 0, 0, 0, 0, []),
   (40, .aload_n 0, 0, 0, 0, 0, 0, []),
   (41, .getfield 33, 10, 3, 0, 0, 0, []),
   (44, .iload_n 1, 1, 0, 0, 0, 0, []),
   (45, .iload_n 2, 2, 0, 0, 0, 0, []),
   (46, .iload_n 3, 3, 0, 0, 0, 0, []),
   (47, .iload 4, 4, 0, 0, 0, 0, []),
   (49, .invokevirtual 174, 39, 4, 5, 0, 0, [(0, 8), (0, 1)]),
   (52, .ireturn, 0, 0, 0, 0, 0, [])]]
def tb_X10_ask : List (List ax_Rw) := [
  [(0, .iload_n 1, 1, 0, 0, 0, 0, []),
   (1, .iconst 0, 0, 0, 0, 0, 0, []),
   (2, .bipush 23, 0, 0, 0, 23, 0, []),
   (4, .invokestatic 86, 102, 3, 10, 0, 0, [(0, 3), (0, 1)]),
   (7, .ifCond .eq 10, 17, 0, 0, 0, 0, []),
   (10, .iload_n 2, 2, 0, 0, 0, 0, []),
   (11, .invokestatic 171, 103, 1, 10, 0, 0, [(0, 1), (0, 1)]),
   (14, .ifCond .ne 5, 19, 0, 0, 0, 0, []),
   (17, .iconst (-1), 0, 0, 0, (-1), 0, []),
   (18, .ireturn, 0, 0, 0, 0, 0, []),
   (19, .iload_n 3, 3, 0, 0, 0, 0, []),
   (20, .iconst 0, 0, 0, 0, 0, 0, []),
   (21, .bipush 20, 0, 0, 0, 20, 0, []),
   (23, .invokestatic 86, 102, 3, 10, 0, 0, [(0, 3), (0, 1)]),
   (26, .ifCond .ne 6, 32, 0, 0, 0, 0, []),
   (29, .bipush (-2), 0, 0, 0, (-2), 0, []),
   (31, .ireturn, 0, 0, 0, 0, 0, [])],
  [(32, .aload_n 0, 0, 0, 0, 0, 0, []),
   (33, .getfield 40, 10, 4, 0, 0, 0, []),
   (36, .iload_n 1, 1, 0, 0, 0, 0, []),
   (37, .iload_n 2, 2, 0, 0, 0, 0, []),
   (38, .iload_n 3, 3, 0, 0, 0, 0, []),
   (39, .invokevirtual 177, 2, 3, 0, 0, 0, [(0, 5), (0, 1)]),
   (42, .ireturn, 0, 0, 0, 0, 0, [])]]
def tb_X10_stand : List (List ax_Rw) := [
  [(0, .aload_n 0, 0, 0, 0, 0, 0, []),
   (1, .getfield 10, 10, 0, 0, 0, 0, []),
   (4, .iload_n 1, 1, 0, 0, 0, 0, []),
   (5, .invokevirtual 109, 41, 1, 6, 0, 0, [(0, 2), (0, 1)]),
   (8, .ifCond .eq 15, 23, 0, 0, 0, 0, []),
   (11, .iload_n 2, 2, 0, 0, 0, 0, []),
   (12, .iconst (-1), 0, 0, 0, (-1), 0, []),
   (13, .if_icmp .eq 13, 26, 0, 0, 0, 0, []),
   (16, .iload_n 2, 2, 0, 0, 0, 0, []),
   (17, .invokestatic 171, 103, 1, 10, 0, 0, [(0, 1), (0, 1)]),
   (20, .ifCond .ne 6, 26, 0, 0, 0, 0, []),
   (23, .bipush (-5), 0, 0, 0, (-5), 0, []),
   (25, .ireturn, 0, 0, 0, 0, 0, []),
   (26, .iload_n 2, 2, 0, 0, 0, 0, []),
   (27, .iconst (-1), 0, 0, 0, (-1), 0, []),
   (28, .if_icmp .eq 18, 46, 0, 0, 0, 0, []),
   (31, .aload_n 0, 0, 0, 0, 0, 0, [])],
  [(32, .getfield 10, 10, 0, 0, 0, 0, []),
   (35, .iload_n 1, 1, 0, 0, 0, 0, []),
   (36, .iload_n 2, 2, 0, 0, 0, 0, []),
   (37, .invokevirtual 181, 44, 2, 6, 0, 0, [(0, 3), (0, 1)]),
   (40, .ifCond .ne 6, 46, 0, 0, 0, 0, []),
   (43, .bipush (-3), 0, 0, 0, (-3), 0, []),
   (45, .ireturn, 0, 0, 0, 0, 0, []),
   (46, .aload_n 0, 0, 0, 0, 0, 0, []),
   (47, .getfield 56, 10, 6, 0, 0, 0, []),
   (50, .iload_n 1, 1, 0, 0, 0, 0, []),
   (51, .iload_n 2, 2, 0, 0, 0, 0, []),
   (52, .invokevirtual 184, 6, 2, 1, 0, 0, [(0, 4), (0, 1)]),
   (55, .ireturn, 0, 0, 0, 0, 0, [])]]
def tb_X10_step : List (List ax_Rw) := [
  [(0, .iload_n 1, 1, 0, 0, 0, 0, []),
   (1, .iconst 1, 0, 0, 0, 1, 0, []),
   (2, .bipush 24, 0, 0, 0, 24, 0, []),
   (4, .invokestatic 86, 102, 3, 10, 0, 0, [(0, 3), (0, 1)]),
   (7, .ifCond .ne 6, 13, 0, 0, 0, 0, []),
   (10, .bipush (-2), 0, 0, 0, (-2), 0, []),
   (12, .ireturn, 0, 0, 0, 0, 0, []),
   (13, .aload_n 0, 0, 0, 0, 0, 0, []),
   (14, .getfield 56, 10, 6, 0, 0, 0, []),
   (17, .getfield 187, 1, 13, 0, 0, 0, []),
   (20, .iload_n 1, 1, 0, 0, 0, 0, []),
   (21, .iadd, 0, 0, 0, 0, 0, []),
   (22, .sipush 400, 0, 0, 0, 400, 0, []),
   (25, .if_icmp .le 6, 31, 0, 0, 0, 0, []),
   (28, .bipush (-4), 0, 0, 0, (-4), 0, []),
   (30, .ireturn, 0, 0, 0, 0, 0, []),
   (31, .aload_n 0, 0, 0, 0, 0, 0, [])],
  [(32, .getfield 56, 10, 6, 0, 0, 0, []),
   (35, .getfield 190, 1, 14, 0, 0, 0, []),
   (38, .istore_n 2, 2, 0, 0, 0, 0, []),
   (39, .aload_n 0, 0, 0, 0, 0, 0, []),
   (40, .getfield 56, 10, 6, 0, 0, 0, []),
   (43, .iload_n 1, 1, 0, 0, 0, 0, []),
   (44, .invokevirtual 193, 7, 1, 1, 0, 0, [(0, 3), (0, 0)]),
   (47, .aload_n 0, 0, 0, 0, 0, 0, []),
   (48, .getfield 56, 10, 6, 0, 0, 0, []),
   (51, .getfield 190, 1, 14, 0, 0, 0, []),
   (54, .iload_n 2, 2, 0, 0, 0, 0, []),
   (55, .isub, 0, 0, 0, 0, 0, []),
   (56, .ireturn, 0, 0, 0, 0, 0, [])]]
def tb_X10_tried : List (List ax_Rw) := [
  [(0, .iload_n 3, 3, 0, 0, 0, 0, []),
   (1, .iconst 0, 0, 0, 0, 0, 0, []),
   (2, .iconst 3, 0, 0, 0, 3, 0, []),
   (3, .invokestatic 86, 102, 3, 10, 0, 0, [(0, 3), (0, 1)]),
   (6, .ifCond .ne 5, 11, 0, 0, 0, 0, []),
   (9, .iconst (-1), 0, 0, 0, (-1), 0, []),
   (10, .ireturn, 0, 0, 0, 0, 0, []),
   (11, .iload_n 1, 1, 0, 0, 0, 0, []),
   (12, .iconst 0, 0, 0, 0, 0, 0, []),
   (13, .aload_n 0, 0, 0, 0, 0, 0, []),
   (14, .getfield 10, 10, 0, 0, 0, 0, []),
   (17, .getfield 94, 6, 4, 0, 0, 0, []),
   (20, .invokestatic 86, 102, 3, 10, 0, 0, [(0, 3), (0, 1)]),
   (23, .ifCond .eq 13, 36, 0, 0, 0, 0, []),
   (26, .iload_n 2, 2, 0, 0, 0, 0, []),
   (27, .iconst 1, 0, 0, 0, 1, 0, []),
   (28, .bipush 40, 0, 0, 0, 40, 0, []),
   (30, .invokestatic 86, 102, 3, 10, 0, 0, [(0, 3), (0, 1)])],
  [(33, .ifCond .ne 6, 39, 0, 0, 0, 0, []),
   (36, .bipush (-2), 0, 0, 0, (-2), 0, []),
   (38, .ireturn, 0, 0, 0, 0, 0, []),
   (39, .aload_n 0, 0, 0, 0, 0, 0, []),
   (40, .getfield 60, 10, 7, 0, 0, 0, []),
   (43, .aload_n 0, 0, 0, 0, 0, 0, []),
   (44, .getfield 56, 10, 6, 0, 0, 0, []),
   (47, .invokevirtual 197, 4, 1, 1, 0, 0, [(0, 2), (0, 0)]),
   (50, .aload_n 0, 0, 0, 0, 0, 0, []),
   (51, .getfield 60, 10, 7, 0, 0, 0, []),
   (54, .invokevirtual 200, 5, 0, 1, 0, 0, [(0, 1), (0, 0)]),
   (57, .aload_n 0, 0, 0, 0, 0, 0, []),
   (58, .getfield 10, 10, 0, 0, 0, 0, []),
   (61, .getfield 94, 6, 4, 0, 0, 0, [])],
  [(64, .iload_n 1, 1, 0, 0, 0, 0, []),
   (65, .isub, 0, 0, 0, 0, 0, []),
   (66, .istore 4, 4, 0, 0, 0, 0, []),
   (68, .iload 4, 4, 0, 0, 0, 0, []),
   (70, .aload_n 0, 0, 0, 0, 0, 0, []),
   (71, .getfield 10, 10, 0, 0, 0, 0, []),
   (74, .getfield 94, 6, 4, 0, 0, 0, []),
   (77, .if_icmp .ge 20, 97, 0, 0, 0, 0, []),
   (80, .aload_n 0, 0, 0, 0, 0, 0, []),
   (81, .getfield 60, 10, 7, 0, 0, 0, []),
   (84, .iload 4, 4, 0, 0, 0, 0, []),
   (86, .iconst (-1), 0, 0, 0, (-1), 0, []),
   (87, .invokevirtual 184, 6, 2, 1, 0, 0, [(0, 4), (0, 1)]),
   (90, .pop, 0, 0, 0, 0, 0, []),
   (91, .iinc 4 1, 4, 0, 0, 1, 0, []),
   (94, .goto (-26), 68, 0, 0, 0, 0, [])],
  [(97, .aload_n 0, 0, 0, 0, 0, 0, []),
   (98, .getfield 60, 10, 7, 0, 0, 0, []),
   (101, .iload_n 2, 2, 0, 0, 0, 0, []),
   (102, .invokevirtual 193, 7, 1, 1, 0, 0, [(0, 3), (0, 0)]),
   (105, .iload_n 3, 3, 0, 0, 0, 0, []),
   (106, .tableswitch 50 0 2 #[26, 34, 42], 156, 0, 0, 0, 0, [(0, 132), (1, 140), (2, 148)])],
  [(132, .aload_n 0, 0, 0, 0, 0, 0, []),
   (133, .getfield 60, 10, 7, 0, 0, 0, []),
   (136, .getfield 190, 1, 14, 0, 0, 0, []),
   (139, .ireturn, 0, 0, 0, 0, 0, []),
   (140, .aload_n 0, 0, 0, 0, 0, 0, []),
   (141, .getfield 60, 10, 7, 0, 0, 0, []),
   (144, .getfield 203, 1, 15, 0, 0, 0, []),
   (147, .ireturn, 0, 0, 0, 0, 0, []),
   (148, .aload_n 0, 0, 0, 0, 0, 0, []),
   (149, .getfield 60, 10, 7, 0, 0, 0, []),
   (152, .getfield 206, 1, 16, 0, 0, 0, []),
   (155, .ireturn, 0, 0, 0, 0, 0, []),
   (156, .aload_n 0, 0, 0, 0, 0, 0, []),
   (157, .getfield 60, 10, 7, 0, 0, 0, [])],
  [(160, .getfield 209, 1, 17, 0, 0, 0, []),
   (163, .ireturn, 0, 0, 0, 0, 0, [])]]
def tb_X10_found : List (List ax_Rw) := [
  [(0, .aload_n 0, 0, 0, 0, 0, 0, []),
   (1, .getfield 47, 10, 5, 0, 0, 0, []),
   (4, .iload_n 1, 1, 0, 0, 0, 0, []),
   (5, .iload_n 2, 2, 0, 0, 0, 0, []),
   (6, .iload_n 3, 3, 0, 0, 0, 0, []),
   (7, .iload 4, 4, 0, 0, 0, 0, []),
   (9, .iload 5, 5, 0, 0, 0, 0, []),
   (11, .invokevirtual 212, 51, 5, 7, 0, 0, [(0, 8), (0, 1)]),
   (14, .ireturn, 0, 0, 0, 0, 0, [])]]
def tb_X10_rode : List (List ax_Rw) := [
  [(0, .aload_n 0, 0, 0, 0, 0, 0, []),
   (1, .getfield 47, 10, 5, 0, 0, 0, []),
   (4, .iload_n 1, 1, 0, 0, 0, 0, []),
   (5, .invokevirtual 216, 48, 1, 7, 0, 0, [(0, 2), (0, 1)]),
   (8, .ifCond .eq 12, 20, 0, 0, 0, 0, []),
   (11, .iload_n 2, 2, 0, 0, 0, 0, []),
   (12, .iconst 0, 0, 0, 0, 0, 0, []),
   (13, .iconst 4, 0, 0, 0, 4, 0, []),
   (14, .invokestatic 86, 102, 3, 10, 0, 0, [(0, 3), (0, 1)]),
   (17, .ifCond .ne 5, 22, 0, 0, 0, 0, []),
   (20, .iconst (-1), 0, 0, 0, (-1), 0, []),
   (21, .ireturn, 0, 0, 0, 0, 0, []),
   (22, .aload_n 0, 0, 0, 0, 0, 0, []),
   (23, .getfield 47, 10, 5, 0, 0, 0, []),
   (26, .iload_n 1, 1, 0, 0, 0, 0, []),
   (27, .iload_n 2, 2, 0, 0, 0, 0, []),
   (28, .invokevirtual 217, 49, 2, 7, 0, 0, [(0, 3), (0, 1)]),
   (31, .ireturn, 0, 0, 0, 0, 0, [])]]
def tb_X10_value : List (List ax_Rw) := [
  [(0, .aload_n 0, 0, 0, 0, 0, 0, []),
   (1, .getfield 10, 10, 0, 0, 0, 0, []),
   (4, .iload_n 1, 1, 0, 0, 0, 0, []),
   (5, .invokevirtual 109, 41, 1, 6, 0, 0, [(0, 2), (0, 1)]),
   (8, .ifCond .ne 5, 13, 0, 0, 0, 0, []),
   (11, .iconst (-1), 0, 0, 0, (-1), 0, []),
   (12, .ireturn, 0, 0, 0, 0, 0, []),
   (13, .iload_n 2, 2, 0, 0, 0, 0, []),
   (14, .iload_n 3, 3, 0, 0, 0, 0, []),
   (15, .invokestatic 220, 105, 2, 10, 0, 0, [(0, 2), (0, 1)]),
   (18, .ifCond .ne 6, 24, 0, 0, 0, 0, []),
   (21, .bipush (-2), 0, 0, 0, (-2), 0, []),
   (23, .ireturn, 0, 0, 0, 0, 0, []),
   (24, .aload_n 0, 0, 0, 0, 0, 0, []),
   (25, .getfield 10, 10, 0, 0, 0, 0, []),
   (28, .iload_n 1, 1, 0, 0, 0, 0, []),
   (29, .iload_n 2, 2, 0, 0, 0, 0, []),
   (30, .iload_n 3, 3, 0, 0, 0, 0, []),
   (31, .invokevirtual 223, 47, 3, 6, 0, 0, [(0, 8), (0, 1)])],
  [(34, .ireturn, 0, 0, 0, 0, 0, [])]]
def tb_X10_rent : List (List ax_Rw) := [
  [(0, .aload_n 0, 0, 0, 0, 0, 0, []),
   (1, .getfield 10, 10, 0, 0, 0, 0, []),
   (4, .iload_n 1, 1, 0, 0, 0, 0, []),
   (5, .invokevirtual 109, 41, 1, 6, 0, 0, [(0, 2), (0, 1)]),
   (8, .ifCond .ne 5, 13, 0, 0, 0, 0, []),
   (11, .iconst (-1), 0, 0, 0, (-1), 0, []),
   (12, .ireturn, 0, 0, 0, 0, 0, []),
   (13, .iload_n 2, 2, 0, 0, 0, 0, []),
   (14, .iload_n 3, 3, 0, 0, 0, 0, []),
   (15, .invokestatic 90, 104, 2, 10, 0, 0, [(0, 2), (0, 1)]),
   (18, .ifCond .ne 6, 24, 0, 0, 0, 0, []),
   (21, .bipush (-2), 0, 0, 0, (-2), 0, []),
   (23, .ireturn, 0, 0, 0, 0, 0, []),
   (24, .aload_n 0, 0, 0, 0, 0, 0, []),
   (25, .getfield 10, 10, 0, 0, 0, 0, []),
   (28, .iload_n 1, 1, 0, 0, 0, 0, []),
   (29, .iload_n 2, 2, 0, 0, 0, 0, []),
   (30, .iload_n 3, 3, 0, 0, 0, 0, []),
   (31, .invokevirtual 226, 43, 3, 6, 0, 0, [(0, 5), (0, 1)])],
  [(34, .ireturn, 0, 0, 0, 0, 0, [])]]
def tb_X10_loan : List (List ax_Rw) := [
  [(0, .aload_n 0, 0, 0, 0, 0, 0, []),
   (1, .getfield 10, 10, 0, 0, 0, 0, []),
   (4, .iload_n 1, 1, 0, 0, 0, 0, []),
   (5, .invokevirtual 109, 41, 1, 6, 0, 0, [(0, 2), (0, 1)]),
   (8, .ifCond .ne 5, 13, 0, 0, 0, 0, []),
   (11, .iconst (-1), 0, 0, 0, (-1), 0, []),
   (12, .ireturn, 0, 0, 0, 0, 0, []),
   (13, .iload_n 2, 2, 0, 0, 0, 0, []),
   (14, .iconst 0, 0, 0, 0, 0, 0, []),
   (15, .bipush 9, 0, 0, 0, 9, 0, []),
   (17, .invokestatic 86, 102, 3, 10, 0, 0, [(0, 3), (0, 1)]),
   (20, .ifCond .eq 13, 33, 0, 0, 0, 0, []),
   (23, .iload_n 3, 3, 0, 0, 0, 0, []),
   (24, .iconst 1, 0, 0, 0, 1, 0, []),
   (25, .ldc 229, 0, 0, 0, 99999, 0, []),
   (27, .invokestatic 86, 102, 3, 10, 0, 0, [(0, 3), (0, 1)]),
   (30, .ifCond .ne 6, 36, 0, 0, 0, 0, [])],
  [(33, .bipush (-2), 0, 0, 0, (-2), 0, []),
   (35, .ireturn, 0, 0, 0, 0, 0, []),
   (36, .aload_n 0, 0, 0, 0, 0, 0, []),
   (37, .getfield 66, 10, 8, 0, 0, 0, []),
   (40, .getfield 230, 4, 4, 0, 0, 0, []),
   (43, .bipush 30, 0, 0, 0, 30, 0, []),
   (45, .if_icmp .ne 6, 51, 0, 0, 0, 0, []),
   (48, .bipush (-4), 0, 0, 0, (-4), 0, []),
   (50, .ireturn, 0, 0, 0, 0, 0, []),
   (51, .aload_n 0, 0, 0, 0, 0, 0, []),
   (52, .getfield 66, 10, 8, 0, 0, 0, []),
   (55, .iload_n 1, 1, 0, 0, 0, 0, []),
   (56, .iload_n 2, 2, 0, 0, 0, 0, []),
   (57, .iload_n 3, 3, 0, 0, 0, 0, []),
   (58, .invokevirtual 231, 29, 3, 4, 0, 0, [(0, 4), (0, 1)]),
   (61, .ireturn, 0, 0, 0, 0, 0, [])]]
def tb_X10_owes : List (List ax_Rw) := [
  [(0, .aload_n 0, 0, 0, 0, 0, 0, []),
   (1, .getfield 10, 10, 0, 0, 0, 0, []),
   (4, .iload_n 1, 1, 0, 0, 0, 0, []),
   (5, .invokevirtual 109, 41, 1, 6, 0, 0, [(0, 2), (0, 1)]),
   (8, .ifCond .ne 5, 13, 0, 0, 0, 0, []),
   (11, .iconst (-1), 0, 0, 0, (-1), 0, []),
   (12, .ireturn, 0, 0, 0, 0, 0, []),
   (13, .aload_n 0, 0, 0, 0, 0, 0, []),
   (14, .getfield 66, 10, 8, 0, 0, 0, []),
   (17, .iload_n 1, 1, 0, 0, 0, 0, []),
   (18, .invokevirtual 233, 30, 1, 4, 0, 0, [(0, 4), (0, 1)]),
   (21, .ireturn, 0, 0, 0, 0, 0, [])]]
def tb_X10_fails : List (List ax_Rw) := [
  [(0, .iload_n 1, 1, 0, 0, 0, 0, []),
   (1, .iload_n 2, 2, 0, 0, 0, 0, []),
   (2, .invokestatic 220, 105, 2, 10, 0, 0, [(0, 2), (0, 1)]),
   (5, .ifCond .ne 6, 11, 0, 0, 0, 0, []),
   (8, .bipush (-2), 0, 0, 0, (-2), 0, []),
   (10, .ireturn, 0, 0, 0, 0, 0, []),
   (11, .iconst 0, 0, 0, 0, 0, 0, []),
   (12, .istore_n 3, 3, 0, 0, 0, 0, []),
   (13, .iconst 0, 0, 0, 0, 0, 0, []),
   (14, .istore 4, 4, 0, 0, 0, 0, []),
   (16, .iload 4, 4, 0, 0, 0, 0, []),
   (18, .aload_n 0, 0, 0, 0, 0, 0, []),
   (19, .getfield 10, 10, 0, 0, 0, 0, []),
   (22, .getfield 94, 6, 4, 0, 0, 0, []),
   (25, .if_icmp .ge 27, 52, 0, 0, 0, 0, []),
   (28, .aload_n 0, 0, 0, 0, 0, 0, []),
   (29, .iload 4, 4, 0, 0, 0, 0, []),
   (31, .iload_n 1, 1, 0, 0, 0, 0, [])],
  [(32, .iload_n 2, 2, 0, 0, 0, 0, []),
   (33, .invokevirtual 236, 107, 3, 10, 0, 0, [(0, 4), (0, 1)]),
   (36, .ifCond .eq 10, 46, 0, 0, 0, 0, []),
   (39, .iload_n 3, 3, 0, 0, 0, 0, []),
   (40, .iconst 1, 0, 0, 0, 1, 0, []),
   (41, .iload 4, 4, 0, 0, 0, 0, []),
   (43, .ishl, 0, 0, 0, 0, 0, []),
   (44, .ior, 0, 0, 0, 0, 0, []),
   (45, .istore_n 3, 3, 0, 0, 0, 0, []),
   (46, .iinc 4 1, 4, 0, 0, 1, 0, []),
   (49, .goto (-33), 16, 0, 0, 0, 0, []),
   (52, .iload_n 3, 3, 0, 0, 0, 0, []),
   (53, .ireturn, 0, 0, 0, 0, 0, [])]]
def tb_X10_part : List (List ax_Rw) := [
  [(0, .aload_n 0, 0, 0, 0, 0, 0, []),
   (1, .getfield 66, 10, 8, 0, 0, 0, []),
   (4, .iload_n 1, 1, 0, 0, 0, 0, []),
   (5, .invokevirtual 239, 28, 1, 4, 0, 0, [(0, 2), (0, 1)]),
   (8, .ifCond .ne 5, 13, 0, 0, 0, 0, []),
   (11, .iconst (-1), 0, 0, 0, (-1), 0, []),
   (12, .ireturn, 0, 0, 0, 0, 0, []),
   (13, .iload_n 2, 2, 0, 0, 0, 0, []),
   (14, .invokestatic 240, 106, 1, 10, 0, 0, [(0, 1), (0, 1)]),
   (17, .ifCond .ne 6, 23, 0, 0, 0, 0, []),
   (20, .bipush (-2), 0, 0, 0, (-2), 0, []),
   (22, .ireturn, 0, 0, 0, 0, 0, []),
   (23, .aload_n 0, 0, 0, 0, 0, 0, []),
   (24, .getfield 66, 10, 8, 0, 0, 0, []),
   (27, .aload_n 0, 0, 0, 0, 0, 0, []),
   (28, .getfield 66, 10, 8, 0, 0, 0, []),
   (31, .getfield 243, 4, 0, 0, 0, 0, [])],
  [(34, .iload_n 1, 1, 0, 0, 0, 0, []),
   (35, .iaload, 0, 0, 0, 0, 0, []),
   (36, .iload_n 2, 2, 0, 0, 0, 0, []),
   (37, .invokevirtual 246, 31, 2, 4, 0, 0, [(0, 6), (0, 0)]),
   (40, .aload_n 0, 0, 0, 0, 0, 0, []),
   (41, .getfield 66, 10, 8, 0, 0, 0, []),
   (44, .getfield 250, 4, 3, 0, 0, 0, []),
   (47, .iload_n 1, 1, 0, 0, 0, 0, []),
   (48, .iaload, 0, 0, 0, 0, 0, []),
   (49, .ireturn, 0, 0, 0, 0, 0, [])]]
def tb_X10_over : List (List ax_Rw) := [
  [(0, .aload_n 0, 0, 0, 0, 0, 0, []),
   (1, .getfield 10, 10, 0, 0, 0, 0, []),
   (4, .iload_n 1, 1, 0, 0, 0, 0, []),
   (5, .invokevirtual 109, 41, 1, 6, 0, 0, [(0, 2), (0, 1)]),
   (8, .ifCond .ne 5, 13, 0, 0, 0, 0, []),
   (11, .iconst (-1), 0, 0, 0, (-1), 0, []),
   (12, .ireturn, 0, 0, 0, 0, 0, []),
   (13, .iload_n 2, 2, 0, 0, 0, 0, []),
   (14, .invokestatic 240, 106, 1, 10, 0, 0, [(0, 1), (0, 1)]),
   (17, .ifCond .ne 6, 23, 0, 0, 0, 0, []),
   (20, .bipush (-2), 0, 0, 0, (-2), 0, []),
   (22, .ireturn, 0, 0, 0, 0, 0, []),
   (23, .iconst 0, 0, 0, 0, 0, 0, []),
   (24, .iload_n 2, 2, 0, 0, 0, 0, []),
   (25, .aload_n 0, 0, 0, 0, 0, 0, []),
   (26, .getfield 66, 10, 8, 0, 0, 0, []),
   (29, .iload_n 1, 1, 0, 0, 0, 0, []),
   (30, .invokevirtual 233, 30, 1, 4, 0, 0, [(0, 4), (0, 1)])],
  [(33, .isub, 0, 0, 0, 0, 0, []),
   (34, .invokestatic 253, 175, 2, 14, 0, 0, [(0, 2), (0, 1)]),
   (37, .ireturn, 0, 0, 0, 0, 0, [])]]
def tb_X10_rescue : List (List ax_Rw) := [
  [(0, .aload_n 0, 0, 0, 0, 0, 0, []),
   (1, .getfield 10, 10, 0, 0, 0, 0, []),
   (4, .iload_n 1, 1, 0, 0, 0, 0, []),
   (5, .invokevirtual 109, 41, 1, 6, 0, 0, [(0, 2), (0, 1)]),
   (8, .ifCond .ne 5, 13, 0, 0, 0, 0, []),
   (11, .iconst (-1), 0, 0, 0, (-1), 0, []),
   (12, .ireturn, 0, 0, 0, 0, 0, []),
   (13, .iload_n 2, 2, 0, 0, 0, 0, []),
   (14, .iconst 0, 0, 0, 0, 0, 0, []),
   (15, .bipush 100, 0, 0, 0, 100, 0, []),
   (17, .invokestatic 86, 102, 3, 10, 0, 0, [(0, 3), (0, 1)]),
   (20, .ifCond .eq 12, 32, 0, 0, 0, 0, []),
   (23, .iload_n 3, 3, 0, 0, 0, 0, []),
   (24, .iload 4, 4, 0, 0, 0, 0, []),
   (26, .invokestatic 220, 105, 2, 10, 0, 0, [(0, 2), (0, 1)]),
   (29, .ifCond .ne 6, 35, 0, 0, 0, 0, [])],
  [(32, .bipush (-2), 0, 0, 0, (-2), 0, []),
   (34, .ireturn, 0, 0, 0, 0, 0, []),
   (35, .aload_n 0, 0, 0, 0, 0, 0, []),
   (36, .iload_n 1, 1, 0, 0, 0, 0, []),
   (37, .iload_n 3, 3, 0, 0, 0, 0, []),
   (38, .iload 4, 4, 0, 0, 0, 0, []),
   (40, .invokevirtual 236, 107, 3, 10, 0, 0, [(0, 4), (0, 1)]),
   (43, .ifCond .ne 6, 49, 0, 0, 0, 0, []),
   (46, .bipush (-3), 0, 0, 0, (-3), 0, []),
   (48, .ireturn, 0, 0, 0, 0, 0, []),
   (49, .aload_n 0, 0, 0, 0, 0, 0, []),
   (50, .getfield 66, 10, 8, 0, 0, 0, []),
   (53, .iload_n 1, 1, 0, 0, 0, 0, []),
   (54, .invokevirtual 233, 30, 1, 4, 0, 0, [(0, 4), (0, 1)]),
   (57, .istore 5, 5, 0, 0, 0, 0, []),
   (59, .aload_n 0, 0, 0, 0, 0, 0, []),
   (60, .getfield 66, 10, 8, 0, 0, 0, []),
   (63, .iload_n 1, 1, 0, 0, 0, 0, [])],
  [(64, .aload_n 0, 0, 0, 0, 0, 0, []),
   (65, .getfield 10, 10, 0, 0, 0, 0, []),
   (68, .iload_n 1, 1, 0, 0, 0, 0, []),
   (69, .iload_n 3, 3, 0, 0, 0, 0, []),
   (70, .iload 4, 4, 0, 0, 0, 0, []),
   (72, .invokevirtual 223, 47, 3, 6, 0, 0, [(0, 8), (0, 1)]),
   (75, .iload_n 2, 2, 0, 0, 0, 0, []),
   (76, .imul, 0, 0, 0, 0, 0, []),
   (77, .bipush 100, 0, 0, 0, 100, 0, []),
   (79, .idiv, 0, 0, 0, 0, 0, []),
   (80, .invokevirtual 246, 31, 2, 4, 0, 0, [(0, 6), (0, 0)]),
   (83, .aload_n 0, 0, 0, 0, 0, 0, []),
   (84, .getfield 66, 10, 8, 0, 0, 0, []),
   (87, .iload_n 1, 1, 0, 0, 0, 0, []),
   (88, .invokevirtual 258, 32, 1, 4, 0, 0, [(0, 3), (0, 0)]),
   (91, .iload 5, 5, 0, 0, 0, 0, []),
   (93, .aload_n 0, 0, 0, 0, 0, 0, []),
   (94, .getfield 66, 10, 8, 0, 0, 0, [])],
  [(97, .iload_n 1, 1, 0, 0, 0, 0, []),
   (98, .invokevirtual 233, 30, 1, 4, 0, 0, [(0, 4), (0, 1)]),
   (101, .isub, 0, 0, 0, 0, 0, []),
   (102, .ireturn, 0, 0, 0, 0, 0, [])]]
def tb_X10_swap : List (List ax_Rw) := [
  [(0, .iload_n 1, 1, 0, 0, 0, 0, []),
   (1, .iconst 1, 0, 0, 0, 1, 0, []),
   (2, .sipush 255, 0, 0, 0, 255, 0, []),
   (5, .invokestatic 86, 102, 3, 10, 0, 0, [(0, 3), (0, 1)]),
   (8, .ifCond .ne 6, 14, 0, 0, 0, 0, []),
   (11, .bipush (-2), 0, 0, 0, (-2), 0, []),
   (13, .ireturn, 0, 0, 0, 0, 0, []),
   (14, .aload_n 0, 0, 0, 0, 0, 0, []),
   (15, .getfield 75, 10, 9, 0, 0, 0, []),
   (18, .getfield 261, 2, 2, 0, 0, 0, []),
   (21, .bipush 6, 0, 0, 0, 6, 0, []),
   (23, .if_icmp .ne 6, 29, 0, 0, 0, 0, []),
   (26, .bipush (-4), 0, 0, 0, (-4), 0, []),
   (28, .ireturn, 0, 0, 0, 0, 0, []),
   (29, .aload_n 0, 0, 0, 0, 0, 0, []),
   (30, .getfield 75, 10, 9, 0, 0, 0, [])],
  [(33, .iload_n 1, 1, 0, 0, 0, 0, []),
   (34, .invokevirtual 262, 14, 1, 2, 0, 0, [(0, 2), (0, 1)]),
   (37, .ireturn, 0, 0, 0, 0, 0, [])]]
def tb_X10_unswap : List (List ax_Rw) := [
  [(0, .aload_n 0, 0, 0, 0, 0, 0, []),
   (1, .getfield 75, 10, 9, 0, 0, 0, []),
   (4, .invokevirtual 264, 15, 0, 2, 0, 0, [(0, 2), (0, 1)]),
   (7, .ireturn, 0, 0, 0, 0, 0, [])]]
def tb_X10_spread : List (List ax_Rw) := [
  [(0, .iload_n 1, 1, 0, 0, 0, 0, []),
   (1, .iconst 0, 0, 0, 0, 0, 0, []),
   (2, .aload_n 0, 0, 0, 0, 0, 0, []),
   (3, .getfield 75, 10, 9, 0, 0, 0, []),
   (6, .getfield 261, 2, 2, 0, 0, 0, []),
   (9, .iconst 1, 0, 0, 0, 1, 0, []),
   (10, .iadd, 0, 0, 0, 0, 0, []),
   (11, .invokestatic 86, 102, 3, 10, 0, 0, [(0, 3), (0, 1)]),
   (14, .ifCond .ne 5, 19, 0, 0, 0, 0, []),
   (17, .iconst (-1), 0, 0, 0, (-1), 0, []),
   (18, .ireturn, 0, 0, 0, 0, 0, []),
   (19, .aload_n 0, 0, 0, 0, 0, 0, []),
   (20, .getfield 75, 10, 9, 0, 0, 0, []),
   (23, .invokevirtual 267, 16, 0, 2, 0, 0, [(0, 1), (0, 0)]),
   (26, .iload_n 1, 1, 0, 0, 0, 0, []),
   (27, .lookupswitch 41 #[(0, 25), (1, 33)], 68, 0, 0, 0, 0, [(0, 52), (1, 60)])],
  [(52, .aload_n 0, 0, 0, 0, 0, 0, []),
   (53, .getfield 75, 10, 9, 0, 0, 0, []),
   (56, .getfield 270, 2, 5, 0, 0, 0, []),
   (59, .ireturn, 0, 0, 0, 0, 0, []),
   (60, .aload_n 0, 0, 0, 0, 0, 0, []),
   (61, .getfield 75, 10, 9, 0, 0, 0, [])],
  [(64, .invokevirtual 273, 17, 0, 2, 0, 0, [(0, 1), (0, 1)]),
   (67, .ireturn, 0, 0, 0, 0, 0, []),
   (68, .aload_n 0, 0, 0, 0, 0, 0, []),
   (69, .getfield 75, 10, 9, 0, 0, 0, []),
   (72, .iload_n 1, 1, 0, 0, 0, 0, []),
   (73, .iconst 2, 0, 0, 0, 2, 0, []),
   (74, .isub, 0, 0, 0, 0, 0, []),
   (75, .invokevirtual 276, 18, 1, 2, 0, 0, [(0, 2), (0, 1)]),
   (78, .ireturn, 0, 0, 0, 0, 0, [])]]
def tb_X10_join : List (List ax_Rw) := [
  [(0, .aload_n 0, 0, 0, 0, 0, 0, []),
   (1, .getfield 10, 10, 0, 0, 0, 0, []),
   (4, .iload_n 1, 1, 0, 0, 0, 0, []),
   (5, .invokevirtual 109, 41, 1, 6, 0, 0, [(0, 2), (0, 1)]),
   (8, .ifCond .ne 5, 13, 0, 0, 0, 0, []),
   (11, .iconst (-1), 0, 0, 0, (-1), 0, []),
   (12, .ireturn, 0, 0, 0, 0, 0, []),
   (13, .aload_n 0, 0, 0, 0, 0, 0, []),
   (14, .getfield 82, 10, 10, 0, 0, 0, []),
   (17, .iload_n 1, 1, 0, 0, 0, 0, []),
   (18, .invokevirtual 279, 25, 1, 3, 0, 0, [(0, 3), (0, 1)]),
   (21, .iconst (-1), 0, 0, 0, (-1), 0, []),
   (22, .if_icmp .eq 6, 28, 0, 0, 0, 0, []),
   (25, .bipush (-3), 0, 0, 0, (-3), 0, []),
   (27, .ireturn, 0, 0, 0, 0, 0, []),
   (28, .aload_n 0, 0, 0, 0, 0, 0, []),
   (29, .getfield 82, 10, 10, 0, 0, 0, [])],
  [(32, .iload_n 1, 1, 0, 0, 0, 0, []),
   (33, .invokevirtual 282, 26, 1, 3, 0, 0, [(0, 2), (0, 1)]),
   (36, .ireturn, 0, 0, 0, 0, 0, [])]]
def tb_X10_call : List (List ax_Rw) := [
  [(0, .iload_n 1, 1, 0, 0, 0, 0, []),
   (1, .iconst 0, 0, 0, 0, 0, 0, []),
   (2, .iconst 1, 0, 0, 0, 1, 0, []),
   (3, .invokestatic 86, 102, 3, 10, 0, 0, [(0, 3), (0, 1)]),
   (6, .ifCond .ne 6, 12, 0, 0, 0, 0, []),
   (9, .bipush (-2), 0, 0, 0, (-2), 0, []),
   (11, .ireturn, 0, 0, 0, 0, 0, []),
   (12, .iconst 0, 0, 0, 0, 0, 0, []),
   (13, .istore_n 2, 2, 0, 0, 0, 0, []),
   (14, .iload_n 2, 2, 0, 0, 0, 0, []),
   (15, .aload_n 0, 0, 0, 0, 0, 0, []),
   (16, .getfield 82, 10, 10, 0, 0, 0, []),
   (19, .getfield 284, 3, 1, 0, 0, 0, []),
   (22, .if_icmp .ge 46, 68, 0, 0, 0, 0, []),
   (25, .aload_n 0, 0, 0, 0, 0, 0, []),
   (26, .getfield 82, 10, 10, 0, 0, 0, []),
   (29, .getfield 285, 3, 0, 0, 0, 0, [])],
  [(32, .iload_n 2, 2, 0, 0, 0, 0, []),
   (33, .iaload, 0, 0, 0, 0, 0, []),
   (34, .istore_n 3, 3, 0, 0, 0, 0, []),
   (35, .iload_n 1, 1, 0, 0, 0, 0, []),
   (36, .ifCond .eq 16, 52, 0, 0, 0, 0, []),
   (39, .aload_n 0, 0, 0, 0, 0, 0, []),
   (40, .getfield 10, 10, 0, 0, 0, 0, []),
   (43, .getfield 120, 6, 0, 0, 0, 0, []),
   (46, .iload_n 3, 3, 0, 0, 0, 0, []),
   (47, .iaload, 0, 0, 0, 0, 0, []),
   (48, .iconst 2, 0, 0, 0, 2, 0, []),
   (49, .if_icmp .ne 13, 62, 0, 0, 0, 0, []),
   (52, .aload_n 0, 0, 0, 0, 0, 0, []),
   (53, .getfield 82, 10, 10, 0, 0, 0, []),
   (56, .iload_n 2, 2, 0, 0, 0, 0, []),
   (57, .invokevirtual 288, 27, 1, 3, 0, 0, [(0, 3), (0, 0)]),
   (60, .iload_n 3, 3, 0, 0, 0, 0, []),
   (61, .ireturn, 0, 0, 0, 0, 0, []),
   (62, .iinc 2 1, 2, 0, 0, 1, 0, [])],
  [(65, .goto (-51), 14, 0, 0, 0, 0, []),
   (68, .iconst (-1), 0, 0, 0, (-1), 0, []),
   (69, .ireturn, 0, 0, 0, 0, 0, [])]]
def tb_X10_leave : List (List ax_Rw) := [
  [(0, .aload_n 0, 0, 0, 0, 0, 0, []),
   (1, .getfield 10, 10, 0, 0, 0, 0, []),
   (4, .iload_n 1, 1, 0, 0, 0, 0, []),
   (5, .invokevirtual 109, 41, 1, 6, 0, 0, [(0, 2), (0, 1)]),
   (8, .ifCond .ne 5, 13, 0, 0, 0, 0, []),
   (11, .iconst (-1), 0, 0, 0, (-1), 0, []),
   (12, .ireturn, 0, 0, 0, 0, 0, []),
   (13, .aload_n 0, 0, 0, 0, 0, 0, []),
   (14, .getfield 82, 10, 10, 0, 0, 0, []),
   (17, .iload_n 1, 1, 0, 0, 0, 0, []),
   (18, .invokevirtual 279, 25, 1, 3, 0, 0, [(0, 3), (0, 1)]),
   (21, .istore_n 2, 2, 0, 0, 0, 0, []),
   (22, .iload_n 2, 2, 0, 0, 0, 0, []),
   (23, .iconst (-1), 0, 0, 0, (-1), 0, []),
   (24, .if_icmp .ne 6, 30, 0, 0, 0, 0, []),
   (27, .bipush (-3), 0, 0, 0, (-3), 0, []),
   (29, .ireturn, 0, 0, 0, 0, 0, []),
   (30, .aload_n 0, 0, 0, 0, 0, 0, []),
   (31, .getfield 82, 10, 10, 0, 0, 0, [])],
  [(34, .iload_n 2, 2, 0, 0, 0, 0, []),
   (35, .invokevirtual 288, 27, 1, 3, 0, 0, [(0, 3), (0, 0)]),
   (38, .iload_n 2, 2, 0, 0, 0, 0, []),
   (39, .ireturn, 0, 0, 0, 0, 0, [])]]
def tb_X10_count : List (List ax_Rw) := [
  [(0, .iload_n 1, 1, 0, 0, 0, 0, []),
   (1, .tableswitch 147 0 10 #[59, 67, 75, 83, 91, 99, 107, 115, 123, 131, 139], 148, 0, 0, 0, 0, [(0, 60), (1, 68), (2, 76), (3, 84), (4, 92), (5, 100), (6, 108), (7, 116), (8, 124), (9, 132), (10, 140)])],
  [(60, .aload_n 0, 0, 0, 0, 0, 0, []),
   (61, .getfield 10, 10, 0, 0, 0, 0, [])],
  [(64, .getfield 94, 6, 4, 0, 0, 0, []),
   (67, .ireturn, 0, 0, 0, 0, 0, []),
   (68, .aload_n 0, 0, 0, 0, 0, 0, []),
   (69, .getfield 19, 10, 1, 0, 0, 0, []),
   (72, .getfield 102, 8, 2, 0, 0, 0, []),
   (75, .ireturn, 0, 0, 0, 0, 0, []),
   (76, .aload_n 0, 0, 0, 0, 0, 0, []),
   (77, .getfield 56, 10, 6, 0, 0, 0, []),
   (80, .getfield 187, 1, 13, 0, 0, 0, []),
   (83, .ireturn, 0, 0, 0, 0, 0, []),
   (84, .aload_n 0, 0, 0, 0, 0, 0, []),
   (85, .getfield 56, 10, 6, 0, 0, 0, []),
   (88, .getfield 190, 1, 14, 0, 0, 0, []),
   (91, .ireturn, 0, 0, 0, 0, 0, []),
   (92, .aload_n 0, 0, 0, 0, 0, 0, []),
   (93, .getfield 56, 10, 6, 0, 0, 0, [])],
  [(96, .getfield 203, 1, 15, 0, 0, 0, []),
   (99, .ireturn, 0, 0, 0, 0, 0, []),
   (100, .aload_n 0, 0, 0, 0, 0, 0, []),
   (101, .getfield 56, 10, 6, 0, 0, 0, []),
   (104, .getfield 206, 1, 16, 0, 0, 0, []),
   (107, .ireturn, 0, 0, 0, 0, 0, []),
   (108, .aload_n 0, 0, 0, 0, 0, 0, []),
   (109, .getfield 66, 10, 8, 0, 0, 0, []),
   (112, .getfield 230, 4, 4, 0, 0, 0, []),
   (115, .ireturn, 0, 0, 0, 0, 0, []),
   (116, .aload_n 0, 0, 0, 0, 0, 0, []),
   (117, .getfield 82, 10, 10, 0, 0, 0, []),
   (120, .getfield 284, 3, 1, 0, 0, 0, []),
   (123, .ireturn, 0, 0, 0, 0, 0, []),
   (124, .aload_n 0, 0, 0, 0, 0, 0, []),
   (125, .getfield 75, 10, 9, 0, 0, 0, [])],
  [(128, .getfield 261, 2, 2, 0, 0, 0, []),
   (131, .ireturn, 0, 0, 0, 0, 0, []),
   (132, .aload_n 0, 0, 0, 0, 0, 0, []),
   (133, .getfield 26, 10, 2, 0, 0, 0, []),
   (136, .getfield 154, 9, 2, 0, 0, 0, []),
   (139, .ireturn, 0, 0, 0, 0, 0, []),
   (140, .aload_n 0, 0, 0, 0, 0, 0, []),
   (141, .getfield 47, 10, 5, 0, 0, 0, []),
   (144, .getfield 291, 7, 1, 0, 0, 0, []),
   (147, .ireturn, 0, 0, 0, 0, 0, []),
   (148, .iconst (-1), 0, 0, 0, (-1), 0, []),
   (149, .ireturn, 0, 0, 0, 0, 0, [])]]
def tb_X10_within : List (List ax_Rw) := [
  [(0, .iload_n 0, 0, 0, 0, 0, 0, []),
   (1, .iload_n 1, 1, 0, 0, 0, 0, []),
   (2, .if_icmp .lt 12, 14, 0, 0, 0, 0, []),
   (5, .iload_n 0, 0, 0, 0, 0, 0, []),
   (6, .iload_n 2, 2, 0, 0, 0, 0, []),
   (7, .if_icmp .gt 7, 14, 0, 0, 0, 0, []),
   (10, .iconst 1, 0, 0, 0, 1, 0, []),
   (11, .goto 4, 15, 0, 0, 0, 0, []),
   (14, .iconst 0, 0, 0, 0, 0, 0, []),
   (15, .ireturn, 0, 1, 0, 0, 0, [])]]
def tb_X10_isWard : List (List ax_Rw) := [
  [(0, .iload_n 0, 0, 0, 0, 0, 0, []),
   (1, .iconst 0, 0, 0, 0, 0, 0, []),
   (2, .iconst 4, 0, 0, 0, 4, 0, []),
   (3, .invokestatic 86, 102, 3, 10, 0, 0, [(0, 3), (0, 1)]),
   (6, .ireturn, 0, 1, 0, 0, 0, [])]]
def tb_X10_isRent : List (List ax_Rw) := [
  [(0, .iload_n 0, 0, 0, 0, 0, 0, []),
   (1, .iconst 0, 0, 0, 0, 0, 0, []),
   (2, .sipush 9999, 0, 0, 0, 9999, 0, []),
   (5, .invokestatic 86, 102, 3, 10, 0, 0, [(0, 3), (0, 1)]),
   (8, .ifCond .eq 18, 26, 0, 0, 0, 0, []),
   (11, .iload_n 1, 1, 0, 0, 0, 0, []),
   (12, .iconst 0, 0, 0, 0, 0, 0, []),
   (13, .sipush 9999, 0, 0, 0, 9999, 0, []),
   (16, .invokestatic 86, 102, 3, 10, 0, 0, [(0, 3), (0, 1)]),
   (19, .ifCond .eq 7, 26, 0, 0, 0, 0, []),
   (22, .iconst 1, 0, 0, 0, 1, 0, []),
   (23, .goto 4, 27, 0, 0, 0, 0, []),
   (26, .iconst 0, 0, 0, 0, 0, 0, []),
   (27, .ireturn, 0, 1, 0, 0, 0, [])]]
def tb_X10_isTerm : List (List ax_Rw) := [
  [(0, .iload_n 0, 0, 0, 0, 0, 0, []),
   (1, .iconst 1, 0, 0, 0, 1, 0, []),
   (2, .bipush 40, 0, 0, 0, 40, 0, []),
   (4, .invokestatic 86, 102, 3, 10, 0, 0, [(0, 3), (0, 1)]),
   (7, .ifCond .eq 18, 25, 0, 0, 0, 0, []),
   (10, .iload_n 1, 1, 0, 0, 0, 0, []),
   (11, .iconst 0, 0, 0, 0, 0, 0, []),
   (12, .sipush 500, 0, 0, 0, 500, 0, []),
   (15, .invokestatic 86, 102, 3, 10, 0, 0, [(0, 3), (0, 1)]),
   (18, .ifCond .eq 7, 25, 0, 0, 0, 0, []),
   (21, .iconst 1, 0, 0, 0, 1, 0, []),
   (22, .goto 4, 26, 0, 0, 0, 0, []),
   (25, .iconst 0, 0, 0, 0, 0, 0, []),
   (26, .ireturn, 0, 1, 0, 0, 0, [])]]
def tb_X10_isPartable : List (List ax_Rw) := [
  [(0, .iload_n 0, 0, 0, 0, 0, 0, []),
   (1, .iconst 0, 0, 0, 0, 0, 0, []),
   (2, .ldc_w 292, 0, 0, 0, 999999, 0, []),
   (5, .invokestatic 86, 102, 3, 10, 0, 0, [(0, 3), (0, 1)]),
   (8, .ireturn, 0, 1, 0, 0, 0, [])]]
def tb_X10_isFailing : List (List ax_Rw) := [
  [(0, .aload_n 0, 0, 0, 0, 0, 0, []),
   (1, .getfield 66, 10, 8, 0, 0, 0, []),
   (4, .iload_n 1, 1, 0, 0, 0, 0, []),
   (5, .invokevirtual 233, 30, 1, 4, 0, 0, [(0, 4), (0, 1)]),
   (8, .aload_n 0, 0, 0, 0, 0, 0, []),
   (9, .getfield 10, 10, 0, 0, 0, 0, []),
   (12, .iload_n 1, 1, 0, 0, 0, 0, []),
   (13, .iload_n 2, 2, 0, 0, 0, 0, []),
   (14, .iload_n 3, 3, 0, 0, 0, 0, []),
   (15, .invokevirtual 223, 47, 3, 6, 0, 0, [(0, 8), (0, 1)]),
   (18, .if_icmp .le 7, 25, 0, 0, 0, 0, []),
   (21, .iconst 1, 0, 0, 0, 1, 0, []),
   (22, .goto 4, 26, 0, 0, 0, 0, []),
   (25, .iconst 0, 0, 0, 0, 0, 0, []),
   (26, .ireturn, 0, 1, 0, 0, 0, [])]]
def tb_X11_isIn : List (List ax_Rw) := [
  [(0, .lload_n 0, 0, 0, 0, 0, 0, []),
   (1, .lload_n 2, 2, 0, 0, 0, 0, []),
   (2, .lcmp, 0, 0, 0, 0, 0, []),
   (3, .ifCond .lt 14, 17, 0, 0, 0, 0, []),
   (6, .lload_n 0, 0, 0, 0, 0, 0, []),
   (7, .lload 4, 4, 0, 0, 0, 0, []),
   (9, .lcmp, 0, 0, 0, 0, 0, []),
   (10, .ifCond .gt 7, 17, 0, 0, 0, 0, []),
   (13, .iconst 1, 0, 0, 0, 1, 0, []),
   (14, .goto 4, 18, 0, 0, 0, 0, []),
   (17, .iconst 0, 0, 0, 0, 0, 0, []),
   (18, .ireturn, 0, 1, 0, 0, 0, [])]]
def tb_X11_isPlate : List (List ax_Rw) := [
  [(0, .iload_n 1, 1, 0, 0, 0, 0, []),
   (1, .ifCond .lt 15, 16, 0, 0, 0, 0, []),
   (4, .iload_n 1, 1, 0, 0, 0, 0, []),
   (5, .aload_n 0, 0, 0, 0, 0, 0, []),
   (6, .getfield 116, 11, 7, 0, 0, 0, []),
   (9, .if_icmp .ge 7, 16, 0, 0, 0, 0, []),
   (12, .iconst 1, 0, 0, 0, 1, 0, []),
   (13, .goto 4, 17, 0, 0, 0, 0, []),
   (16, .iconst 0, 0, 0, 0, 0, 0, []),
   (17, .ireturn, 0, 1, 0, 0, 0, [])]]
def tb_X11_isDriver : List (List ax_Rw) := [
  [(0, .iload_n 1, 1, 0, 0, 0, 0, []),
   (1, .ifCond .lt 15, 16, 0, 0, 0, 0, []),
   (4, .iload_n 1, 1, 0, 0, 0, 0, []),
   (5, .aload_n 0, 0, 0, 0, 0, 0, []),
   (6, .getfield 120, 11, 8, 0, 0, 0, []),
   (9, .if_icmp .ge 7, 16, 0, 0, 0, 0, []),
   (12, .iconst 1, 0, 0, 0, 1, 0, []),
   (13, .goto 4, 17, 0, 0, 0, 0, []),
   (16, .iconst 0, 0, 0, 0, 0, 0, []),
   (17, .ireturn, 0, 1, 0, 0, 0, [])]]
def tb_X11_isWard : List (List ax_Rw) := [
  [(0, .iload_n 0, 0, 0, 0, 0, 0, []),
   (1, .ifCond .lt 12, 13, 0, 0, 0, 0, []),
   (4, .iload_n 0, 0, 0, 0, 0, 0, []),
   (5, .iconst 5, 0, 0, 0, 5, 0, []),
   (6, .if_icmp .ge 7, 13, 0, 0, 0, 0, []),
   (9, .iconst 1, 0, 0, 0, 1, 0, []),
   (10, .goto 4, 14, 0, 0, 0, 0, []),
   (13, .iconst 0, 0, 0, 0, 0, 0, []),
   (14, .ireturn, 0, 1, 0, 0, 0, [])]]
def tb_X11_plate : List (List ax_Rw) := [
  [(0, .iload_n 1, 1, 0, 0, 0, 0, []),
   (1, .i2l, 0, 0, 0, 0, 0, []),
   (2, .lconst 0, 0, 0, 0, 0, 0, []),
   (3, .ldc2_w 123, 0, 0, 0, 0, 3, []),
   (6, .invokestatic 125, 108, 3, 11, 0, 0, [(0, 6), (0, 1)]),
   (9, .ifCond .eq 40, 49, 0, 0, 0, 0, []),
   (12, .iload_n 2, 2, 0, 0, 0, 0, []),
   (13, .i2l, 0, 0, 0, 0, 0, []),
   (14, .lconst 0, 0, 0, 0, 0, 0, []),
   (15, .ldc2_w 129, 0, 0, 0, 0, 5, []),
   (18, .invokestatic 125, 108, 3, 11, 0, 0, [(0, 6), (0, 1)]),
   (21, .ifCond .eq 28, 49, 0, 0, 0, 0, []),
   (24, .iload_n 3, 3, 0, 0, 0, 0, []),
   (25, .i2l, 0, 0, 0, 0, 0, []),
   (26, .lconst 0, 0, 0, 0, 0, 0, []),
   (27, .ldc2_w 131, 0, 0, 0, 0, 9999, []),
   (30, .invokestatic 125, 108, 3, 11, 0, 0, [(0, 6), (0, 1)])],
  [(33, .ifCond .eq 16, 49, 0, 0, 0, 0, []),
   (36, .iload 4, 4, 0, 0, 0, 0, []),
   (38, .i2l, 0, 0, 0, 0, 0, []),
   (39, .lconst 0, 0, 0, 0, 0, 0, []),
   (40, .ldc2_w 131, 0, 0, 0, 0, 9999, []),
   (43, .invokestatic 125, 108, 3, 11, 0, 0, [(0, 6), (0, 1)]),
   (46, .ifCond .ne 6, 52, 0, 0, 0, 0, []),
   (49, .bipush (-2), 0, 0, 0, (-2), 0, []),
   (51, .ireturn, 0, 0, 0, 0, 0, []),
   (52, .aload_n 0, 0, 0, 0, 0, 0, []),
   (53, .getfield 116, 11, 7, 0, 0, 0, []),
   (56, .bipush 12, 0, 0, 0, 12, 0, []),
   (58, .if_icmp .ne 6, 64, 0, 0, 0, 0, []),
   (61, .bipush (-4), 0, 0, 0, (-4), 0, []),
   (63, .ireturn, 0, 0, 0, 0, 0, [])],
  [(64, .aload_n 0, 0, 0, 0, 0, 0, []),
   (65, .getfield 116, 11, 7, 0, 0, 0, []),
   (68, .istore 5, 5, 0, 0, 0, 0, []),
   (70, .aload_n 0, 0, 0, 0, 0, 0, []),
   (71, .getfield 7, 11, 0, 0, 0, 0, []),
   (74, .iload 5, 5, 0, 0, 0, 0, []),
   (76, .iload_n 1, 1, 0, 0, 0, 0, []),
   (77, .iastore, 0, 0, 0, 0, 0, []),
   (78, .aload_n 0, 0, 0, 0, 0, 0, []),
   (79, .getfield 13, 11, 1, 0, 0, 0, []),
   (82, .iload 5, 5, 0, 0, 0, 0, []),
   (84, .iload_n 2, 2, 0, 0, 0, 0, []),
   (85, .iastore, 0, 0, 0, 0, 0, []),
   (86, .aload_n 0, 0, 0, 0, 0, 0, []),
   (87, .getfield 16, 11, 2, 0, 0, 0, []),
   (90, .iload 5, 5, 0, 0, 0, 0, []),
   (92, .iload_n 3, 3, 0, 0, 0, 0, []),
   (93, .iastore, 0, 0, 0, 0, 0, []),
   (94, .aload_n 0, 0, 0, 0, 0, 0, []),
   (95, .getfield 19, 11, 3, 0, 0, 0, [])],
  [(98, .iload 5, 5, 0, 0, 0, 0, []),
   (100, .iload 4, 4, 0, 0, 0, 0, []),
   (102, .iastore, 0, 0, 0, 0, 0, []),
   (103, .aload_n 0, 0, 0, 0, 0, 0, []),
   (104, .getfield 25, 11, 5, 0, 0, 0, []),
   (107, .iload 5, 5, 0, 0, 0, 0, []),
   (109, .iconst (-1), 0, 0, 0, (-1), 0, []),
   (110, .iastore, 0, 0, 0, 0, 0, []),
   (111, .aload_n 0, 0, 0, 0, 0, 0, []),
   (112, .getfield 28, 11, 6, 0, 0, 0, []),
   (115, .iload 5, 5, 0, 0, 0, 0, []),
   (117, .iconst (-1), 0, 0, 0, (-1), 0, []),
   (118, .iastore, 0, 0, 0, 0, 0, []),
   (119, .aload_n 0, 0, 0, 0, 0, 0, []),
   (120, .getfield 31, 11, 9, 0, 0, 0, []),
   (123, .bipush 24, 0, 0, 0, 24, 0, []),
   (125, .iload 5, 5, 0, 0, 0, 0, []),
   (127, .iadd, 0, 0, 0, 0, 0, [])],
  [(128, .iconst (-1), 0, 0, 0, (-1), 0, []),
   (129, .iastore, 0, 0, 0, 0, 0, []),
   (130, .aload_n 0, 0, 0, 0, 0, 0, []),
   (131, .dup, 0, 0, 0, 0, 0, []),
   (132, .getfield 116, 11, 7, 0, 0, 0, []),
   (135, .iconst 1, 0, 0, 0, 1, 0, []),
   (136, .iadd, 0, 0, 0, 0, 0, []),
   (137, .putfield 116, 11, 7, 0, 0, 0, []),
   (140, .iload 5, 5, 0, 0, 0, 0, []),
   (142, .ireturn, 0, 0, 0, 0, 0, [])]]
def tb_X11_driver : List (List ax_Rw) := [
  [(0, .iload_n 1, 1, 0, 0, 0, 0, []),
   (1, .i2l, 0, 0, 0, 0, 0, []),
   (2, .lconst 0, 0, 0, 0, 0, 0, []),
   (3, .ldc2_w 133, 0, 0, 0, 0, 2, []),
   (6, .invokestatic 125, 108, 3, 11, 0, 0, [(0, 6), (0, 1)]),
   (9, .ifCond .ne 6, 15, 0, 0, 0, 0, []),
   (12, .bipush (-2), 0, 0, 0, (-2), 0, []),
   (14, .ireturn, 0, 0, 0, 0, 0, []),
   (15, .aload_n 0, 0, 0, 0, 0, 0, []),
   (16, .getfield 120, 11, 8, 0, 0, 0, []),
   (19, .bipush 16, 0, 0, 0, 16, 0, []),
   (21, .if_icmp .ne 6, 27, 0, 0, 0, 0, []),
   (24, .bipush (-4), 0, 0, 0, (-4), 0, []),
   (26, .ireturn, 0, 0, 0, 0, 0, []),
   (27, .aload_n 0, 0, 0, 0, 0, 0, []),
   (28, .getfield 22, 11, 4, 0, 0, 0, []),
   (31, .aload_n 0, 0, 0, 0, 0, 0, [])],
  [(32, .getfield 120, 11, 8, 0, 0, 0, []),
   (35, .iload_n 1, 1, 0, 0, 0, 0, []),
   (36, .iastore, 0, 0, 0, 0, 0, []),
   (37, .aload_n 0, 0, 0, 0, 0, 0, []),
   (38, .dup, 0, 0, 0, 0, 0, []),
   (39, .getfield 120, 11, 8, 0, 0, 0, []),
   (42, .iconst 1, 0, 0, 0, 1, 0, []),
   (43, .iadd, 0, 0, 0, 0, 0, []),
   (44, .putfield 120, 11, 8, 0, 0, 0, []),
   (47, .aload_n 0, 0, 0, 0, 0, 0, []),
   (48, .getfield 120, 11, 8, 0, 0, 0, []),
   (51, .iconst 1, 0, 0, 0, 1, 0, []),
   (52, .isub, 0, 0, 0, 0, 0, []),
   (53, .ireturn, 0, 0, 0, 0, 0, [])]]
def tb_X11_frees : List (List ax_Rw) := [
  [(0, .iconst 0, 0, 0, 0, 0, 0, []),
   (1, .istore_n 2, 2, 0, 0, 0, 0, []),
   (2, .iload_n 2, 2, 0, 0, 0, 0, []),
   (3, .aload_n 0, 0, 0, 0, 0, 0, []),
   (4, .getfield 116, 11, 7, 0, 0, 0, []),
   (7, .if_icmp .ge 43, 50, 0, 0, 0, 0, []),
   (10, .aload_n 0, 0, 0, 0, 0, 0, []),
   (11, .getfield 25, 11, 5, 0, 0, 0, []),
   (14, .iload_n 2, 2, 0, 0, 0, 0, []),
   (15, .iaload, 0, 0, 0, 0, 0, []),
   (16, .iload_n 1, 1, 0, 0, 0, 0, []),
   (17, .if_icmp .ne 10, 27, 0, 0, 0, 0, []),
   (20, .aload_n 0, 0, 0, 0, 0, 0, []),
   (21, .getfield 25, 11, 5, 0, 0, 0, []),
   (24, .iload_n 2, 2, 0, 0, 0, 0, []),
   (25, .iconst (-1), 0, 0, 0, (-1), 0, []),
   (26, .iastore, 0, 0, 0, 0, 0, []),
   (27, .aload_n 0, 0, 0, 0, 0, 0, []),
   (28, .getfield 28, 11, 6, 0, 0, 0, []),
   (31, .iload_n 2, 2, 0, 0, 0, 0, [])],
  [(32, .iaload, 0, 0, 0, 0, 0, []),
   (33, .iload_n 1, 1, 0, 0, 0, 0, []),
   (34, .if_icmp .ne 10, 44, 0, 0, 0, 0, []),
   (37, .aload_n 0, 0, 0, 0, 0, 0, []),
   (38, .getfield 28, 11, 6, 0, 0, 0, []),
   (41, .iload_n 2, 2, 0, 0, 0, 0, []),
   (42, .iconst (-1), 0, 0, 0, (-1), 0, []),
   (43, .iastore, 0, 0, 0, 0, 0, []),
   (44, .iinc 2 1, 2, 0, 0, 1, 0, []),
   (47, .goto (-45), 2, 0, 0, 0, 0, []),
   (50, .return_, 0, 0, 0, 0, 0, [])]]
def tb_X11_driverOf : List (List ax_Rw) := [
  [(0, .iload_n 2, 2, 0, 0, 0, 0, []),
   (1, .ifCond .ne 12, 13, 0, 0, 0, 0, []),
   (4, .aload_n 0, 0, 0, 0, 0, 0, []),
   (5, .getfield 25, 11, 5, 0, 0, 0, []),
   (8, .iload_n 1, 1, 0, 0, 0, 0, []),
   (9, .iaload, 0, 0, 0, 0, 0, []),
   (10, .goto 9, 19, 0, 0, 0, 0, []),
   (13, .aload_n 0, 0, 0, 0, 0, 0, []),
   (14, .getfield 28, 11, 6, 0, 0, 0, []),
   (17, .iload_n 1, 1, 0, 0, 0, 0, []),
   (18, .iaload, 0, 0, 0, 0, 0, []),
   (19, .ireturn, 0, 0, 0, 0, 0, [])]]
def tb_X11_gives : List (List ax_Rw) := [
  [(0, .iload_n 3, 3, 0, 0, 0, 0, []),
   (1, .ifCond .lt 8, 9, 0, 0, 0, 0, []),
   (4, .aload_n 0, 0, 0, 0, 0, 0, []),
   (5, .iload_n 3, 3, 0, 0, 0, 0, []),
   (6, .invokevirtual 135, 114, 1, 11, 0, 0, [(0, 3), (0, 0)]),
   (9, .iload_n 2, 2, 0, 0, 0, 0, []),
   (10, .ifCond .ne 13, 23, 0, 0, 0, 0, []),
   (13, .aload_n 0, 0, 0, 0, 0, 0, []),
   (14, .getfield 25, 11, 5, 0, 0, 0, []),
   (17, .iload_n 1, 1, 0, 0, 0, 0, []),
   (18, .iload_n 3, 3, 0, 0, 0, 0, []),
   (19, .iastore, 0, 0, 0, 0, 0, []),
   (20, .goto 10, 30, 0, 0, 0, 0, []),
   (23, .aload_n 0, 0, 0, 0, 0, 0, []),
   (24, .getfield 28, 11, 6, 0, 0, 0, []),
   (27, .iload_n 1, 1, 0, 0, 0, 0, []),
   (28, .iload_n 3, 3, 0, 0, 0, 0, []),
   (29, .iastore, 0, 0, 0, 0, 0, []),
   (30, .return_, 0, 0, 0, 0, 0, [])]]
def tb_X11_drive : List (List ax_Rw) := [
  [(0, .aload_n 0, 0, 0, 0, 0, 0, []),
   (1, .iload_n 1, 1, 0, 0, 0, 0, []),
   (2, .invokevirtual 139, 109, 1, 11, 0, 0, [(0, 2), (0, 1)]),
   (5, .ifCond .eq 26, 31, 0, 0, 0, 0, []),
   (8, .iload_n 2, 2, 0, 0, 0, 0, []),
   (9, .i2l, 0, 0, 0, 0, 0, []),
   (10, .lconst 0, 0, 0, 0, 0, 0, []),
   (11, .lconst 1, 0, 0, 0, 0, 1, []),
   (12, .invokestatic 125, 108, 3, 11, 0, 0, [(0, 6), (0, 1)]),
   (15, .ifCond .eq 16, 31, 0, 0, 0, 0, []),
   (18, .iload_n 3, 3, 0, 0, 0, 0, []),
   (19, .iconst (-1), 0, 0, 0, (-1), 0, []),
   (20, .if_icmp .eq 14, 34, 0, 0, 0, 0, []),
   (23, .aload_n 0, 0, 0, 0, 0, 0, []),
   (24, .iload_n 3, 3, 0, 0, 0, 0, []),
   (25, .invokevirtual 143, 110, 1, 11, 0, 0, [(0, 2), (0, 1)]),
   (28, .ifCond .ne 6, 34, 0, 0, 0, 0, []),
   (31, .bipush (-5), 0, 0, 0, (-5), 0, [])],
  [(33, .ireturn, 0, 0, 0, 0, 0, []),
   (34, .aload_n 0, 0, 0, 0, 0, 0, []),
   (35, .iload_n 1, 1, 0, 0, 0, 0, []),
   (36, .iload_n 2, 2, 0, 0, 0, 0, []),
   (37, .invokevirtual 146, 115, 2, 11, 0, 0, [(0, 3), (0, 1)]),
   (40, .istore 4, 4, 0, 0, 0, 0, []),
   (42, .aload_n 0, 0, 0, 0, 0, 0, []),
   (43, .iload_n 1, 1, 0, 0, 0, 0, []),
   (44, .iload_n 2, 2, 0, 0, 0, 0, []),
   (45, .iload_n 3, 3, 0, 0, 0, 0, []),
   (46, .invokevirtual 150, 116, 3, 11, 0, 0, [(0, 4), (0, 0)]),
   (49, .iload 4, 4, 0, 0, 0, 0, []),
   (51, .ireturn, 0, 0, 0, 0, 0, [])]]
def tb_X11_about : List (List ax_Rw) := [
  [(0, .aload_n 0, 0, 0, 0, 0, 0, []),
   (1, .iload_n 1, 1, 0, 0, 0, 0, []),
   (2, .invokevirtual 139, 109, 1, 11, 0, 0, [(0, 2), (0, 1)]),
   (5, .ifCond .ne 5, 10, 0, 0, 0, 0, []),
   (8, .iconst (-1), 0, 0, 0, (-1), 0, []),
   (9, .ireturn, 0, 0, 0, 0, 0, []),
   (10, .iload_n 2, 2, 0, 0, 0, 0, []),
   (11, .tableswitch 133 0 7 #[45, 52, 59, 66, 73, 80, 90, 100], 144, 0, 0, 0, 0, [(0, 56), (1, 63), (2, 70), (3, 77), (4, 84), (5, 91), (6, 101), (7, 111)])],
  [(56, .aload_n 0, 0, 0, 0, 0, 0, []),
   (57, .getfield 7, 11, 0, 0, 0, 0, []),
   (60, .iload_n 1, 1, 0, 0, 0, 0, []),
   (61, .iaload, 0, 0, 0, 0, 0, []),
   (62, .ireturn, 0, 0, 0, 0, 0, []),
   (63, .aload_n 0, 0, 0, 0, 0, 0, [])],
  [(64, .getfield 13, 11, 1, 0, 0, 0, []),
   (67, .iload_n 1, 1, 0, 0, 0, 0, []),
   (68, .iaload, 0, 0, 0, 0, 0, []),
   (69, .ireturn, 0, 0, 0, 0, 0, []),
   (70, .aload_n 0, 0, 0, 0, 0, 0, []),
   (71, .getfield 25, 11, 5, 0, 0, 0, []),
   (74, .iload_n 1, 1, 0, 0, 0, 0, []),
   (75, .iaload, 0, 0, 0, 0, 0, []),
   (76, .ireturn, 0, 0, 0, 0, 0, []),
   (77, .aload_n 0, 0, 0, 0, 0, 0, []),
   (78, .getfield 28, 11, 6, 0, 0, 0, []),
   (81, .iload_n 1, 1, 0, 0, 0, 0, []),
   (82, .iaload, 0, 0, 0, 0, 0, []),
   (83, .ireturn, 0, 0, 0, 0, 0, []),
   (84, .aload_n 0, 0, 0, 0, 0, 0, []),
   (85, .getfield 31, 11, 9, 0, 0, 0, []),
   (88, .iload_n 1, 1, 0, 0, 0, 0, []),
   (89, .iaload, 0, 0, 0, 0, 0, []),
   (90, .ireturn, 0, 0, 0, 0, 0, []),
   (91, .aload_n 0, 0, 0, 0, 0, 0, []),
   (92, .getfield 31, 11, 9, 0, 0, 0, []),
   (95, .bipush 12, 0, 0, 0, 12, 0, [])],
  [(97, .iload_n 1, 1, 0, 0, 0, 0, []),
   (98, .iadd, 0, 0, 0, 0, 0, []),
   (99, .iaload, 0, 0, 0, 0, 0, []),
   (100, .ireturn, 0, 0, 0, 0, 0, []),
   (101, .aload_n 0, 0, 0, 0, 0, 0, []),
   (102, .getfield 31, 11, 9, 0, 0, 0, []),
   (105, .bipush 24, 0, 0, 0, 24, 0, []),
   (107, .iload_n 1, 1, 0, 0, 0, 0, []),
   (108, .iadd, 0, 0, 0, 0, 0, []),
   (109, .iaload, 0, 0, 0, 0, 0, []),
   (110, .ireturn, 0, 0, 0, 0, 0, []),
   (111, .aload_n 0, 0, 0, 0, 0, 0, []),
   (112, .getfield 7, 11, 0, 0, 0, 0, []),
   (115, .iload_n 1, 1, 0, 0, 0, 0, []),
   (116, .iaload, 0, 0, 0, 0, 0, []),
   (117, .iconst 1, 0, 0, 0, 1, 0, []),
   (118, .if_icmp .ne 24, 142, 0, 0, 0, 0, []),
   (121, .aload_n 0, 0, 0, 0, 0, 0, []),
   (122, .getfield 31, 11, 9, 0, 0, 0, []),
   (125, .iload_n 1, 1, 0, 0, 0, 0, []),
   (126, .iaload, 0, 0, 0, 0, 0, []),
   (127, .iconst 5, 0, 0, 0, 5, 0, [])],
  [(128, .if_icmp .ge 14, 142, 0, 0, 0, 0, []),
   (131, .iconst 5, 0, 0, 0, 5, 0, []),
   (132, .aload_n 0, 0, 0, 0, 0, 0, []),
   (133, .getfield 31, 11, 9, 0, 0, 0, []),
   (136, .iload_n 1, 1, 0, 0, 0, 0, []),
   (137, .iaload, 0, 0, 0, 0, 0, []),
   (138, .isub, 0, 0, 0, 0, 0, []),
   (139, .goto 4, 143, 0, 0, 0, 0, []),
   (142, .iconst 0, 0, 0, 0, 0, 0, []),
   (143, .ireturn, 0, 0, 0, 0, 0, []),
   (144, .iconst (-1), 0, 0, 0, (-1), 0, []),
   (145, .ireturn, 0, 0, 0, 0, 0, [])]]
def tb_X11_driven : List (List ax_Rw) := [
  [(0, .aload_n 0, 0, 0, 0, 0, 0, []),
   (1, .iload_n 1, 1, 0, 0, 0, 0, []),
   (2, .invokevirtual 143, 110, 1, 11, 0, 0, [(0, 2), (0, 1)]),
   (5, .ifCond .ne 5, 10, 0, 0, 0, 0, []),
   (8, .iconst (-1), 0, 0, 0, (-1), 0, []),
   (9, .ireturn, 0, 0, 0, 0, 0, []),
   (10, .iload_n 2, 2, 0, 0, 0, 0, []),
   (11, .tableswitch 52 0 2 #[25, 32, 42], 63, 0, 0, 0, 0, [(0, 36), (1, 43), (2, 53)])],
  [(36, .aload_n 0, 0, 0, 0, 0, 0, []),
   (37, .getfield 22, 11, 4, 0, 0, 0, []),
   (40, .iload_n 1, 1, 0, 0, 0, 0, []),
   (41, .iaload, 0, 0, 0, 0, 0, []),
   (42, .ireturn, 0, 0, 0, 0, 0, []),
   (43, .aload_n 0, 0, 0, 0, 0, 0, []),
   (44, .getfield 31, 11, 9, 0, 0, 0, []),
   (47, .bipush 36, 0, 0, 0, 36, 0, []),
   (49, .iload_n 1, 1, 0, 0, 0, 0, []),
   (50, .iadd, 0, 0, 0, 0, 0, []),
   (51, .iaload, 0, 0, 0, 0, 0, []),
   (52, .ireturn, 0, 0, 0, 0, 0, []),
   (53, .aload_n 0, 0, 0, 0, 0, 0, []),
   (54, .getfield 31, 11, 9, 0, 0, 0, []),
   (57, .bipush 52, 0, 0, 0, 52, 0, []),
   (59, .iload_n 1, 1, 0, 0, 0, 0, []),
   (60, .iadd, 0, 0, 0, 0, 0, []),
   (61, .iaload, 0, 0, 0, 0, 0, []),
   (62, .ireturn, 0, 0, 0, 0, 0, []),
   (63, .iconst (-1), 0, 0, 0, (-1), 0, [])],
  [(64, .ireturn, 0, 0, 0, 0, 0, [])]]
def tb_X11_drives : List (List ax_Rw) := [
  [(0, .iconst 0, 0, 0, 0, 0, 0, []),
   (1, .istore_n 2, 2, 0, 0, 0, 0, []),
   (2, .iconst 0, 0, 0, 0, 0, 0, []),
   (3, .istore_n 3, 3, 0, 0, 0, 0, []),
   (4, .iload_n 3, 3, 0, 0, 0, 0, []),
   (5, .aload_n 0, 0, 0, 0, 0, 0, []),
   (6, .getfield 116, 11, 7, 0, 0, 0, []),
   (9, .if_icmp .ge 39, 48, 0, 0, 0, 0, []),
   (12, .iload_n 2, 2, 0, 0, 0, 0, []),
   (13, .ifCond .ne 23, 36, 0, 0, 0, 0, []),
   (16, .aload_n 0, 0, 0, 0, 0, 0, []),
   (17, .getfield 25, 11, 5, 0, 0, 0, []),
   (20, .iload_n 3, 3, 0, 0, 0, 0, []),
   (21, .iaload, 0, 0, 0, 0, 0, []),
   (22, .iload_n 1, 1, 0, 0, 0, 0, []),
   (23, .if_icmp .eq 13, 36, 0, 0, 0, 0, []),
   (26, .aload_n 0, 0, 0, 0, 0, 0, []),
   (27, .getfield 28, 11, 6, 0, 0, 0, []),
   (30, .iload_n 3, 3, 0, 0, 0, 0, []),
   (31, .iaload, 0, 0, 0, 0, 0, [])],
  [(32, .iload_n 1, 1, 0, 0, 0, 0, []),
   (33, .if_icmp .ne 7, 40, 0, 0, 0, 0, []),
   (36, .iconst 1, 0, 0, 0, 1, 0, []),
   (37, .goto 4, 41, 0, 0, 0, 0, []),
   (40, .iconst 0, 0, 0, 0, 0, 0, []),
   (41, .istore_n 2, 2, 0, 0, 0, 0, []),
   (42, .iinc 3 1, 3, 0, 0, 1, 0, []),
   (45, .goto (-41), 4, 0, 0, 0, 0, []),
   (48, .iload_n 2, 2, 0, 0, 0, 0, []),
   (49, .ireturn, 0, 1, 0, 0, 0, [])]]
def tb_X11_worthOf : List (List ax_Rw) := [
  [(0, .aload_n 0, 0, 0, 0, 0, 0, []),
   (1, .getfield 22, 11, 4, 0, 0, 0, []),
   (4, .aload_n 0, 0, 0, 0, 0, 0, []),
   (5, .getfield 58, 11, 23, 0, 0, 0, []),
   (8, .iload_n 2, 2, 0, 0, 0, 0, []),
   (9, .iaload, 0, 0, 0, 0, 0, []),
   (10, .iaload, 0, 0, 0, 0, 0, []),
   (11, .iconst 2, 0, 0, 0, 2, 0, []),
   (12, .if_icmp .eq 25, 37, 0, 0, 0, 0, []),
   (15, .aload_n 0, 0, 0, 0, 0, 0, []),
   (16, .getfield 22, 11, 4, 0, 0, 0, []),
   (19, .aload_n 0, 0, 0, 0, 0, 0, []),
   (20, .getfield 58, 11, 23, 0, 0, 0, []),
   (23, .iload_n 2, 2, 0, 0, 0, 0, []),
   (24, .iaload, 0, 0, 0, 0, 0, []),
   (25, .iaload, 0, 0, 0, 0, 0, []),
   (26, .aload_n 0, 0, 0, 0, 0, 0, []),
   (27, .getfield 55, 11, 22, 0, 0, 0, []),
   (30, .iload_n 1, 1, 0, 0, 0, 0, []),
   (31, .iaload, 0, 0, 0, 0, 0, [])],
  [(32, .iconst 2, 0, 0, 0, 2, 0, []),
   (33, .irem, 0, 0, 0, 0, 0, []),
   (34, .if_icmp .ne 7, 41, 0, 0, 0, 0, []),
   (37, .iconst 2, 0, 0, 0, 2, 0, []),
   (38, .goto 4, 42, 0, 0, 0, 0, []),
   (41, .iconst 1, 0, 0, 0, 1, 0, []),
   (42, .ireturn, 0, 0, 0, 0, 0, [])]]
def tb_X11_fill_0 : List ax_Rw :=
  [(0, .aload_n 0, 0, 0, 0, 0, 0, []),
   (1, .iconst 0, 0, 0, 0, 0, 0, []),
   (2, .putfield 154, 11, 25, 0, 0, 0, []),
   (5, .aload_n 0, 0, 0, 0, 0, 0, []),
   (6, .iconst 0, 0, 0, 0, 0, 0, []),
   (7, .putfield 157, 11, 26, 0, 0, 0, []),
   (10, .iconst 0, 0, 0, 0, 0, 0, []),
   (11, .istore_n 1, 1, 0, 0, 0, 0, []),
   (12, .iload_n 1, 1, 0, 0, 0, 0, []),
   (13, .iconst 2, 0, 0, 0, 2, 0, []),
   (14, .aload_n 0, 0, 0, 0, 0, 0, []),
   (15, .getfield 116, 11, 7, 0, 0, 0, []),
   (18, .imul, 0, 0, 0, 0, 0, []),
   (19, .if_icmp .ge 54, 73, 0, 0, 0, 0, []),
   (22, .aload_n 0, 0, 0, 0, 0, 0, []),
   (23, .iload_n 1, 1, 0, 0, 0, 0, []),
   (24, .iconst 2, 0, 0, 0, 2, 0, []),
   (25, .idiv, 0, 0, 0, 0, 0, []),
   (26, .iload_n 1, 1, 0, 0, 0, 0, []),
   (27, .iconst 2, 0, 0, 0, 2, 0, []),
   (28, .irem, 0, 0, 0, 0, 0, []),
   (29, .invokevirtual 146, 115, 2, 11, 0, 0, [(0, 3), (0, 1)])]
def tb_X11_fill_1 : List ax_Rw :=
  [(32, .ifCond .ge 35, 67, 0, 0, 0, 0, []),
   (35, .aload_n 0, 0, 0, 0, 0, 0, []),
   (36, .getfield 154, 11, 25, 0, 0, 0, []),
   (39, .bipush 10, 0, 0, 0, 10, 0, []),
   (41, .if_icmp .ne 6, 47, 0, 0, 0, 0, []),
   (44, .goto 23, 67, 0, 0, 0, 0, []),
   (47, .aload_n 0, 0, 0, 0, 0, 0, []),
   (48, .getfield 55, 11, 22, 0, 0, 0, []),
   (51, .aload_n 0, 0, 0, 0, 0, 0, []),
   (52, .getfield 154, 11, 25, 0, 0, 0, []),
   (55, .iload_n 1, 1, 0, 0, 0, 0, []),
   (56, .iastore, 0, 0, 0, 0, 0, []),
   (57, .aload_n 0, 0, 0, 0, 0, 0, []),
   (58, .dup, 0, 0, 0, 0, 0, []),
   (59, .getfield 154, 11, 25, 0, 0, 0, []),
   (62, .iconst 1, 0, 0, 0, 1, 0, []),
   (63, .iadd, 0, 0, 0, 0, 0, [])]
def tb_X11_fill_2 : List ax_Rw :=
  [(64, .putfield 154, 11, 25, 0, 0, 0, []),
   (67, .iinc 1 1, 1, 0, 0, 1, 0, []),
   (70, .goto (-58), 12, 0, 0, 0, 0, []),
   (73, .iconst 0, 0, 0, 0, 0, 0, []),
   (74, .istore_n 1, 1, 0, 0, 0, 0, []),
   (75, .iload_n 1, 1, 0, 0, 0, 0, []),
   (76, .aload_n 0, 0, 0, 0, 0, 0, []),
   (77, .getfield 120, 11, 8, 0, 0, 0, []),
   (80, .if_icmp .ge 49, 129, 0, 0, 0, 0, []),
   (83, .aload_n 0, 0, 0, 0, 0, 0, []),
   (84, .iload_n 1, 1, 0, 0, 0, 0, []),
   (85, .invokevirtual 159, 120, 1, 11, 0, 0, [(0, 4), (0, 1)]),
   (88, .ifCond .ne 35, 123, 0, 0, 0, 0, []),
   (91, .aload_n 0, 0, 0, 0, 0, 0, []),
   (92, .getfield 157, 11, 26, 0, 0, 0, []),
   (95, .bipush 10, 0, 0, 0, 10, 0, [])]
def tb_X11_fill_3 : List ax_Rw :=
  [(97, .if_icmp .ne 6, 103, 0, 0, 0, 0, []),
   (100, .goto 23, 123, 0, 0, 0, 0, []),
   (103, .aload_n 0, 0, 0, 0, 0, 0, []),
   (104, .getfield 58, 11, 23, 0, 0, 0, []),
   (107, .aload_n 0, 0, 0, 0, 0, 0, []),
   (108, .getfield 157, 11, 26, 0, 0, 0, []),
   (111, .iload_n 1, 1, 0, 0, 0, 0, []),
   (112, .iastore, 0, 0, 0, 0, 0, []),
   (113, .aload_n 0, 0, 0, 0, 0, 0, []),
   (114, .dup, 0, 0, 0, 0, 0, []),
   (115, .getfield 157, 11, 26, 0, 0, 0, []),
   (118, .iconst 1, 0, 0, 0, 1, 0, []),
   (119, .iadd, 0, 0, 0, 0, 0, []),
   (120, .putfield 157, 11, 26, 0, 0, 0, []),
   (123, .iinc 1 1, 1, 0, 0, 1, 0, []),
   (126, .goto (-51), 75, 0, 0, 0, 0, [])]
def tb_X11_fill_4 : List ax_Rw :=
  [(129, .iconst 1, 0, 0, 0, 1, 0, []),
   (130, .aload_n 0, 0, 0, 0, 0, 0, []),
   (131, .getfield 157, 11, 26, 0, 0, 0, []),
   (134, .ishl, 0, 0, 0, 0, 0, []),
   (135, .istore_n 1, 1, 0, 0, 0, 0, []),
   (136, .aload_n 0, 0, 0, 0, 0, 0, []),
   (137, .getfield 154, 11, 25, 0, 0, 0, []),
   (140, .istore_n 2, 2, 0, 0, 0, 0, []),
   (141, .iload_n 2, 2, 0, 0, 0, 0, []),
   (142, .ifCond .lt 144, 286, 0, 0, 0, 0, []),
   (145, .iconst 0, 0, 0, 0, 0, 0, []),
   (146, .istore_n 3, 3, 0, 0, 0, 0, []),
   (147, .iload_n 3, 3, 0, 0, 0, 0, []),
   (148, .iload_n 1, 1, 0, 0, 0, 0, []),
   (149, .if_icmp .ge 131, 280, 0, 0, 0, 0, []),
   (152, .iload_n 2, 2, 0, 0, 0, 0, []),
   (153, .aload_n 0, 0, 0, 0, 0, 0, []),
   (154, .getfield 154, 11, 25, 0, 0, 0, []),
   (157, .if_icmp .ne 7, 164, 0, 0, 0, 0, [])]
def tb_X11_fill_5 : List ax_Rw :=
  [(160, .iconst 0, 0, 0, 0, 0, 0, []),
   (161, .goto 17, 178, 0, 0, 0, 0, []),
   (164, .aload_n 0, 0, 0, 0, 0, 0, []),
   (165, .getfield 61, 11, 24, 0, 0, 0, []),
   (168, .sipush 1024, 0, 0, 0, 1024, 0, []),
   (171, .iload_n 2, 2, 0, 0, 0, 0, []),
   (172, .iconst 1, 0, 0, 0, 1, 0, []),
   (173, .iadd, 0, 0, 0, 0, 0, []),
   (174, .imul, 0, 0, 0, 0, 0, []),
   (175, .iload_n 3, 3, 0, 0, 0, 0, []),
   (176, .iadd, 0, 0, 0, 0, 0, []),
   (177, .iaload, 0, 0, 0, 0, 0, []),
   (178, .istore 4, 4, 0, 0, 0, 0, []),
   (180, .iconst 0, 0, 0, 0, 0, 0, []),
   (181, .istore 5, 5, 0, 0, 0, 0, []),
   (183, .iload 5, 5, 0, 0, 0, 0, []),
   (185, .aload_n 0, 0, 0, 0, 0, 0, []),
   (186, .getfield 157, 11, 26, 0, 0, 0, []),
   (189, .if_icmp .ge 71, 260, 0, 0, 0, 0, [])]
def tb_X11_fill_6 : List ax_Rw :=
  [(192, .iload_n 2, 2, 0, 0, 0, 0, []),
   (193, .aload_n 0, 0, 0, 0, 0, 0, []),
   (194, .getfield 154, 11, 25, 0, 0, 0, []),
   (197, .if_icmp .ge 63, 260, 0, 0, 0, 0, []),
   (200, .iload_n 3, 3, 0, 0, 0, 0, []),
   (201, .iload 5, 5, 0, 0, 0, 0, []),
   (203, .ishr, 0, 0, 0, 0, 0, []),
   (204, .iconst 1, 0, 0, 0, 1, 0, []),
   (205, .iand, 0, 0, 0, 0, 0, []),
   (206, .iconst 1, 0, 0, 0, 1, 0, []),
   (207, .if_icmp .ne 7, 214, 0, 0, 0, 0, []),
   (210, .iconst 0, 0, 0, 0, 0, 0, []),
   (211, .goto 30, 241, 0, 0, 0, 0, []),
   (214, .aload_n 0, 0, 0, 0, 0, 0, []),
   (215, .iload_n 2, 2, 0, 0, 0, 0, []),
   (216, .iload 5, 5, 0, 0, 0, 0, []),
   (218, .invokevirtual 162, 121, 2, 11, 0, 0, [(0, 3), (0, 1)]),
   (221, .aload_n 0, 0, 0, 0, 0, 0, []),
   (222, .getfield 61, 11, 24, 0, 0, 0, [])]
def tb_X11_fill_7 : List ax_Rw :=
  [(225, .sipush 1024, 0, 0, 0, 1024, 0, []),
   (228, .iload_n 2, 2, 0, 0, 0, 0, []),
   (229, .iconst 1, 0, 0, 0, 1, 0, []),
   (230, .iadd, 0, 0, 0, 0, 0, []),
   (231, .imul, 0, 0, 0, 0, 0, []),
   (232, .iload_n 3, 3, 0, 0, 0, 0, []),
   (233, .iconst 1, 0, 0, 0, 1, 0, []),
   (234, .iload 5, 5, 0, 0, 0, 0, []),
   (236, .ishl, 0, 0, 0, 0, 0, []),
   (237, .ior, 0, 0, 0, 0, 0, []),
   (238, .iadd, 0, 0, 0, 0, 0, []),
   (239, .iaload, 0, 0, 0, 0, 0, []),
   (240, .iadd, 0, 0, 0, 0, 0, []),
   (241, .istore 6, 6, 0, 0, 0, 0, []),
   (243, .iload 6, 6, 0, 0, 0, 0, []),
   (245, .iload 4, 4, 0, 0, 0, 0, []),
   (247, .if_icmp .le 7, 254, 0, 0, 0, 0, []),
   (250, .iload 6, 6, 0, 0, 0, 0, []),
   (252, .istore 4, 4, 0, 0, 0, 0, []),
   (254, .iinc 5 1, 5, 0, 0, 1, 0, [])]
def tb_X11_fill_8 : List ax_Rw :=
  [(257, .goto (-74), 183, 0, 0, 0, 0, []),
   (260, .aload_n 0, 0, 0, 0, 0, 0, []),
   (261, .getfield 61, 11, 24, 0, 0, 0, []),
   (264, .sipush 1024, 0, 0, 0, 1024, 0, []),
   (267, .iload_n 2, 2, 0, 0, 0, 0, []),
   (268, .imul, 0, 0, 0, 0, 0, []),
   (269, .iload_n 3, 3, 0, 0, 0, 0, []),
   (270, .iadd, 0, 0, 0, 0, 0, []),
   (271, .iload 4, 4, 0, 0, 0, 0, []),
   (273, .iastore, 0, 0, 0, 0, 0, []),
   (274, .iinc 3 1, 3, 0, 0, 1, 0, []),
   (277, .goto (-130), 147, 0, 0, 0, 0, []),
   (280, .iinc 2 (-1), 2, 0, 0, (-1), 0, []),
   (283, .goto (-142), 141, 0, 0, 0, 0, []),
   (286, .iconst 0, 0, 0, 0, 0, 0, []),
   (287, .istore_n 2, 2, 0, 0, 0, 0, [])]
def tb_X11_fill_9 : List ax_Rw :=
  [(288, .iconst 0, 0, 0, 0, 0, 0, []),
   (289, .istore_n 3, 3, 0, 0, 0, 0, []),
   (290, .iload_n 3, 3, 0, 0, 0, 0, []),
   (291, .aload_n 0, 0, 0, 0, 0, 0, []),
   (292, .getfield 154, 11, 25, 0, 0, 0, []),
   (295, .if_icmp .ge 125, 420, 0, 0, 0, 0, []),
   (298, .iconst 0, 0, 0, 0, 0, 0, []),
   (299, .istore 4, 4, 0, 0, 0, 0, []),
   (301, .iload 4, 4, 0, 0, 0, 0, []),
   (303, .aload_n 0, 0, 0, 0, 0, 0, []),
   (304, .getfield 157, 11, 26, 0, 0, 0, []),
   (307, .if_icmp .ge 61, 368, 0, 0, 0, 0, []),
   (310, .iload_n 2, 2, 0, 0, 0, 0, []),
   (311, .iload 4, 4, 0, 0, 0, 0, []),
   (313, .ishr, 0, 0, 0, 0, 0, []),
   (314, .iconst 1, 0, 0, 0, 1, 0, []),
   (315, .iand, 0, 0, 0, 0, 0, []),
   (316, .iconst 1, 0, 0, 0, 1, 0, []),
   (317, .if_icmp .eq 45, 362, 0, 0, 0, 0, [])]
def tb_X11_fill_10 : List ax_Rw :=
  [(320, .aload_n 0, 0, 0, 0, 0, 0, []),
   (321, .iload_n 3, 3, 0, 0, 0, 0, []),
   (322, .iload 4, 4, 0, 0, 0, 0, []),
   (324, .invokevirtual 162, 121, 2, 11, 0, 0, [(0, 3), (0, 1)]),
   (327, .aload_n 0, 0, 0, 0, 0, 0, []),
   (328, .getfield 61, 11, 24, 0, 0, 0, []),
   (331, .sipush 1024, 0, 0, 0, 1024, 0, []),
   (334, .iload_n 3, 3, 0, 0, 0, 0, []),
   (335, .iconst 1, 0, 0, 0, 1, 0, []),
   (336, .iadd, 0, 0, 0, 0, 0, []),
   (337, .imul, 0, 0, 0, 0, 0, []),
   (338, .iload_n 2, 2, 0, 0, 0, 0, []),
   (339, .iconst 1, 0, 0, 0, 1, 0, []),
   (340, .iload 4, 4, 0, 0, 0, 0, []),
   (342, .ishl, 0, 0, 0, 0, 0, []),
   (343, .ior, 0, 0, 0, 0, 0, []),
   (344, .iadd, 0, 0, 0, 0, 0, []),
   (345, .iaload, 0, 0, 0, 0, 0, []),
   (346, .iadd, 0, 0, 0, 0, 0, []),
   (347, .aload_n 0, 0, 0, 0, 0, 0, []),
   (348, .getfield 61, 11, 24, 0, 0, 0, []),
   (351, .sipush 1024, 0, 0, 0, 1024, 0, [])]
def tb_X11_fill_11 : List ax_Rw :=
  [(354, .iload_n 3, 3, 0, 0, 0, 0, []),
   (355, .imul, 0, 0, 0, 0, 0, []),
   (356, .iload_n 2, 2, 0, 0, 0, 0, []),
   (357, .iadd, 0, 0, 0, 0, 0, []),
   (358, .iaload, 0, 0, 0, 0, 0, []),
   (359, .if_icmp .eq 9, 368, 0, 0, 0, 0, []),
   (362, .iinc 4 1, 4, 0, 0, 1, 0, []),
   (365, .goto (-64), 301, 0, 0, 0, 0, []),
   (368, .iload 4, 4, 0, 0, 0, 0, []),
   (370, .aload_n 0, 0, 0, 0, 0, 0, []),
   (371, .getfield 157, 11, 26, 0, 0, 0, []),
   (374, .if_icmp .ne 6, 380, 0, 0, 0, 0, []),
   (377, .goto 37, 414, 0, 0, 0, 0, []),
   (380, .aload_n 0, 0, 0, 0, 0, 0, []),
   (381, .aload_n 0, 0, 0, 0, 0, 0, []),
   (382, .getfield 55, 11, 22, 0, 0, 0, [])]
def tb_X11_fill_12 : List ax_Rw :=
  [(385, .iload_n 3, 3, 0, 0, 0, 0, []),
   (386, .iaload, 0, 0, 0, 0, 0, []),
   (387, .iconst 2, 0, 0, 0, 2, 0, []),
   (388, .idiv, 0, 0, 0, 0, 0, []),
   (389, .aload_n 0, 0, 0, 0, 0, 0, []),
   (390, .getfield 55, 11, 22, 0, 0, 0, []),
   (393, .iload_n 3, 3, 0, 0, 0, 0, []),
   (394, .iaload, 0, 0, 0, 0, 0, []),
   (395, .iconst 2, 0, 0, 0, 2, 0, []),
   (396, .irem, 0, 0, 0, 0, 0, []),
   (397, .aload_n 0, 0, 0, 0, 0, 0, []),
   (398, .getfield 58, 11, 23, 0, 0, 0, []),
   (401, .iload 4, 4, 0, 0, 0, 0, []),
   (403, .iaload, 0, 0, 0, 0, 0, []),
   (404, .invokevirtual 150, 116, 3, 11, 0, 0, [(0, 4), (0, 0)]),
   (407, .iload_n 2, 2, 0, 0, 0, 0, []),
   (408, .iconst 1, 0, 0, 0, 1, 0, []),
   (409, .iload 4, 4, 0, 0, 0, 0, []),
   (411, .ishl, 0, 0, 0, 0, 0, []),
   (412, .ior, 0, 0, 0, 0, 0, []),
   (413, .istore_n 2, 2, 0, 0, 0, 0, []),
   (414, .iinc 3 1, 3, 0, 0, 1, 0, [])]
def tb_X11_fill_13 : List ax_Rw :=
  [(417, .goto (-127), 290, 0, 0, 0, 0, []),
   (420, .aload_n 0, 0, 0, 0, 0, 0, []),
   (421, .getfield 61, 11, 24, 0, 0, 0, []),
   (424, .iconst 0, 0, 0, 0, 0, 0, []),
   (425, .iaload, 0, 0, 0, 0, 0, []),
   (426, .ireturn, 0, 0, 0, 0, 0, [])]
def tb_X11_fill : List (List ax_Rw) := [tb_X11_fill_0, tb_X11_fill_1, tb_X11_fill_2, tb_X11_fill_3, tb_X11_fill_4, tb_X11_fill_5, tb_X11_fill_6, tb_X11_fill_7, tb_X11_fill_8, tb_X11_fill_9, tb_X11_fill_10, tb_X11_fill_11, tb_X11_fill_12, tb_X11_fill_13]
def tb_X11_feed : List (List ax_Rw) := [
  [(0, .iload_n 3, 3, 0, 0, 0, 0, []),
   (1, .i2l, 0, 0, 0, 0, 0, []),
   (2, .lconst 1, 0, 0, 0, 0, 1, []),
   (3, .ldc2_w 165, 0, 0, 0, 0, 8, []),
   (6, .invokestatic 125, 108, 3, 11, 0, 0, [(0, 6), (0, 1)]),
   (9, .ifCond .ne 6, 15, 0, 0, 0, 0, []),
   (12, .bipush (-2), 0, 0, 0, (-2), 0, []),
   (14, .ireturn, 0, 0, 0, 0, 0, []),
   (15, .aload_n 0, 0, 0, 0, 0, 0, []),
   (16, .getfield 167, 11, 34, 0, 0, 0, []),
   (19, .iload_n 3, 3, 0, 0, 0, 0, []),
   (20, .iadd, 0, 0, 0, 0, 0, []),
   (21, .bipush 120, 0, 0, 0, 120, 0, []),
   (23, .if_icmp .le 6, 29, 0, 0, 0, 0, []),
   (26, .bipush (-4), 0, 0, 0, (-4), 0, []),
   (28, .ireturn, 0, 0, 0, 0, 0, []),
   (29, .iload_n 3, 3, 0, 0, 0, 0, []),
   (30, .iconst 1, 0, 0, 0, 1, 0, []),
   (31, .isub, 0, 0, 0, 0, 0, [])],
  [(32, .istore 4, 4, 0, 0, 0, 0, []),
   (34, .iload 4, 4, 0, 0, 0, 0, []),
   (36, .ifCond .lt 40, 76, 0, 0, 0, 0, []),
   (39, .aload_n 0, 0, 0, 0, 0, 0, []),
   (40, .getfield 64, 11, 27, 0, 0, 0, []),
   (43, .aload_n 0, 0, 0, 0, 0, 0, []),
   (44, .getfield 167, 11, 34, 0, 0, 0, []),
   (47, .lload_n 1, 1, 0, 0, 0, 0, []),
   (48, .bipush 8, 0, 0, 0, 8, 0, []),
   (50, .iload 4, 4, 0, 0, 0, 0, []),
   (52, .imul, 0, 0, 0, 0, 0, []),
   (53, .lshr, 0, 0, 0, 0, 0, []),
   (54, .ldc2_w 170, 0, 0, 0, 0, 255, []),
   (57, .land, 0, 0, 0, 0, 0, []),
   (58, .l2i, 0, 0, 0, 0, 0, []),
   (59, .iastore, 0, 0, 0, 0, 0, []),
   (60, .aload_n 0, 0, 0, 0, 0, 0, []),
   (61, .dup, 0, 0, 0, 0, 0, []),
   (62, .getfield 167, 11, 34, 0, 0, 0, [])],
  [(65, .iconst 1, 0, 0, 0, 1, 0, []),
   (66, .iadd, 0, 0, 0, 0, 0, []),
   (67, .putfield 167, 11, 34, 0, 0, 0, []),
   (70, .iinc 4 (-1), 4, 0, 0, (-1), 0, []),
   (73, .goto (-39), 34, 0, 0, 0, 0, []),
   (76, .aload_n 0, 0, 0, 0, 0, 0, []),
   (77, .getfield 167, 11, 34, 0, 0, 0, []),
   (80, .ireturn, 0, 0, 0, 0, 0, [])]]
def tb_X11_sign : List (List ax_Rw) := [
  [(0, .aload_n 0, 0, 0, 0, 0, 0, []),
   (1, .getfield 172, 11, 36, 0, 0, 0, []),
   (4, .aload_n 0, 0, 0, 0, 0, 0, []),
   (5, .getfield 167, 11, 34, 0, 0, 0, []),
   (8, .if_icmp .ge 15, 23, 0, 0, 0, 0, []),
   (11, .aload_n 0, 0, 0, 0, 0, 0, []),
   (12, .getfield 64, 11, 27, 0, 0, 0, []),
   (15, .aload_n 0, 0, 0, 0, 0, 0, []),
   (16, .getfield 172, 11, 36, 0, 0, 0, []),
   (19, .iaload, 0, 0, 0, 0, 0, []),
   (20, .goto 4, 24, 0, 0, 0, 0, []),
   (23, .iconst (-1), 0, 0, 0, (-1), 0, []),
   (24, .ireturn, 0, 0, 0, 0, 0, [])]]
def tb_X11_signOf_0 : List ax_Rw :=
  [(0, .iload_n 0, 0, 0, 0, 0, 0, []),
   (1, .tableswitch 250 0 4 #[35, 76, 117, 168, 209], 251, 0, 0, 0, 0, [(0, 36), (1, 77), (2, 118), (3, 169), (4, 210)])]
def tb_X11_signOf_1 : List ax_Rw :=
  [(36, .iload_n 1, 1, 0, 0, 0, 0, []),
   (37, .ifCond .ne 8, 45, 0, 0, 0, 0, []),
   (40, .bipush 98, 0, 0, 0, 98, 0, []),
   (42, .goto 34, 76, 0, 0, 0, 0, []),
   (45, .iload_n 1, 1, 0, 0, 0, 0, []),
   (46, .iconst 1, 0, 0, 0, 1, 0, []),
   (47, .if_icmp .ne 8, 55, 0, 0, 0, 0, []),
   (50, .bipush 97, 0, 0, 0, 97, 0, []),
   (52, .goto 24, 76, 0, 0, 0, 0, []),
   (55, .iload_n 1, 1, 0, 0, 0, 0, []),
   (56, .iconst 2, 0, 0, 0, 2, 0, []),
   (57, .if_icmp .ne 8, 65, 0, 0, 0, 0, []),
   (60, .bipush 115, 0, 0, 0, 115, 0, []),
   (62, .goto 14, 76, 0, 0, 0, 0, [])]
def tb_X11_signOf_2 : List ax_Rw :=
  [(65, .iload_n 1, 1, 0, 0, 0, 0, []),
   (66, .iconst 3, 0, 0, 0, 3, 0, []),
   (67, .if_icmp .ne 8, 75, 0, 0, 0, 0, []),
   (70, .bipush 101, 0, 0, 0, 101, 0, []),
   (72, .goto 4, 76, 0, 0, 0, 0, []),
   (75, .iconst 0, 0, 0, 0, 0, 0, []),
   (76, .ireturn, 0, 0, 0, 0, 0, []),
   (77, .iload_n 1, 1, 0, 0, 0, 0, []),
   (78, .ifCond .ne 8, 86, 0, 0, 0, 0, []),
   (81, .bipush 115, 0, 0, 0, 115, 0, []),
   (83, .goto 34, 117, 0, 0, 0, 0, []),
   (86, .iload_n 1, 1, 0, 0, 0, 0, []),
   (87, .iconst 1, 0, 0, 0, 1, 0, []),
   (88, .if_icmp .ne 8, 96, 0, 0, 0, 0, []),
   (91, .bipush 116, 0, 0, 0, 116, 0, []),
   (93, .goto 24, 117, 0, 0, 0, 0, [])]
def tb_X11_signOf_3 : List ax_Rw :=
  [(96, .iload_n 1, 1, 0, 0, 0, 0, []),
   (97, .iconst 2, 0, 0, 0, 2, 0, []),
   (98, .if_icmp .ne 8, 106, 0, 0, 0, 0, []),
   (101, .bipush 101, 0, 0, 0, 101, 0, []),
   (103, .goto 14, 117, 0, 0, 0, 0, []),
   (106, .iload_n 1, 1, 0, 0, 0, 0, []),
   (107, .iconst 3, 0, 0, 0, 3, 0, []),
   (108, .if_icmp .ne 8, 116, 0, 0, 0, 0, []),
   (111, .bipush 112, 0, 0, 0, 112, 0, []),
   (113, .goto 4, 117, 0, 0, 0, 0, []),
   (116, .iconst 0, 0, 0, 0, 0, 0, []),
   (117, .ireturn, 0, 0, 0, 0, 0, []),
   (118, .iload_n 1, 1, 0, 0, 0, 0, []),
   (119, .ifCond .ne 8, 127, 0, 0, 0, 0, []),
   (122, .bipush 110, 0, 0, 0, 110, 0, []),
   (124, .goto 44, 168, 0, 0, 0, 0, []),
   (127, .iload_n 1, 1, 0, 0, 0, 0, [])]
def tb_X11_signOf_4 : List ax_Rw :=
  [(128, .iconst 1, 0, 0, 0, 1, 0, []),
   (129, .if_icmp .ne 8, 137, 0, 0, 0, 0, []),
   (132, .bipush 105, 0, 0, 0, 105, 0, []),
   (134, .goto 34, 168, 0, 0, 0, 0, []),
   (137, .iload_n 1, 1, 0, 0, 0, 0, []),
   (138, .iconst 2, 0, 0, 0, 2, 0, []),
   (139, .if_icmp .ne 8, 147, 0, 0, 0, 0, []),
   (142, .bipush 103, 0, 0, 0, 103, 0, []),
   (144, .goto 24, 168, 0, 0, 0, 0, []),
   (147, .iload_n 1, 1, 0, 0, 0, 0, []),
   (148, .iconst 3, 0, 0, 0, 3, 0, []),
   (149, .if_icmp .ne 8, 157, 0, 0, 0, 0, []),
   (152, .bipush 104, 0, 0, 0, 104, 0, []),
   (154, .goto 14, 168, 0, 0, 0, 0, []),
   (157, .iload_n 1, 1, 0, 0, 0, 0, []),
   (158, .iconst 4, 0, 0, 0, 4, 0, []),
   (159, .if_icmp .ne 8, 167, 0, 0, 0, 0, [])]
def tb_X11_signOf_5 : List ax_Rw :=
  [(162, .bipush 116, 0, 0, 0, 116, 0, []),
   (164, .goto 4, 168, 0, 0, 0, 0, []),
   (167, .iconst 0, 0, 0, 0, 0, 0, []),
   (168, .ireturn, 0, 0, 0, 0, 0, []),
   (169, .iload_n 1, 1, 0, 0, 0, 0, []),
   (170, .ifCond .ne 8, 178, 0, 0, 0, 0, []),
   (173, .bipush 119, 0, 0, 0, 119, 0, []),
   (175, .goto 34, 209, 0, 0, 0, 0, []),
   (178, .iload_n 1, 1, 0, 0, 0, 0, []),
   (179, .iconst 1, 0, 0, 0, 1, 0, []),
   (180, .if_icmp .ne 8, 188, 0, 0, 0, 0, []),
   (183, .bipush 97, 0, 0, 0, 97, 0, []),
   (185, .goto 24, 209, 0, 0, 0, 0, []),
   (188, .iload_n 1, 1, 0, 0, 0, 0, []),
   (189, .iconst 2, 0, 0, 0, 2, 0, []),
   (190, .if_icmp .ne 8, 198, 0, 0, 0, 0, [])]
def tb_X11_signOf_6 : List ax_Rw :=
  [(193, .bipush 114, 0, 0, 0, 114, 0, []),
   (195, .goto 14, 209, 0, 0, 0, 0, []),
   (198, .iload_n 1, 1, 0, 0, 0, 0, []),
   (199, .iconst 3, 0, 0, 0, 3, 0, []),
   (200, .if_icmp .ne 8, 208, 0, 0, 0, 0, []),
   (203, .bipush 100, 0, 0, 0, 100, 0, []),
   (205, .goto 4, 209, 0, 0, 0, 0, []),
   (208, .iconst 0, 0, 0, 0, 0, 0, []),
   (209, .ireturn, 0, 0, 0, 0, 0, []),
   (210, .iload_n 1, 1, 0, 0, 0, 0, []),
   (211, .ifCond .ne 8, 219, 0, 0, 0, 0, []),
   (214, .bipush 119, 0, 0, 0, 119, 0, []),
   (216, .goto 34, 250, 0, 0, 0, 0, []),
   (219, .iload_n 1, 1, 0, 0, 0, 0, []),
   (220, .iconst 1, 0, 0, 0, 1, 0, []),
   (221, .if_icmp .ne 8, 229, 0, 0, 0, 0, [])]
def tb_X11_signOf_7 : List ax_Rw :=
  [(224, .bipush 97, 0, 0, 0, 97, 0, []),
   (226, .goto 24, 250, 0, 0, 0, 0, []),
   (229, .iload_n 1, 1, 0, 0, 0, 0, []),
   (230, .iconst 2, 0, 0, 0, 2, 0, []),
   (231, .if_icmp .ne 8, 239, 0, 0, 0, 0, []),
   (234, .bipush 105, 0, 0, 0, 105, 0, []),
   (236, .goto 14, 250, 0, 0, 0, 0, []),
   (239, .iload_n 1, 1, 0, 0, 0, 0, []),
   (240, .iconst 3, 0, 0, 0, 3, 0, []),
   (241, .if_icmp .ne 8, 249, 0, 0, 0, 0, []),
   (244, .bipush 116, 0, 0, 0, 116, 0, []),
   (246, .goto 4, 250, 0, 0, 0, 0, []),
   (249, .iconst 0, 0, 0, 0, 0, 0, []),
   (250, .ireturn, 0, 0, 0, 0, 0, []),
   (251, .iload_n 1, 1, 0, 0, 0, 0, []),
   (252, .ifCond .ne 8, 260, 0, 0, 0, 0, []),
   (255, .bipush 99, 0, 0, 0, 99, 0, [])]
def tb_X11_signOf_8 : List ax_Rw :=
  [(257, .goto 24, 281, 0, 0, 0, 0, []),
   (260, .iload_n 1, 1, 0, 0, 0, 0, []),
   (261, .iconst 1, 0, 0, 0, 1, 0, []),
   (262, .if_icmp .ne 8, 270, 0, 0, 0, 0, []),
   (265, .bipush 97, 0, 0, 0, 97, 0, []),
   (267, .goto 14, 281, 0, 0, 0, 0, []),
   (270, .iload_n 1, 1, 0, 0, 0, 0, []),
   (271, .iconst 2, 0, 0, 0, 2, 0, []),
   (272, .if_icmp .ne 8, 280, 0, 0, 0, 0, []),
   (275, .bipush 112, 0, 0, 0, 112, 0, []),
   (277, .goto 4, 281, 0, 0, 0, 0, []),
   (280, .iconst 0, 0, 0, 0, 0, 0, []),
   (281, .ireturn, 0, 0, 0, 0, 0, [])]
def tb_X11_signOf : List (List ax_Rw) := [tb_X11_signOf_0, tb_X11_signOf_1, tb_X11_signOf_2, tb_X11_signOf_3, tb_X11_signOf_4, tb_X11_signOf_5, tb_X11_signOf_6, tb_X11_signOf_7, tb_X11_signOf_8]
def tb_X11_word : List (List ax_Rw) := [
  [(0, .bipush 63, 0, 0, 0, 63, 0, []),
   (2, .istore_n 1, 1, 0, 0, 0, 0, []),
   (3, .iconst 0, 0, 0, 0, 0, 0, []),
   (4, .istore_n 2, 2, 0, 0, 0, 0, []),
   (5, .iconst 0, 0, 0, 0, 0, 0, []),
   (6, .istore_n 3, 3, 0, 0, 0, 0, []),
   (7, .iconst 0, 0, 0, 0, 0, 0, []),
   (8, .istore 4, 4, 0, 0, 0, 0, []),
   (10, .iload 4, 4, 0, 0, 0, 0, []),
   (12, .bipush 6, 0, 0, 0, 6, 0, []),
   (14, .if_icmp .ge 57, 71, 0, 0, 0, 0, []),
   (17, .iload_n 1, 1, 0, 0, 0, 0, []),
   (18, .iload 4, 4, 0, 0, 0, 0, []),
   (20, .ishr, 0, 0, 0, 0, 0, []),
   (21, .iconst 1, 0, 0, 0, 1, 0, []),
   (22, .iand, 0, 0, 0, 0, 0, []),
   (23, .ifCond .ne 6, 29, 0, 0, 0, 0, []),
   (26, .goto 39, 65, 0, 0, 0, 0, []),
   (29, .iload_n 2, 2, 0, 0, 0, 0, []),
   (30, .ifCond .le 15, 45, 0, 0, 0, 0, [])],
  [(33, .iload 4, 4, 0, 0, 0, 0, []),
   (35, .iload_n 2, 2, 0, 0, 0, 0, []),
   (36, .invokestatic 175, 125, 2, 11, 0, 0, [(0, 2), (0, 1)]),
   (39, .ifCond .ne 6, 45, 0, 0, 0, 0, []),
   (42, .iload 4, 4, 0, 0, 0, 0, []),
   (44, .ireturn, 0, 0, 0, 0, 0, []),
   (45, .iload 4, 4, 0, 0, 0, 0, []),
   (47, .iload_n 2, 2, 0, 0, 0, 0, []),
   (48, .invokestatic 175, 125, 2, 11, 0, 0, [(0, 2), (0, 1)]),
   (51, .aload_n 0, 0, 0, 0, 0, 0, []),
   (52, .invokevirtual 178, 124, 0, 11, 0, 0, [(0, 1), (0, 1)]),
   (55, .if_icmp .ne 10, 65, 0, 0, 0, 0, []),
   (58, .iload_n 3, 3, 0, 0, 0, 0, []),
   (59, .iconst 1, 0, 0, 0, 1, 0, []),
   (60, .iload 4, 4, 0, 0, 0, 0, []),
   (62, .ishl, 0, 0, 0, 0, 0, []),
   (63, .ior, 0, 0, 0, 0, 0, [])],
  [(64, .istore_n 3, 3, 0, 0, 0, 0, []),
   (65, .iinc 4 1, 4, 0, 0, 1, 0, []),
   (68, .goto (-58), 10, 0, 0, 0, 0, []),
   (71, .iload_n 3, 3, 0, 0, 0, 0, []),
   (72, .ifCond .ne 5, 77, 0, 0, 0, 0, []),
   (75, .iconst (-1), 0, 0, 0, (-1), 0, []),
   (76, .ireturn, 0, 0, 0, 0, 0, []),
   (77, .iload_n 3, 3, 0, 0, 0, 0, []),
   (78, .istore_n 1, 1, 0, 0, 0, 0, []),
   (79, .iinc 2 1, 2, 0, 0, 1, 0, []),
   (82, .aload_n 0, 0, 0, 0, 0, 0, []),
   (83, .dup, 0, 0, 0, 0, 0, []),
   (84, .getfield 172, 11, 36, 0, 0, 0, []),
   (87, .iconst 1, 0, 0, 0, 1, 0, []),
   (88, .iadd, 0, 0, 0, 0, 0, []),
   (89, .putfield 172, 11, 36, 0, 0, 0, []),
   (92, .goto (-87), 5, 0, 0, 0, 0, [])]]
def tb_X11_isDigit : List (List ax_Rw) := [
  [(0, .iload_n 0, 0, 0, 0, 0, 0, []),
   (1, .bipush 48, 0, 0, 0, 48, 0, []),
   (3, .if_icmp .lt 13, 16, 0, 0, 0, 0, []),
   (6, .iload_n 0, 0, 0, 0, 0, 0, []),
   (7, .bipush 57, 0, 0, 0, 57, 0, []),
   (9, .if_icmp .gt 7, 16, 0, 0, 0, 0, []),
   (12, .iconst 1, 0, 0, 0, 1, 0, []),
   (13, .goto 4, 17, 0, 0, 0, 0, []),
   (16, .iconst 0, 0, 0, 0, 0, 0, []),
   (17, .ireturn, 0, 1, 0, 0, 0, [])]]
def tb_X11_takes : List (List ax_Rw) := [
  [(0, .aload_n 0, 0, 0, 0, 0, 0, []),
   (1, .invokevirtual 178, 124, 0, 11, 0, 0, [(0, 1), (0, 1)]),
   (4, .iload_n 1, 1, 0, 0, 0, 0, []),
   (5, .if_icmp .eq 5, 10, 0, 0, 0, 0, []),
   (8, .iconst 0, 0, 0, 0, 0, 0, []),
   (9, .ireturn, 0, 1, 0, 0, 0, []),
   (10, .aload_n 0, 0, 0, 0, 0, 0, []),
   (11, .dup, 0, 0, 0, 0, 0, []),
   (12, .getfield 172, 11, 36, 0, 0, 0, []),
   (15, .iconst 1, 0, 0, 0, 1, 0, []),
   (16, .iadd, 0, 0, 0, 0, 0, []),
   (17, .putfield 172, 11, 36, 0, 0, 0, []),
   (20, .iconst 1, 0, 0, 0, 1, 0, []),
   (21, .ireturn, 0, 1, 0, 0, 0, [])]]
def tb_X11_clause : List (List ax_Rw) := [
  [(0, .aload_n 0, 0, 0, 0, 0, 0, []),
   (1, .invokevirtual 182, 126, 0, 11, 0, 0, [(0, 5), (0, 1)]),
   (4, .istore_n 2, 2, 0, 0, 0, 0, []),
   (5, .iload_n 2, 2, 0, 0, 0, 0, []),
   (6, .ifCond .lt 12, 18, 0, 0, 0, 0, []),
   (9, .aload_n 0, 0, 0, 0, 0, 0, []),
   (10, .bipush 32, 0, 0, 0, 32, 0, []),
   (12, .invokevirtual 184, 128, 1, 11, 0, 0, [(0, 2), (0, 1)]),
   (15, .ifCond .ne 5, 20, 0, 0, 0, 0, []),
   (18, .iconst 0, 0, 0, 0, 0, 0, []),
   (19, .ireturn, 0, 1, 0, 0, 0, []),
   (20, .aload_n 0, 0, 0, 0, 0, 0, []),
   (21, .getfield 76, 11, 31, 0, 0, 0, []),
   (24, .iload_n 1, 1, 0, 0, 0, 0, []),
   (25, .iload_n 2, 2, 0, 0, 0, 0, []),
   (26, .iastore, 0, 0, 0, 0, 0, []),
   (27, .aload_n 0, 0, 0, 0, 0, 0, []),
   (28, .getfield 79, 11, 32, 0, 0, 0, []),
   (31, .iload_n 1, 1, 0, 0, 0, 0, [])],
  [(32, .iconst 0, 0, 0, 0, 0, 0, []),
   (33, .iastore, 0, 0, 0, 0, 0, []),
   (34, .iload_n 2, 2, 0, 0, 0, 0, []),
   (35, .iconst 3, 0, 0, 0, 3, 0, []),
   (36, .if_icmp .ne 56, 92, 0, 0, 0, 0, []),
   (39, .aload_n 0, 0, 0, 0, 0, 0, []),
   (40, .invokevirtual 178, 124, 0, 11, 0, 0, [(0, 1), (0, 1)]),
   (43, .i2l, 0, 0, 0, 0, 0, []),
   (44, .ldc2_w 186, 0, 0, 0, 0, 48, []),
   (47, .ldc2_w 188, 0, 0, 0, 0, 52, []),
   (50, .invokestatic 125, 108, 3, 11, 0, 0, [(0, 6), (0, 1)]),
   (53, .ifCond .ne 5, 58, 0, 0, 0, 0, []),
   (56, .iconst 0, 0, 0, 0, 0, 0, []),
   (57, .ireturn, 0, 1, 0, 0, 0, []),
   (58, .aload_n 0, 0, 0, 0, 0, 0, []),
   (59, .getfield 79, 11, 32, 0, 0, 0, []),
   (62, .iload_n 1, 1, 0, 0, 0, 0, []),
   (63, .aload_n 0, 0, 0, 0, 0, 0, [])],
  [(64, .invokevirtual 178, 124, 0, 11, 0, 0, [(0, 1), (0, 1)]),
   (67, .bipush 48, 0, 0, 0, 48, 0, []),
   (69, .isub, 0, 0, 0, 0, 0, []),
   (70, .iastore, 0, 0, 0, 0, 0, []),
   (71, .aload_n 0, 0, 0, 0, 0, 0, []),
   (72, .dup, 0, 0, 0, 0, 0, []),
   (73, .getfield 172, 11, 36, 0, 0, 0, []),
   (76, .iconst 1, 0, 0, 0, 1, 0, []),
   (77, .iadd, 0, 0, 0, 0, 0, []),
   (78, .putfield 172, 11, 36, 0, 0, 0, []),
   (81, .aload_n 0, 0, 0, 0, 0, 0, []),
   (82, .bipush 32, 0, 0, 0, 32, 0, []),
   (84, .invokevirtual 184, 128, 1, 11, 0, 0, [(0, 2), (0, 1)]),
   (87, .ifCond .ne 5, 92, 0, 0, 0, 0, []),
   (90, .iconst 0, 0, 0, 0, 0, 0, []),
   (91, .ireturn, 0, 1, 0, 0, 0, []),
   (92, .aload_n 0, 0, 0, 0, 0, 0, []),
   (93, .invokevirtual 178, 124, 0, 11, 0, 0, [(0, 1), (0, 1)])],
  [(96, .invokestatic 190, 127, 1, 11, 0, 0, [(0, 1), (0, 1)]),
   (99, .ifCond .ne 5, 104, 0, 0, 0, 0, []),
   (102, .iconst 0, 0, 0, 0, 0, 0, []),
   (103, .ireturn, 0, 1, 0, 0, 0, []),
   (104, .iconst 0, 0, 0, 0, 0, 0, []),
   (105, .istore_n 3, 3, 0, 0, 0, 0, []),
   (106, .iconst 0, 0, 0, 0, 0, 0, []),
   (107, .istore 4, 4, 0, 0, 0, 0, []),
   (109, .iload 4, 4, 0, 0, 0, 0, []),
   (111, .iconst 4, 0, 0, 0, 4, 0, []),
   (112, .if_icmp .ge 42, 154, 0, 0, 0, 0, []),
   (115, .aload_n 0, 0, 0, 0, 0, 0, []),
   (116, .invokevirtual 178, 124, 0, 11, 0, 0, [(0, 1), (0, 1)]),
   (119, .invokestatic 190, 127, 1, 11, 0, 0, [(0, 1), (0, 1)]),
   (122, .ifCond .eq 32, 154, 0, 0, 0, 0, []),
   (125, .bipush 10, 0, 0, 0, 10, 0, []),
   (127, .iload_n 3, 3, 0, 0, 0, 0, [])],
  [(128, .imul, 0, 0, 0, 0, 0, []),
   (129, .aload_n 0, 0, 0, 0, 0, 0, []),
   (130, .invokevirtual 178, 124, 0, 11, 0, 0, [(0, 1), (0, 1)]),
   (133, .iadd, 0, 0, 0, 0, 0, []),
   (134, .bipush 48, 0, 0, 0, 48, 0, []),
   (136, .isub, 0, 0, 0, 0, 0, []),
   (137, .istore_n 3, 3, 0, 0, 0, 0, []),
   (138, .aload_n 0, 0, 0, 0, 0, 0, []),
   (139, .dup, 0, 0, 0, 0, 0, []),
   (140, .getfield 172, 11, 36, 0, 0, 0, []),
   (143, .iconst 1, 0, 0, 0, 1, 0, []),
   (144, .iadd, 0, 0, 0, 0, 0, []),
   (145, .putfield 172, 11, 36, 0, 0, 0, []),
   (148, .iinc 4 1, 4, 0, 0, 1, 0, []),
   (151, .goto (-42), 109, 0, 0, 0, 0, []),
   (154, .aload_n 0, 0, 0, 0, 0, 0, []),
   (155, .getfield 82, 11, 33, 0, 0, 0, []),
   (158, .iload_n 1, 1, 0, 0, 0, 0, []),
   (159, .iload_n 3, 3, 0, 0, 0, 0, [])],
  [(160, .iastore, 0, 0, 0, 0, 0, []),
   (161, .iconst 1, 0, 0, 0, 1, 0, []),
   (162, .ireturn, 0, 1, 0, 0, 0, [])]]
def tb_X11_parses : List (List ax_Rw) := [
  [(0, .aload_n 0, 0, 0, 0, 0, 0, []),
   (1, .iconst 0, 0, 0, 0, 0, 0, []),
   (2, .putfield 172, 11, 36, 0, 0, 0, []),
   (5, .iconst 0, 0, 0, 0, 0, 0, []),
   (6, .istore_n 1, 1, 0, 0, 0, 0, []),
   (7, .iload_n 1, 1, 0, 0, 0, 0, []),
   (8, .bipush 6, 0, 0, 0, 6, 0, []),
   (10, .if_icmp .ge 50, 60, 0, 0, 0, 0, []),
   (13, .aload_n 0, 0, 0, 0, 0, 0, []),
   (14, .iload_n 1, 1, 0, 0, 0, 0, []),
   (15, .invokevirtual 193, 129, 1, 11, 0, 0, [(0, 5), (0, 1)]),
   (18, .ifCond .ne 5, 23, 0, 0, 0, 0, []),
   (21, .iconst 0, 0, 0, 0, 0, 0, []),
   (22, .ireturn, 0, 0, 0, 0, 0, []),
   (23, .aload_n 0, 0, 0, 0, 0, 0, []),
   (24, .getfield 172, 11, 36, 0, 0, 0, []),
   (27, .aload_n 0, 0, 0, 0, 0, 0, []),
   (28, .getfield 167, 11, 34, 0, 0, 0, []),
   (31, .if_icmp .ne 7, 38, 0, 0, 0, 0, [])],
  [(34, .iload_n 1, 1, 0, 0, 0, 0, []),
   (35, .iconst 1, 0, 0, 0, 1, 0, []),
   (36, .iadd, 0, 0, 0, 0, 0, []),
   (37, .ireturn, 0, 0, 0, 0, 0, []),
   (38, .iload_n 1, 1, 0, 0, 0, 0, []),
   (39, .iconst 5, 0, 0, 0, 5, 0, []),
   (40, .if_icmp .eq 12, 52, 0, 0, 0, 0, []),
   (43, .aload_n 0, 0, 0, 0, 0, 0, []),
   (44, .bipush 59, 0, 0, 0, 59, 0, []),
   (46, .invokevirtual 184, 128, 1, 11, 0, 0, [(0, 2), (0, 1)]),
   (49, .ifCond .ne 5, 54, 0, 0, 0, 0, []),
   (52, .iconst 0, 0, 0, 0, 0, 0, []),
   (53, .ireturn, 0, 0, 0, 0, 0, []),
   (54, .iinc 1 1, 1, 0, 0, 1, 0, []),
   (57, .goto (-50), 7, 0, 0, 0, 0, []),
   (60, .iconst 0, 0, 0, 0, 0, 0, []),
   (61, .ireturn, 0, 0, 0, 0, 0, [])]]
def tb_X11_law : List (List ax_Rw) := [
  [(0, .aload_n 0, 0, 0, 0, 0, 0, []),
   (1, .invokevirtual 196, 130, 0, 11, 0, 0, [(0, 2), (0, 1)]),
   (4, .istore_n 1, 1, 0, 0, 0, 0, []),
   (5, .aload_n 0, 0, 0, 0, 0, 0, []),
   (6, .iconst 0, 0, 0, 0, 0, 0, []),
   (7, .putfield 167, 11, 34, 0, 0, 0, []),
   (10, .iload_n 1, 1, 0, 0, 0, 0, []),
   (11, .ifCond .ne 11, 22, 0, 0, 0, 0, []),
   (14, .bipush (-10), 0, 0, 0, (-10), 0, []),
   (16, .aload_n 0, 0, 0, 0, 0, 0, []),
   (17, .getfield 172, 11, 36, 0, 0, 0, []),
   (20, .isub, 0, 0, 0, 0, 0, []),
   (21, .ireturn, 0, 0, 0, 0, 0, []),
   (22, .aload_n 0, 0, 0, 0, 0, 0, []),
   (23, .iload_n 1, 1, 0, 0, 0, 0, []),
   (24, .putfield 199, 11, 35, 0, 0, 0, []),
   (27, .iconst 0, 0, 0, 0, 0, 0, []),
   (28, .istore_n 2, 2, 0, 0, 0, 0, []),
   (29, .iload_n 2, 2, 0, 0, 0, 0, []),
   (30, .iload_n 1, 1, 0, 0, 0, 0, []),
   (31, .if_icmp .ge 45, 76, 0, 0, 0, 0, [])],
  [(34, .aload_n 0, 0, 0, 0, 0, 0, []),
   (35, .getfield 67, 11, 28, 0, 0, 0, []),
   (38, .iload_n 2, 2, 0, 0, 0, 0, []),
   (39, .aload_n 0, 0, 0, 0, 0, 0, []),
   (40, .getfield 76, 11, 31, 0, 0, 0, []),
   (43, .iload_n 2, 2, 0, 0, 0, 0, []),
   (44, .iaload, 0, 0, 0, 0, 0, []),
   (45, .iastore, 0, 0, 0, 0, 0, []),
   (46, .aload_n 0, 0, 0, 0, 0, 0, []),
   (47, .getfield 70, 11, 29, 0, 0, 0, []),
   (50, .iload_n 2, 2, 0, 0, 0, 0, []),
   (51, .aload_n 0, 0, 0, 0, 0, 0, []),
   (52, .getfield 79, 11, 32, 0, 0, 0, []),
   (55, .iload_n 2, 2, 0, 0, 0, 0, []),
   (56, .iaload, 0, 0, 0, 0, 0, []),
   (57, .iastore, 0, 0, 0, 0, 0, []),
   (58, .aload_n 0, 0, 0, 0, 0, 0, []),
   (59, .getfield 73, 11, 30, 0, 0, 0, []),
   (62, .iload_n 2, 2, 0, 0, 0, 0, []),
   (63, .aload_n 0, 0, 0, 0, 0, 0, [])],
  [(64, .getfield 82, 11, 33, 0, 0, 0, []),
   (67, .iload_n 2, 2, 0, 0, 0, 0, []),
   (68, .iaload, 0, 0, 0, 0, 0, []),
   (69, .iastore, 0, 0, 0, 0, 0, []),
   (70, .iinc 2 1, 2, 0, 0, 1, 0, []),
   (73, .goto (-44), 29, 0, 0, 0, 0, []),
   (76, .iload_n 1, 1, 0, 0, 0, 0, []),
   (77, .ireturn, 0, 0, 0, 0, 0, [])]]
def tb_X11_fareOf_0 : List ax_Rw :=
  [(0, .iconst 0, 0, 0, 0, 0, 0, []),
   (1, .istore 5, 5, 0, 0, 0, 0, []),
   (3, .ldc 202, 0, 0, 0, 99999, 0, []),
   (5, .istore 6, 6, 0, 0, 0, 0, []),
   (7, .iconst 0, 0, 0, 0, 0, 0, []),
   (8, .istore 7, 7, 0, 0, 0, 0, []),
   (10, .iload 7, 7, 0, 0, 0, 0, []),
   (12, .aload_n 0, 0, 0, 0, 0, 0, []),
   (13, .getfield 199, 11, 35, 0, 0, 0, []),
   (16, .if_icmp .ge 184, 200, 0, 0, 0, 0, []),
   (19, .aload_n 0, 0, 0, 0, 0, 0, []),
   (20, .getfield 73, 11, 30, 0, 0, 0, []),
   (23, .iload 7, 7, 0, 0, 0, 0, []),
   (25, .iaload, 0, 0, 0, 0, 0, []),
   (26, .istore 8, 8, 0, 0, 0, 0, []),
   (28, .aload_n 0, 0, 0, 0, 0, 0, []),
   (29, .getfield 67, 11, 28, 0, 0, 0, [])]
def tb_X11_fareOf_1 : List ax_Rw :=
  [(32, .iload 7, 7, 0, 0, 0, 0, []),
   (34, .iaload, 0, 0, 0, 0, 0, []),
   (35, .tableswitch 143 0 4 #[33, 43, 68, 94, 130], 178, 0, 0, 0, 0, [(0, 68), (1, 78), (2, 103), (3, 129), (4, 165)])]
def tb_X11_fareOf_2 : List ax_Rw :=
  [(68, .iload 5, 5, 0, 0, 0, 0, []),
   (70, .iload 8, 8, 0, 0, 0, 0, []),
   (72, .iadd, 0, 0, 0, 0, 0, []),
   (73, .istore 5, 5, 0, 0, 0, 0, []),
   (75, .goto 119, 194, 0, 0, 0, 0, []),
   (78, .iload 5, 5, 0, 0, 0, 0, []),
   (80, .iload 8, 8, 0, 0, 0, 0, []),
   (82, .iload_n 1, 1, 0, 0, 0, 0, []),
   (83, .iload_n 2, 2, 0, 0, 0, 0, []),
   (84, .if_icmp .ge 9, 93, 0, 0, 0, 0, []),
   (87, .iload_n 2, 2, 0, 0, 0, 0, []),
   (88, .iload_n 1, 1, 0, 0, 0, 0, []),
   (89, .isub, 0, 0, 0, 0, 0, []),
   (90, .goto 6, 96, 0, 0, 0, 0, []),
   (93, .iload_n 1, 1, 0, 0, 0, 0, []),
   (94, .iload_n 2, 2, 0, 0, 0, 0, []),
   (95, .isub, 0, 0, 0, 0, 0, [])]
def tb_X11_fareOf_3 : List ax_Rw :=
  [(96, .imul, 0, 0, 0, 0, 0, []),
   (97, .iadd, 0, 0, 0, 0, 0, []),
   (98, .istore 5, 5, 0, 0, 0, 0, []),
   (100, .goto 94, 194, 0, 0, 0, 0, []),
   (103, .iload 5, 5, 0, 0, 0, 0, []),
   (105, .iload_n 3, 3, 0, 0, 0, 0, []),
   (106, .bipush 6, 0, 0, 0, 6, 0, []),
   (108, .if_icmp .lt 9, 117, 0, 0, 0, 0, []),
   (111, .iload_n 3, 3, 0, 0, 0, 0, []),
   (112, .bipush 19, 0, 0, 0, 19, 0, []),
   (114, .if_icmp .le 8, 122, 0, 0, 0, 0, []),
   (117, .iload 8, 8, 0, 0, 0, 0, []),
   (119, .goto 4, 123, 0, 0, 0, 0, []),
   (122, .iconst 0, 0, 0, 0, 0, 0, []),
   (123, .iadd, 0, 0, 0, 0, 0, []),
   (124, .istore 5, 5, 0, 0, 0, 0, []),
   (126, .goto 68, 194, 0, 0, 0, 0, [])]
def tb_X11_fareOf_4 : List ax_Rw :=
  [(129, .iload 5, 5, 0, 0, 0, 0, []),
   (131, .iload_n 1, 1, 0, 0, 0, 0, []),
   (132, .aload_n 0, 0, 0, 0, 0, 0, []),
   (133, .getfield 70, 11, 29, 0, 0, 0, []),
   (136, .iload 7, 7, 0, 0, 0, 0, []),
   (138, .iaload, 0, 0, 0, 0, 0, []),
   (139, .if_icmp .eq 14, 153, 0, 0, 0, 0, []),
   (142, .iload_n 2, 2, 0, 0, 0, 0, []),
   (143, .aload_n 0, 0, 0, 0, 0, 0, []),
   (144, .getfield 70, 11, 29, 0, 0, 0, []),
   (147, .iload 7, 7, 0, 0, 0, 0, []),
   (149, .iaload, 0, 0, 0, 0, 0, []),
   (150, .if_icmp .ne 8, 158, 0, 0, 0, 0, []),
   (153, .iload 8, 8, 0, 0, 0, 0, []),
   (155, .goto 4, 159, 0, 0, 0, 0, []),
   (158, .iconst 0, 0, 0, 0, 0, 0, []),
   (159, .iadd, 0, 0, 0, 0, 0, [])]
def tb_X11_fareOf_5 : List ax_Rw :=
  [(160, .istore 5, 5, 0, 0, 0, 0, []),
   (162, .goto 32, 194, 0, 0, 0, 0, []),
   (165, .iload 5, 5, 0, 0, 0, 0, []),
   (167, .iload 8, 8, 0, 0, 0, 0, []),
   (169, .iload 4, 4, 0, 0, 0, 0, []),
   (171, .imul, 0, 0, 0, 0, 0, []),
   (172, .iadd, 0, 0, 0, 0, 0, []),
   (173, .istore 5, 5, 0, 0, 0, 0, []),
   (175, .goto 19, 194, 0, 0, 0, 0, []),
   (178, .iload 8, 8, 0, 0, 0, 0, []),
   (180, .iload 6, 6, 0, 0, 0, 0, []),
   (182, .if_icmp .ge 8, 190, 0, 0, 0, 0, []),
   (185, .iload 8, 8, 0, 0, 0, 0, []),
   (187, .goto 5, 192, 0, 0, 0, 0, []),
   (190, .iload 6, 6, 0, 0, 0, 0, [])]
def tb_X11_fareOf_6 : List ax_Rw :=
  [(192, .istore 6, 6, 0, 0, 0, 0, []),
   (194, .iinc 7 1, 7, 0, 0, 1, 0, []),
   (197, .goto (-187), 10, 0, 0, 0, 0, []),
   (200, .iload 6, 6, 0, 0, 0, 0, []),
   (202, .iload 5, 5, 0, 0, 0, 0, []),
   (204, .if_icmp .ge 8, 212, 0, 0, 0, 0, []),
   (207, .iload 6, 6, 0, 0, 0, 0, []),
   (209, .goto 5, 214, 0, 0, 0, 0, []),
   (212, .iload 5, 5, 0, 0, 0, 0, []),
   (214, .ireturn, 0, 0, 0, 0, 0, [])]
def tb_X11_fareOf : List (List ax_Rw) := [tb_X11_fareOf_0, tb_X11_fareOf_1, tb_X11_fareOf_2, tb_X11_fareOf_3, tb_X11_fareOf_4, tb_X11_fareOf_5, tb_X11_fareOf_6]
def tb_X11_fare : List (List ax_Rw) := [
  [(0, .iload_n 1, 1, 0, 0, 0, 0, []),
   (1, .invokestatic 203, 111, 1, 11, 0, 0, [(0, 1), (0, 1)]),
   (4, .ifCond .eq 10, 14, 0, 0, 0, 0, []),
   (7, .iload_n 2, 2, 0, 0, 0, 0, []),
   (8, .invokestatic 203, 111, 1, 11, 0, 0, [(0, 1), (0, 1)]),
   (11, .ifCond .ne 5, 16, 0, 0, 0, 0, []),
   (14, .iconst (-1), 0, 0, 0, (-1), 0, []),
   (15, .ireturn, 0, 0, 0, 0, 0, []),
   (16, .iload_n 3, 3, 0, 0, 0, 0, []),
   (17, .i2l, 0, 0, 0, 0, 0, []),
   (18, .lconst 0, 0, 0, 0, 0, 0, []),
   (19, .ldc2_w 206, 0, 0, 0, 0, 23, []),
   (22, .invokestatic 125, 108, 3, 11, 0, 0, [(0, 6), (0, 1)]),
   (25, .ifCond .eq 28, 53, 0, 0, 0, 0, []),
   (28, .iload 4, 4, 0, 0, 0, 0, []),
   (30, .i2l, 0, 0, 0, 0, 0, []),
   (31, .lconst 0, 0, 0, 0, 0, 0, [])],
  [(32, .ldc2_w 208, 0, 0, 0, 0, 9, []),
   (35, .invokestatic 125, 108, 3, 11, 0, 0, [(0, 6), (0, 1)]),
   (38, .ifCond .eq 15, 53, 0, 0, 0, 0, []),
   (41, .aload_n 0, 0, 0, 0, 0, 0, []),
   (42, .iload_n 1, 1, 0, 0, 0, 0, []),
   (43, .iload_n 2, 2, 0, 0, 0, 0, []),
   (44, .iload_n 3, 3, 0, 0, 0, 0, []),
   (45, .iload 4, 4, 0, 0, 0, 0, []),
   (47, .invokevirtual 210, 132, 4, 11, 0, 0, [(0, 9), (0, 1)]),
   (50, .goto 5, 55, 0, 0, 0, 0, []),
   (53, .bipush (-2), 0, 0, 0, (-2), 0, []),
   (55, .ireturn, 0, 0, 0, 0, 0, [])]]
def tb_X11_ask : List (List ax_Rw) := [
  [(0, .iload_n 1, 1, 0, 0, 0, 0, []),
   (1, .i2l, 0, 0, 0, 0, 0, []),
   (2, .lconst 0, 0, 0, 0, 0, 0, []),
   (3, .ldc2_w 206, 0, 0, 0, 0, 23, []),
   (6, .invokestatic 125, 108, 3, 11, 0, 0, [(0, 6), (0, 1)]),
   (9, .ifCond .eq 10, 19, 0, 0, 0, 0, []),
   (12, .iload_n 2, 2, 0, 0, 0, 0, []),
   (13, .invokestatic 203, 111, 1, 11, 0, 0, [(0, 1), (0, 1)]),
   (16, .ifCond .ne 5, 21, 0, 0, 0, 0, []),
   (19, .iconst (-1), 0, 0, 0, (-1), 0, []),
   (20, .ireturn, 0, 0, 0, 0, 0, []),
   (21, .iload_n 3, 3, 0, 0, 0, 0, []),
   (22, .i2l, 0, 0, 0, 0, 0, []),
   (23, .lconst 0, 0, 0, 0, 0, 0, []),
   (24, .ldc2_w 214, 0, 0, 0, 0, 20, []),
   (27, .invokestatic 125, 108, 3, 11, 0, 0, [(0, 6), (0, 1)]),
   (30, .ifCond .ne 6, 36, 0, 0, 0, 0, [])],
  [(33, .bipush (-2), 0, 0, 0, (-2), 0, []),
   (35, .ireturn, 0, 0, 0, 0, 0, []),
   (36, .aload_n 0, 0, 0, 0, 0, 0, []),
   (37, .getfield 52, 11, 21, 0, 0, 0, []),
   (40, .iconst 5, 0, 0, 0, 5, 0, []),
   (41, .iload_n 1, 1, 0, 0, 0, 0, []),
   (42, .imul, 0, 0, 0, 0, 0, []),
   (43, .iload_n 2, 2, 0, 0, 0, 0, []),
   (44, .iadd, 0, 0, 0, 0, 0, []),
   (45, .iaload, 0, 0, 0, 0, 0, []),
   (46, .istore 4, 4, 0, 0, 0, 0, []),
   (48, .aload_n 0, 0, 0, 0, 0, 0, []),
   (49, .getfield 52, 11, 21, 0, 0, 0, []),
   (52, .iconst 5, 0, 0, 0, 5, 0, []),
   (53, .iload_n 1, 1, 0, 0, 0, 0, []),
   (54, .imul, 0, 0, 0, 0, 0, []),
   (55, .iload_n 2, 2, 0, 0, 0, 0, []),
   (56, .iadd, 0, 0, 0, 0, 0, []),
   (57, .iload_n 3, 3, 0, 0, 0, 0, []),
   (58, .iastore, 0, 0, 0, 0, 0, []),
   (59, .iload 4, 4, 0, 0, 0, 0, []),
   (61, .ireturn, 0, 0, 0, 0, 0, [])]]
def tb_X11_mayStand : List (List ax_Rw) := [
  [(0, .aload_n 0, 0, 0, 0, 0, 0, []),
   (1, .getfield 7, 11, 0, 0, 0, 0, []),
   (4, .iload_n 1, 1, 0, 0, 0, 0, []),
   (5, .iaload, 0, 0, 0, 0, 0, []),
   (6, .iconst 3, 0, 0, 0, 3, 0, []),
   (7, .if_icmp .ne 8, 15, 0, 0, 0, 0, []),
   (10, .iload_n 2, 2, 0, 0, 0, 0, []),
   (11, .iconst 1, 0, 0, 0, 1, 0, []),
   (12, .if_icmp .le 7, 19, 0, 0, 0, 0, []),
   (15, .iconst 1, 0, 0, 0, 1, 0, []),
   (16, .goto 4, 20, 0, 0, 0, 0, []),
   (19, .iconst 0, 0, 0, 0, 0, 0, []),
   (20, .ireturn, 0, 1, 0, 0, 0, [])]]
def tb_X11_stand : List (List ax_Rw) := [
  [(0, .aload_n 0, 0, 0, 0, 0, 0, []),
   (1, .iload_n 1, 1, 0, 0, 0, 0, []),
   (2, .invokevirtual 139, 109, 1, 11, 0, 0, [(0, 2), (0, 1)]),
   (5, .ifCond .eq 15, 20, 0, 0, 0, 0, []),
   (8, .iload_n 2, 2, 0, 0, 0, 0, []),
   (9, .iconst (-1), 0, 0, 0, (-1), 0, []),
   (10, .if_icmp .eq 13, 23, 0, 0, 0, 0, []),
   (13, .iload_n 2, 2, 0, 0, 0, 0, []),
   (14, .invokestatic 203, 111, 1, 11, 0, 0, [(0, 1), (0, 1)]),
   (17, .ifCond .ne 6, 23, 0, 0, 0, 0, []),
   (20, .bipush (-5), 0, 0, 0, (-5), 0, []),
   (22, .ireturn, 0, 0, 0, 0, 0, []),
   (23, .iload_n 2, 2, 0, 0, 0, 0, []),
   (24, .ifCond .lt 15, 39, 0, 0, 0, 0, []),
   (27, .aload_n 0, 0, 0, 0, 0, 0, []),
   (28, .iload_n 1, 1, 0, 0, 0, 0, []),
   (29, .iload_n 2, 2, 0, 0, 0, 0, []),
   (30, .invokevirtual 216, 135, 2, 11, 0, 0, [(0, 3), (0, 1)])],
  [(33, .ifCond .ne 6, 39, 0, 0, 0, 0, []),
   (36, .bipush (-3), 0, 0, 0, (-3), 0, []),
   (38, .ireturn, 0, 0, 0, 0, 0, []),
   (39, .aload_n 0, 0, 0, 0, 0, 0, []),
   (40, .getfield 31, 11, 9, 0, 0, 0, []),
   (43, .bipush 24, 0, 0, 0, 24, 0, []),
   (45, .iload_n 1, 1, 0, 0, 0, 0, []),
   (46, .iadd, 0, 0, 0, 0, 0, []),
   (47, .iaload, 0, 0, 0, 0, 0, []),
   (48, .istore_n 3, 3, 0, 0, 0, 0, []),
   (49, .aload_n 0, 0, 0, 0, 0, 0, []),
   (50, .getfield 31, 11, 9, 0, 0, 0, []),
   (53, .bipush 24, 0, 0, 0, 24, 0, []),
   (55, .iload_n 1, 1, 0, 0, 0, 0, []),
   (56, .iadd, 0, 0, 0, 0, 0, []),
   (57, .iload_n 2, 2, 0, 0, 0, 0, []),
   (58, .iastore, 0, 0, 0, 0, 0, []),
   (59, .iload_n 3, 3, 0, 0, 0, 0, []),
   (60, .ireturn, 0, 0, 0, 0, 0, [])]]
def tb_X11_waiting : List (List ax_Rw) := [
  [(0, .aload_n 0, 0, 0, 0, 0, 0, []),
   (1, .getfield 31, 11, 9, 0, 0, 0, []),
   (4, .bipush 68, 0, 0, 0, 68, 0, []),
   (6, .iconst 3, 0, 0, 0, 3, 0, []),
   (7, .iload_n 1, 1, 0, 0, 0, 0, []),
   (8, .imul, 0, 0, 0, 0, 0, []),
   (9, .iadd, 0, 0, 0, 0, 0, []),
   (10, .iaload, 0, 0, 0, 0, 0, []),
   (11, .aload_n 0, 0, 0, 0, 0, 0, []),
   (12, .getfield 31, 11, 9, 0, 0, 0, []),
   (15, .bipush 68, 0, 0, 0, 68, 0, []),
   (17, .iconst 3, 0, 0, 0, 3, 0, []),
   (18, .iload_n 1, 1, 0, 0, 0, 0, []),
   (19, .imul, 0, 0, 0, 0, 0, []),
   (20, .iadd, 0, 0, 0, 0, 0, []),
   (21, .iconst 1, 0, 0, 0, 1, 0, []),
   (22, .iadd, 0, 0, 0, 0, 0, []),
   (23, .iaload, 0, 0, 0, 0, 0, []),
   (24, .iadd, 0, 0, 0, 0, 0, []),
   (25, .aload_n 0, 0, 0, 0, 0, 0, []),
   (26, .getfield 31, 11, 9, 0, 0, 0, []),
   (29, .bipush 68, 0, 0, 0, 68, 0, []),
   (31, .iconst 3, 0, 0, 0, 3, 0, [])],
  [(32, .iload_n 1, 1, 0, 0, 0, 0, []),
   (33, .imul, 0, 0, 0, 0, 0, []),
   (34, .iadd, 0, 0, 0, 0, 0, []),
   (35, .iconst 2, 0, 0, 0, 2, 0, []),
   (36, .iadd, 0, 0, 0, 0, 0, []),
   (37, .iaload, 0, 0, 0, 0, 0, []),
   (38, .iadd, 0, 0, 0, 0, 0, []),
   (39, .ireturn, 0, 0, 0, 0, 0, [])]]
def tb_X11_runs : List (List ax_Rw) := [
  [(0, .aload_n 0, 0, 0, 0, 0, 0, []),
   (1, .getfield 31, 11, 9, 0, 0, 0, []),
   (4, .bipush 24, 0, 0, 0, 24, 0, []),
   (6, .iload_n 1, 1, 0, 0, 0, 0, []),
   (7, .iadd, 0, 0, 0, 0, 0, []),
   (8, .iaload, 0, 0, 0, 0, 0, []),
   (9, .ifCond .ge 7, 16, 0, 0, 0, 0, []),
   (12, .iconst (-1), 0, 0, 0, (-1), 0, []),
   (13, .goto 33, 46, 0, 0, 0, 0, []),
   (16, .aload_n 0, 0, 0, 0, 0, 0, []),
   (17, .iload_n 1, 1, 0, 0, 0, 0, []),
   (18, .aload_n 0, 0, 0, 0, 0, 0, []),
   (19, .getfield 220, 11, 14, 0, 0, 0, []),
   (22, .bipush 24, 0, 0, 0, 24, 0, []),
   (24, .irem, 0, 0, 0, 0, 0, []),
   (25, .i2l, 0, 0, 0, 0, 0, []),
   (26, .ldc2_w 223, 0, 0, 0, 0, 4, []),
   (29, .ldc2_w 225, 0, 0, 0, 0, 15, [])],
  [(32, .invokestatic 125, 108, 3, 11, 0, 0, [(0, 6), (0, 1)]),
   (35, .ifCond .eq 7, 42, 0, 0, 0, 0, []),
   (38, .iconst 0, 0, 0, 0, 0, 0, []),
   (39, .goto 4, 43, 0, 0, 0, 0, []),
   (42, .iconst 1, 0, 0, 0, 1, 0, []),
   (43, .invokevirtual 146, 115, 2, 11, 0, 0, [(0, 3), (0, 1)]),
   (46, .ireturn, 0, 0, 0, 0, 0, [])]]
def tb_X11_takesOne_0 : List ax_Rw :=
  [(0, .aload_n 0, 0, 0, 0, 0, 0, []),
   (1, .getfield 31, 11, 9, 0, 0, 0, []),
   (4, .bipush 24, 0, 0, 0, 24, 0, []),
   (6, .iload_n 1, 1, 0, 0, 0, 0, []),
   (7, .iadd, 0, 0, 0, 0, 0, []),
   (8, .iaload, 0, 0, 0, 0, 0, []),
   (9, .istore 4, 4, 0, 0, 0, 0, []),
   (11, .iconst 2, 0, 0, 0, 2, 0, []),
   (12, .istore 5, 5, 0, 0, 0, 0, []),
   (14, .aload_n 0, 0, 0, 0, 0, 0, []),
   (15, .getfield 31, 11, 9, 0, 0, 0, []),
   (18, .bipush 68, 0, 0, 0, 68, 0, []),
   (20, .iconst 3, 0, 0, 0, 3, 0, []),
   (21, .iload 4, 4, 0, 0, 0, 0, []),
   (23, .imul, 0, 0, 0, 0, 0, []),
   (24, .iadd, 0, 0, 0, 0, 0, []),
   (25, .iload 5, 5, 0, 0, 0, 0, []),
   (27, .iadd, 0, 0, 0, 0, 0, []),
   (28, .iaload, 0, 0, 0, 0, 0, []),
   (29, .ifCond .ne 9, 38, 0, 0, 0, 0, [])]
def tb_X11_takesOne_1 : List ax_Rw :=
  [(32, .iinc 5 (-1), 5, 0, 0, (-1), 0, []),
   (35, .goto (-21), 14, 0, 0, 0, 0, []),
   (38, .aload_n 0, 0, 0, 0, 0, 0, []),
   (39, .getfield 31, 11, 9, 0, 0, 0, []),
   (42, .bipush 68, 0, 0, 0, 68, 0, []),
   (44, .iconst 3, 0, 0, 0, 3, 0, []),
   (45, .iload 4, 4, 0, 0, 0, 0, []),
   (47, .imul, 0, 0, 0, 0, 0, []),
   (48, .iadd, 0, 0, 0, 0, 0, []),
   (49, .iload 5, 5, 0, 0, 0, 0, []),
   (51, .iadd, 0, 0, 0, 0, 0, []),
   (52, .dup2, 0, 0, 0, 0, 0, []),
   (53, .iaload, 0, 0, 0, 0, 0, []),
   (54, .iconst 1, 0, 0, 0, 1, 0, []),
   (55, .isub, 0, 0, 0, 0, 0, []),
   (56, .iastore, 0, 0, 0, 0, 0, []),
   (57, .iload 4, 4, 0, 0, 0, 0, []),
   (59, .iconst 1, 0, 0, 0, 1, 0, []),
   (60, .iadd, 0, 0, 0, 0, 0, []),
   (61, .aload_n 0, 0, 0, 0, 0, 0, []),
   (62, .getfield 31, 11, 9, 0, 0, 0, [])]
def tb_X11_takesOne_2 : List ax_Rw :=
  [(65, .bipush 83, 0, 0, 0, 83, 0, []),
   (67, .iload 4, 4, 0, 0, 0, 0, []),
   (69, .iadd, 0, 0, 0, 0, 0, []),
   (70, .iaload, 0, 0, 0, 0, 0, []),
   (71, .iconst 5, 0, 0, 0, 5, 0, []),
   (72, .irem, 0, 0, 0, 0, 0, []),
   (73, .iadd, 0, 0, 0, 0, 0, []),
   (74, .iconst 5, 0, 0, 0, 5, 0, []),
   (75, .irem, 0, 0, 0, 0, 0, []),
   (76, .istore 6, 6, 0, 0, 0, 0, []),
   (78, .aload_n 0, 0, 0, 0, 0, 0, []),
   (79, .getfield 31, 11, 9, 0, 0, 0, []),
   (82, .bipush 83, 0, 0, 0, 83, 0, []),
   (84, .iload 4, 4, 0, 0, 0, 0, []),
   (86, .iadd, 0, 0, 0, 0, 0, []),
   (87, .dup2, 0, 0, 0, 0, 0, []),
   (88, .iaload, 0, 0, 0, 0, 0, []),
   (89, .iconst 1, 0, 0, 0, 1, 0, []),
   (90, .iadd, 0, 0, 0, 0, 0, []),
   (91, .iastore, 0, 0, 0, 0, 0, []),
   (92, .aload_n 0, 0, 0, 0, 0, 0, []),
   (93, .iload 4, 4, 0, 0, 0, 0, []),
   (95, .iload 6, 6, 0, 0, 0, 0, [])]
def tb_X11_takesOne_3 : List ax_Rw :=
  [(97, .aload_n 0, 0, 0, 0, 0, 0, []),
   (98, .getfield 220, 11, 14, 0, 0, 0, []),
   (101, .bipush 24, 0, 0, 0, 24, 0, []),
   (103, .irem, 0, 0, 0, 0, 0, []),
   (104, .iload 5, 5, 0, 0, 0, 0, []),
   (106, .invokevirtual 210, 132, 4, 11, 0, 0, [(0, 9), (0, 1)]),
   (109, .istore 7, 7, 0, 0, 0, 0, []),
   (111, .aload_n 0, 0, 0, 0, 0, 0, []),
   (112, .getfield 31, 11, 9, 0, 0, 0, []),
   (115, .bipush 12, 0, 0, 0, 12, 0, []),
   (117, .iload_n 1, 1, 0, 0, 0, 0, []),
   (118, .iadd, 0, 0, 0, 0, 0, []),
   (119, .dup2, 0, 0, 0, 0, 0, []),
   (120, .iaload, 0, 0, 0, 0, 0, []),
   (121, .iload 7, 7, 0, 0, 0, 0, []),
   (123, .iadd, 0, 0, 0, 0, 0, []),
   (124, .iastore, 0, 0, 0, 0, 0, []),
   (125, .aload_n 0, 0, 0, 0, 0, 0, []),
   (126, .getfield 31, 11, 9, 0, 0, 0, [])]
def tb_X11_takesOne_4 : List ax_Rw :=
  [(129, .bipush 52, 0, 0, 0, 52, 0, []),
   (131, .iload_n 2, 2, 0, 0, 0, 0, []),
   (132, .iadd, 0, 0, 0, 0, 0, []),
   (133, .dup2, 0, 0, 0, 0, 0, []),
   (134, .iaload, 0, 0, 0, 0, 0, []),
   (135, .iload 7, 7, 0, 0, 0, 0, []),
   (137, .iadd, 0, 0, 0, 0, 0, []),
   (138, .iastore, 0, 0, 0, 0, 0, []),
   (139, .aload_n 0, 0, 0, 0, 0, 0, []),
   (140, .getfield 31, 11, 9, 0, 0, 0, []),
   (143, .bipush 24, 0, 0, 0, 24, 0, []),
   (145, .iload_n 1, 1, 0, 0, 0, 0, []),
   (146, .iadd, 0, 0, 0, 0, 0, []),
   (147, .aload_n 0, 0, 0, 0, 0, 0, []),
   (148, .iload_n 1, 1, 0, 0, 0, 0, []),
   (149, .iload 6, 6, 0, 0, 0, 0, []),
   (151, .invokevirtual 216, 135, 2, 11, 0, 0, [(0, 3), (0, 1)]),
   (154, .ifCond .eq 8, 162, 0, 0, 0, 0, []),
   (157, .iload 6, 6, 0, 0, 0, 0, []),
   (159, .goto 4, 163, 0, 0, 0, 0, [])]
def tb_X11_takesOne_5 : List ax_Rw :=
  [(162, .iconst 2, 0, 0, 0, 2, 0, []),
   (163, .iastore, 0, 0, 0, 0, 0, []),
   (164, .aload_n 0, 0, 0, 0, 0, 0, []),
   (165, .dup, 0, 0, 0, 0, 0, []),
   (166, .getfield 227, 11, 11, 0, 0, 0, []),
   (169, .iconst 1, 0, 0, 0, 1, 0, []),
   (170, .iadd, 0, 0, 0, 0, 0, []),
   (171, .putfield 227, 11, 11, 0, 0, 0, []),
   (174, .iload_n 3, 3, 0, 0, 0, 0, []),
   (175, .ifCond .eq 13, 188, 0, 0, 0, 0, []),
   (178, .aload_n 0, 0, 0, 0, 0, 0, []),
   (179, .getfield 230, 11, 15, 0, 0, 0, []),
   (182, .sipush 300, 0, 0, 0, 300, 0, []),
   (185, .if_icmp .ne 4, 189, 0, 0, 0, 0, []),
   (188, .return_, 0, 0, 0, 0, 0, []),
   (189, .aload_n 0, 0, 0, 0, 0, 0, []),
   (190, .getfield 37, 11, 16, 0, 0, 0, [])]
def tb_X11_takesOne_6 : List ax_Rw :=
  [(193, .aload_n 0, 0, 0, 0, 0, 0, []),
   (194, .getfield 230, 11, 15, 0, 0, 0, []),
   (197, .aload_n 0, 0, 0, 0, 0, 0, []),
   (198, .getfield 220, 11, 14, 0, 0, 0, []),
   (201, .iastore, 0, 0, 0, 0, 0, []),
   (202, .aload_n 0, 0, 0, 0, 0, 0, []),
   (203, .getfield 40, 11, 17, 0, 0, 0, []),
   (206, .aload_n 0, 0, 0, 0, 0, 0, []),
   (207, .getfield 230, 11, 15, 0, 0, 0, []),
   (210, .iload_n 1, 1, 0, 0, 0, 0, []),
   (211, .iastore, 0, 0, 0, 0, 0, []),
   (212, .aload_n 0, 0, 0, 0, 0, 0, []),
   (213, .getfield 43, 11, 18, 0, 0, 0, []),
   (216, .aload_n 0, 0, 0, 0, 0, 0, []),
   (217, .getfield 230, 11, 15, 0, 0, 0, []),
   (220, .iload 4, 4, 0, 0, 0, 0, []),
   (222, .iastore, 0, 0, 0, 0, 0, []),
   (223, .aload_n 0, 0, 0, 0, 0, 0, [])]
def tb_X11_takesOne_7 : List ax_Rw :=
  [(224, .getfield 46, 11, 19, 0, 0, 0, []),
   (227, .aload_n 0, 0, 0, 0, 0, 0, []),
   (228, .getfield 230, 11, 15, 0, 0, 0, []),
   (231, .iload 6, 6, 0, 0, 0, 0, []),
   (233, .iastore, 0, 0, 0, 0, 0, []),
   (234, .aload_n 0, 0, 0, 0, 0, 0, []),
   (235, .getfield 49, 11, 20, 0, 0, 0, []),
   (238, .aload_n 0, 0, 0, 0, 0, 0, []),
   (239, .getfield 230, 11, 15, 0, 0, 0, []),
   (242, .iload 7, 7, 0, 0, 0, 0, []),
   (244, .iastore, 0, 0, 0, 0, 0, []),
   (245, .aload_n 0, 0, 0, 0, 0, 0, []),
   (246, .dup, 0, 0, 0, 0, 0, []),
   (247, .getfield 230, 11, 15, 0, 0, 0, []),
   (250, .iconst 1, 0, 0, 0, 1, 0, []),
   (251, .iadd, 0, 0, 0, 0, 0, []),
   (252, .putfield 230, 11, 15, 0, 0, 0, []),
   (255, .return_, 0, 0, 0, 0, 0, [])]
def tb_X11_takesOne : List (List ax_Rw) := [tb_X11_takesOne_0, tb_X11_takesOne_1, tb_X11_takesOne_2, tb_X11_takesOne_3, tb_X11_takesOne_4, tb_X11_takesOne_5, tb_X11_takesOne_6, tb_X11_takesOne_7]
def tb_X11_roams : List (List ax_Rw) := [
  [(0, .aload_n 0, 0, 0, 0, 0, 0, []),
   (1, .getfield 31, 11, 9, 0, 0, 0, []),
   (4, .bipush 24, 0, 0, 0, 24, 0, []),
   (6, .iload_n 1, 1, 0, 0, 0, 0, []),
   (7, .iadd, 0, 0, 0, 0, 0, []),
   (8, .iaload, 0, 0, 0, 0, 0, []),
   (9, .istore_n 2, 2, 0, 0, 0, 0, []),
   (10, .aload_n 0, 0, 0, 0, 0, 0, []),
   (11, .iload_n 2, 2, 0, 0, 0, 0, []),
   (12, .invokevirtual 233, 137, 1, 11, 0, 0, [(0, 2), (0, 1)]),
   (15, .istore_n 3, 3, 0, 0, 0, 0, []),
   (16, .iconst (-1), 0, 0, 0, (-1), 0, []),
   (17, .istore 4, 4, 0, 0, 0, 0, []),
   (19, .iconst 0, 0, 0, 0, 0, 0, []),
   (20, .istore 5, 5, 0, 0, 0, 0, []),
   (22, .iload 5, 5, 0, 0, 0, 0, []),
   (24, .iconst 5, 0, 0, 0, 5, 0, []),
   (25, .if_icmp .ge 56, 81, 0, 0, 0, 0, []),
   (28, .aload_n 0, 0, 0, 0, 0, 0, []),
   (29, .iload_n 1, 1, 0, 0, 0, 0, []),
   (30, .iload 5, 5, 0, 0, 0, 0, [])],
  [(32, .invokevirtual 216, 135, 2, 11, 0, 0, [(0, 3), (0, 1)]),
   (35, .ifCond .eq 40, 75, 0, 0, 0, 0, []),
   (38, .aload_n 0, 0, 0, 0, 0, 0, []),
   (39, .iload 5, 5, 0, 0, 0, 0, []),
   (41, .invokevirtual 233, 137, 1, 11, 0, 0, [(0, 2), (0, 1)]),
   (44, .iload_n 3, 3, 0, 0, 0, 0, []),
   (45, .if_icmp .gt 6, 51, 0, 0, 0, 0, []),
   (48, .goto 27, 75, 0, 0, 0, 0, []),
   (51, .iload 4, 4, 0, 0, 0, 0, []),
   (53, .ifCond .lt 18, 71, 0, 0, 0, 0, []),
   (56, .aload_n 0, 0, 0, 0, 0, 0, []),
   (57, .iload 5, 5, 0, 0, 0, 0, []),
   (59, .invokevirtual 233, 137, 1, 11, 0, 0, [(0, 2), (0, 1)]),
   (62, .aload_n 0, 0, 0, 0, 0, 0, []),
   (63, .iload 4, 4, 0, 0, 0, 0, [])],
  [(65, .invokevirtual 233, 137, 1, 11, 0, 0, [(0, 2), (0, 1)]),
   (68, .if_icmp .le 7, 75, 0, 0, 0, 0, []),
   (71, .iload 5, 5, 0, 0, 0, 0, []),
   (73, .istore 4, 4, 0, 0, 0, 0, []),
   (75, .iinc 5 1, 5, 0, 0, 1, 0, []),
   (78, .goto (-56), 22, 0, 0, 0, 0, []),
   (81, .iload 4, 4, 0, 0, 0, 0, []),
   (83, .ifCond .lt 14, 97, 0, 0, 0, 0, []),
   (86, .aload_n 0, 0, 0, 0, 0, 0, []),
   (87, .getfield 31, 11, 9, 0, 0, 0, []),
   (90, .bipush 24, 0, 0, 0, 24, 0, []),
   (92, .iload_n 1, 1, 0, 0, 0, 0, []),
   (93, .iadd, 0, 0, 0, 0, 0, []),
   (94, .iload 4, 4, 0, 0, 0, 0, [])],
  [(96, .iastore, 0, 0, 0, 0, 0, []),
   (97, .return_, 0, 0, 0, 0, 0, [])]]
def tb_X11_goesBy_0 : List ax_Rw :=
  [(0, .iconst 0, 0, 0, 0, 0, 0, []),
   (1, .istore_n 2, 2, 0, 0, 0, 0, []),
   (2, .iload_n 2, 2, 0, 0, 0, 0, []),
   (3, .iconst 5, 0, 0, 0, 5, 0, []),
   (4, .if_icmp .ge 39, 43, 0, 0, 0, 0, []),
   (7, .aload_n 0, 0, 0, 0, 0, 0, []),
   (8, .getfield 31, 11, 9, 0, 0, 0, []),
   (11, .bipush 68, 0, 0, 0, 68, 0, []),
   (13, .iconst 3, 0, 0, 0, 3, 0, []),
   (14, .iload_n 2, 2, 0, 0, 0, 0, []),
   (15, .imul, 0, 0, 0, 0, 0, []),
   (16, .iadd, 0, 0, 0, 0, 0, []),
   (17, .dup2, 0, 0, 0, 0, 0, []),
   (18, .iaload, 0, 0, 0, 0, 0, []),
   (19, .aload_n 0, 0, 0, 0, 0, 0, []),
   (20, .getfield 52, 11, 21, 0, 0, 0, []),
   (23, .iconst 5, 0, 0, 0, 5, 0, []),
   (24, .aload_n 0, 0, 0, 0, 0, 0, []),
   (25, .getfield 220, 11, 14, 0, 0, 0, []),
   (28, .bipush 24, 0, 0, 0, 24, 0, []),
   (30, .irem, 0, 0, 0, 0, 0, []),
   (31, .imul, 0, 0, 0, 0, 0, [])]
def tb_X11_goesBy_1 : List ax_Rw :=
  [(32, .iload_n 2, 2, 0, 0, 0, 0, []),
   (33, .iadd, 0, 0, 0, 0, 0, []),
   (34, .iaload, 0, 0, 0, 0, 0, []),
   (35, .iadd, 0, 0, 0, 0, 0, []),
   (36, .iastore, 0, 0, 0, 0, 0, []),
   (37, .iinc 2 1, 2, 0, 0, 1, 0, []),
   (40, .goto (-38), 2, 0, 0, 0, 0, []),
   (43, .iconst 0, 0, 0, 0, 0, 0, []),
   (44, .istore_n 2, 2, 0, 0, 0, 0, []),
   (45, .iload_n 2, 2, 0, 0, 0, 0, []),
   (46, .aload_n 0, 0, 0, 0, 0, 0, []),
   (47, .getfield 116, 11, 7, 0, 0, 0, []),
   (50, .if_icmp .ge 95, 145, 0, 0, 0, 0, []),
   (53, .aload_n 0, 0, 0, 0, 0, 0, []),
   (54, .iload_n 2, 2, 0, 0, 0, 0, []),
   (55, .invokevirtual 237, 138, 1, 11, 0, 0, [(0, 2), (0, 1)]),
   (58, .istore_n 3, 3, 0, 0, 0, 0, []),
   (59, .aload_n 0, 0, 0, 0, 0, 0, []),
   (60, .getfield 85, 11, 37, 0, 0, 0, []),
   (63, .iload_n 2, 2, 0, 0, 0, 0, [])]
def tb_X11_goesBy_2 : List ax_Rw :=
  [(64, .iconst 0, 0, 0, 0, 0, 0, []),
   (65, .bastore, 0, 0, 0, 0, 0, []),
   (66, .iload_n 3, 3, 0, 0, 0, 0, []),
   (67, .ifCond .ge 6, 73, 0, 0, 0, 0, []),
   (70, .goto 69, 139, 0, 0, 0, 0, []),
   (73, .aload_n 0, 0, 0, 0, 0, 0, []),
   (74, .getfield 31, 11, 9, 0, 0, 0, []),
   (77, .iload_n 2, 2, 0, 0, 0, 0, []),
   (78, .dup2, 0, 0, 0, 0, 0, []),
   (79, .iaload, 0, 0, 0, 0, 0, []),
   (80, .iconst 1, 0, 0, 0, 1, 0, []),
   (81, .iadd, 0, 0, 0, 0, 0, []),
   (82, .iastore, 0, 0, 0, 0, 0, []),
   (83, .aload_n 0, 0, 0, 0, 0, 0, []),
   (84, .getfield 31, 11, 9, 0, 0, 0, []),
   (87, .bipush 36, 0, 0, 0, 36, 0, []),
   (89, .iload_n 3, 3, 0, 0, 0, 0, []),
   (90, .iadd, 0, 0, 0, 0, 0, []),
   (91, .dup2, 0, 0, 0, 0, 0, []),
   (92, .iaload, 0, 0, 0, 0, 0, []),
   (93, .iconst 1, 0, 0, 0, 1, 0, []),
   (94, .iadd, 0, 0, 0, 0, 0, []),
   (95, .iastore, 0, 0, 0, 0, 0, [])]
def tb_X11_goesBy_3 : List ax_Rw :=
  [(96, .aload_n 0, 0, 0, 0, 0, 0, []),
   (97, .getfield 85, 11, 37, 0, 0, 0, []),
   (100, .iload_n 2, 2, 0, 0, 0, 0, []),
   (101, .aload_n 0, 0, 0, 0, 0, 0, []),
   (102, .aload_n 0, 0, 0, 0, 0, 0, []),
   (103, .getfield 31, 11, 9, 0, 0, 0, []),
   (106, .bipush 24, 0, 0, 0, 24, 0, []),
   (108, .iload_n 2, 2, 0, 0, 0, 0, []),
   (109, .iadd, 0, 0, 0, 0, 0, []),
   (110, .iaload, 0, 0, 0, 0, 0, []),
   (111, .invokevirtual 233, 137, 1, 11, 0, 0, [(0, 2), (0, 1)]),
   (114, .ifCond .ne 7, 121, 0, 0, 0, 0, []),
   (117, .iconst 1, 0, 0, 0, 1, 0, []),
   (118, .goto 4, 122, 0, 0, 0, 0, []),
   (121, .iconst 0, 0, 0, 0, 0, 0, []),
   (122, .bastore, 0, 0, 0, 0, 0, []),
   (123, .aload_n 0, 0, 0, 0, 0, 0, []),
   (124, .getfield 85, 11, 37, 0, 0, 0, []),
   (127, .iload_n 2, 2, 0, 0, 0, 0, [])]
def tb_X11_goesBy_4 : List ax_Rw :=
  [(128, .baload, 0, 0, 0, 0, 0, []),
   (129, .ifCond .ne 10, 139, 0, 0, 0, 0, []),
   (132, .aload_n 0, 0, 0, 0, 0, 0, []),
   (133, .iload_n 2, 2, 0, 0, 0, 0, []),
   (134, .iload_n 3, 3, 0, 0, 0, 0, []),
   (135, .iload_n 1, 1, 0, 0, 0, 0, []),
   (136, .invokevirtual 240, 139, 3, 11, 0, 0, [(0, 8), (0, 0)]),
   (139, .iinc 2 1, 2, 0, 0, 1, 0, []),
   (142, .goto (-97), 45, 0, 0, 0, 0, []),
   (145, .iconst 0, 0, 0, 0, 0, 0, []),
   (146, .istore_n 2, 2, 0, 0, 0, 0, []),
   (147, .iload_n 2, 2, 0, 0, 0, 0, []),
   (148, .aload_n 0, 0, 0, 0, 0, 0, []),
   (149, .getfield 116, 11, 7, 0, 0, 0, []),
   (152, .if_icmp .ge 36, 188, 0, 0, 0, 0, []),
   (155, .aload_n 0, 0, 0, 0, 0, 0, []),
   (156, .getfield 85, 11, 37, 0, 0, 0, []),
   (159, .iload_n 2, 2, 0, 0, 0, 0, [])]
def tb_X11_goesBy_5 : List ax_Rw :=
  [(160, .baload, 0, 0, 0, 0, 0, []),
   (161, .ifCond .ne 6, 167, 0, 0, 0, 0, []),
   (164, .goto 18, 182, 0, 0, 0, 0, []),
   (167, .aload_n 0, 0, 0, 0, 0, 0, []),
   (168, .dup, 0, 0, 0, 0, 0, []),
   (169, .getfield 244, 11, 13, 0, 0, 0, []),
   (172, .iconst 1, 0, 0, 0, 1, 0, []),
   (173, .iadd, 0, 0, 0, 0, 0, []),
   (174, .putfield 244, 11, 13, 0, 0, 0, []),
   (177, .aload_n 0, 0, 0, 0, 0, 0, []),
   (178, .iload_n 2, 2, 0, 0, 0, 0, []),
   (179, .invokevirtual 247, 140, 1, 11, 0, 0, [(0, 6), (0, 0)]),
   (182, .iinc 2 1, 2, 0, 0, 1, 0, []),
   (185, .goto (-38), 147, 0, 0, 0, 0, []),
   (188, .iconst 0, 0, 0, 0, 0, 0, []),
   (189, .istore_n 2, 2, 0, 0, 0, 0, []),
   (190, .iload_n 2, 2, 0, 0, 0, 0, []),
   (191, .iconst 5, 0, 0, 0, 5, 0, [])]
def tb_X11_goesBy_6 : List ax_Rw :=
  [(192, .if_icmp .ge 93, 285, 0, 0, 0, 0, []),
   (195, .aload_n 0, 0, 0, 0, 0, 0, []),
   (196, .dup, 0, 0, 0, 0, 0, []),
   (197, .getfield 250, 11, 12, 0, 0, 0, []),
   (200, .aload_n 0, 0, 0, 0, 0, 0, []),
   (201, .getfield 31, 11, 9, 0, 0, 0, []),
   (204, .bipush 68, 0, 0, 0, 68, 0, []),
   (206, .iconst 3, 0, 0, 0, 3, 0, []),
   (207, .iload_n 2, 2, 0, 0, 0, 0, []),
   (208, .imul, 0, 0, 0, 0, 0, []),
   (209, .iadd, 0, 0, 0, 0, 0, []),
   (210, .iconst 2, 0, 0, 0, 2, 0, []),
   (211, .iadd, 0, 0, 0, 0, 0, []),
   (212, .iaload, 0, 0, 0, 0, 0, []),
   (213, .iadd, 0, 0, 0, 0, 0, []),
   (214, .putfield 250, 11, 12, 0, 0, 0, []),
   (217, .aload_n 0, 0, 0, 0, 0, 0, []),
   (218, .getfield 31, 11, 9, 0, 0, 0, []),
   (221, .bipush 68, 0, 0, 0, 68, 0, []),
   (223, .iconst 3, 0, 0, 0, 3, 0, [])]
def tb_X11_goesBy_7 : List ax_Rw :=
  [(224, .iload_n 2, 2, 0, 0, 0, 0, []),
   (225, .imul, 0, 0, 0, 0, 0, []),
   (226, .iadd, 0, 0, 0, 0, 0, []),
   (227, .iconst 2, 0, 0, 0, 2, 0, []),
   (228, .iadd, 0, 0, 0, 0, 0, []),
   (229, .aload_n 0, 0, 0, 0, 0, 0, []),
   (230, .getfield 31, 11, 9, 0, 0, 0, []),
   (233, .bipush 68, 0, 0, 0, 68, 0, []),
   (235, .iconst 3, 0, 0, 0, 3, 0, []),
   (236, .iload_n 2, 2, 0, 0, 0, 0, []),
   (237, .imul, 0, 0, 0, 0, 0, []),
   (238, .iadd, 0, 0, 0, 0, 0, []),
   (239, .iconst 1, 0, 0, 0, 1, 0, []),
   (240, .iadd, 0, 0, 0, 0, 0, []),
   (241, .iaload, 0, 0, 0, 0, 0, []),
   (242, .iastore, 0, 0, 0, 0, 0, []),
   (243, .aload_n 0, 0, 0, 0, 0, 0, []),
   (244, .getfield 31, 11, 9, 0, 0, 0, []),
   (247, .bipush 68, 0, 0, 0, 68, 0, []),
   (249, .iconst 3, 0, 0, 0, 3, 0, []),
   (250, .iload_n 2, 2, 0, 0, 0, 0, []),
   (251, .imul, 0, 0, 0, 0, 0, []),
   (252, .iadd, 0, 0, 0, 0, 0, []),
   (253, .iconst 1, 0, 0, 0, 1, 0, []),
   (254, .iadd, 0, 0, 0, 0, 0, []),
   (255, .aload_n 0, 0, 0, 0, 0, 0, [])]
def tb_X11_goesBy_8 : List ax_Rw :=
  [(256, .getfield 31, 11, 9, 0, 0, 0, []),
   (259, .bipush 68, 0, 0, 0, 68, 0, []),
   (261, .iconst 3, 0, 0, 0, 3, 0, []),
   (262, .iload_n 2, 2, 0, 0, 0, 0, []),
   (263, .imul, 0, 0, 0, 0, 0, []),
   (264, .iadd, 0, 0, 0, 0, 0, []),
   (265, .iaload, 0, 0, 0, 0, 0, []),
   (266, .iastore, 0, 0, 0, 0, 0, []),
   (267, .aload_n 0, 0, 0, 0, 0, 0, []),
   (268, .getfield 31, 11, 9, 0, 0, 0, []),
   (271, .bipush 68, 0, 0, 0, 68, 0, []),
   (273, .iconst 3, 0, 0, 0, 3, 0, []),
   (274, .iload_n 2, 2, 0, 0, 0, 0, []),
   (275, .imul, 0, 0, 0, 0, 0, []),
   (276, .iadd, 0, 0, 0, 0, 0, []),
   (277, .iconst 0, 0, 0, 0, 0, 0, []),
   (278, .iastore, 0, 0, 0, 0, 0, []),
   (279, .iinc 2 1, 2, 0, 0, 1, 0, []),
   (282, .goto (-92), 190, 0, 0, 0, 0, []),
   (285, .aload_n 0, 0, 0, 0, 0, 0, []),
   (286, .dup, 0, 0, 0, 0, 0, []),
   (287, .getfield 220, 11, 14, 0, 0, 0, [])]
def tb_X11_goesBy_9 : List ax_Rw :=
  [(290, .iconst 1, 0, 0, 0, 1, 0, []),
   (291, .iadd, 0, 0, 0, 0, 0, []),
   (292, .putfield 220, 11, 14, 0, 0, 0, []),
   (295, .return_, 0, 0, 0, 0, 0, [])]
def tb_X11_goesBy : List (List ax_Rw) := [tb_X11_goesBy_0, tb_X11_goesBy_1, tb_X11_goesBy_2, tb_X11_goesBy_3, tb_X11_goesBy_4, tb_X11_goesBy_5, tb_X11_goesBy_6, tb_X11_goesBy_7, tb_X11_goesBy_8, tb_X11_goesBy_9]
def tb_X11_step : List (List ax_Rw) := [
  [(0, .iload_n 1, 1, 0, 0, 0, 0, []),
   (1, .i2l, 0, 0, 0, 0, 0, []),
   (2, .lconst 1, 0, 0, 0, 0, 1, []),
   (3, .ldc2_w 253, 0, 0, 0, 0, 24, []),
   (6, .invokestatic 125, 108, 3, 11, 0, 0, [(0, 6), (0, 1)]),
   (9, .ifCond .ne 6, 15, 0, 0, 0, 0, []),
   (12, .bipush (-2), 0, 0, 0, (-2), 0, []),
   (14, .ireturn, 0, 0, 0, 0, 0, []),
   (15, .aload_n 0, 0, 0, 0, 0, 0, []),
   (16, .getfield 220, 11, 14, 0, 0, 0, []),
   (19, .iload_n 1, 1, 0, 0, 0, 0, []),
   (20, .iadd, 0, 0, 0, 0, 0, []),
   (21, .sipush 400, 0, 0, 0, 400, 0, []),
   (24, .if_icmp .le 6, 30, 0, 0, 0, 0, []),
   (27, .bipush (-4), 0, 0, 0, (-4), 0, []),
   (29, .ireturn, 0, 0, 0, 0, 0, []),
   (30, .aload_n 0, 0, 0, 0, 0, 0, []),
   (31, .getfield 227, 11, 11, 0, 0, 0, [])],
  [(34, .istore_n 2, 2, 0, 0, 0, 0, []),
   (35, .iconst 0, 0, 0, 0, 0, 0, []),
   (36, .istore_n 3, 3, 0, 0, 0, 0, []),
   (37, .iload_n 3, 3, 0, 0, 0, 0, []),
   (38, .iload_n 1, 1, 0, 0, 0, 0, []),
   (39, .if_icmp .ge 14, 53, 0, 0, 0, 0, []),
   (42, .aload_n 0, 0, 0, 0, 0, 0, []),
   (43, .iconst 1, 0, 0, 0, 1, 0, []),
   (44, .invokevirtual 255, 141, 1, 11, 0, 0, [(0, 4), (0, 0)]),
   (47, .iinc 3 1, 3, 0, 0, 1, 0, []),
   (50, .goto (-13), 37, 0, 0, 0, 0, []),
   (53, .aload_n 0, 0, 0, 0, 0, 0, []),
   (54, .getfield 227, 11, 11, 0, 0, 0, []),
   (57, .iload_n 2, 2, 0, 0, 0, 0, []),
   (58, .isub, 0, 0, 0, 0, 0, []),
   (59, .ireturn, 0, 0, 0, 0, 0, [])]]
def tb_X11_tookAll : List (List ax_Rw) := [
  [(0, .iconst 0, 0, 0, 0, 0, 0, []),
   (1, .istore_n 1, 1, 0, 0, 0, 0, []),
   (2, .iconst 0, 0, 0, 0, 0, 0, []),
   (3, .istore_n 2, 2, 0, 0, 0, 0, []),
   (4, .iload_n 2, 2, 0, 0, 0, 0, []),
   (5, .aload_n 0, 0, 0, 0, 0, 0, []),
   (6, .getfield 116, 11, 7, 0, 0, 0, []),
   (9, .if_icmp .ge 21, 30, 0, 0, 0, 0, []),
   (12, .iload_n 1, 1, 0, 0, 0, 0, []),
   (13, .aload_n 0, 0, 0, 0, 0, 0, []),
   (14, .getfield 31, 11, 9, 0, 0, 0, []),
   (17, .bipush 12, 0, 0, 0, 12, 0, []),
   (19, .iload_n 2, 2, 0, 0, 0, 0, []),
   (20, .iadd, 0, 0, 0, 0, 0, []),
   (21, .iaload, 0, 0, 0, 0, 0, []),
   (22, .iadd, 0, 0, 0, 0, 0, []),
   (23, .istore_n 1, 1, 0, 0, 0, 0, []),
   (24, .iinc 2 1, 2, 0, 0, 1, 0, []),
   (27, .goto (-23), 4, 0, 0, 0, 0, []),
   (30, .iload_n 1, 1, 0, 0, 0, 0, []),
   (31, .ireturn, 0, 0, 0, 0, 0, [])]]
def tb_X11_tried_0 : List ax_Rw :=
  [(0, .iload_n 3, 3, 0, 0, 0, 0, []),
   (1, .i2l, 0, 0, 0, 0, 0, []),
   (2, .lconst 0, 0, 0, 0, 0, 0, []),
   (3, .ldc2_w 123, 0, 0, 0, 0, 3, []),
   (6, .invokestatic 125, 108, 3, 11, 0, 0, [(0, 6), (0, 1)]),
   (9, .ifCond .ne 5, 14, 0, 0, 0, 0, []),
   (12, .iconst (-1), 0, 0, 0, (-1), 0, []),
   (13, .ireturn, 0, 0, 0, 0, 0, []),
   (14, .iload_n 1, 1, 0, 0, 0, 0, []),
   (15, .i2l, 0, 0, 0, 0, 0, []),
   (16, .lconst 0, 0, 0, 0, 0, 0, []),
   (17, .aload_n 0, 0, 0, 0, 0, 0, []),
   (18, .getfield 116, 11, 7, 0, 0, 0, []),
   (21, .i2l, 0, 0, 0, 0, 0, []),
   (22, .invokestatic 125, 108, 3, 11, 0, 0, [(0, 6), (0, 1)]),
   (25, .ifCond .eq 15, 40, 0, 0, 0, 0, []),
   (28, .iload_n 2, 2, 0, 0, 0, 0, []),
   (29, .i2l, 0, 0, 0, 0, 0, []),
   (30, .lconst 1, 0, 0, 0, 0, 1, []),
   (31, .ldc2_w 259, 0, 0, 0, 0, 40, [])]
def tb_X11_tried_1 : List ax_Rw :=
  [(34, .invokestatic 125, 108, 3, 11, 0, 0, [(0, 6), (0, 1)]),
   (37, .ifCond .ne 6, 43, 0, 0, 0, 0, []),
   (40, .bipush (-2), 0, 0, 0, (-2), 0, []),
   (42, .ireturn, 0, 0, 0, 0, 0, []),
   (43, .iconst 0, 0, 0, 0, 0, 0, []),
   (44, .istore 4, 4, 0, 0, 0, 0, []),
   (46, .iload 4, 4, 0, 0, 0, 0, []),
   (48, .bipush 88, 0, 0, 0, 88, 0, []),
   (50, .if_icmp .ge 23, 73, 0, 0, 0, 0, []),
   (53, .aload_n 0, 0, 0, 0, 0, 0, []),
   (54, .getfield 34, 11, 10, 0, 0, 0, []),
   (57, .iload 4, 4, 0, 0, 0, 0, []),
   (59, .aload_n 0, 0, 0, 0, 0, 0, []),
   (60, .getfield 31, 11, 9, 0, 0, 0, []),
   (63, .iload 4, 4, 0, 0, 0, 0, [])]
def tb_X11_tried_2 : List ax_Rw :=
  [(65, .iaload, 0, 0, 0, 0, 0, []),
   (66, .iastore, 0, 0, 0, 0, 0, []),
   (67, .iinc 4 1, 4, 0, 0, 1, 0, []),
   (70, .goto (-24), 46, 0, 0, 0, 0, []),
   (73, .aload_n 0, 0, 0, 0, 0, 0, []),
   (74, .getfield 227, 11, 11, 0, 0, 0, []),
   (77, .istore 4, 4, 0, 0, 0, 0, []),
   (79, .aload_n 0, 0, 0, 0, 0, 0, []),
   (80, .getfield 250, 11, 12, 0, 0, 0, []),
   (83, .istore 5, 5, 0, 0, 0, 0, []),
   (85, .aload_n 0, 0, 0, 0, 0, 0, []),
   (86, .getfield 244, 11, 13, 0, 0, 0, []),
   (89, .istore 6, 6, 0, 0, 0, 0, []),
   (91, .aload_n 0, 0, 0, 0, 0, 0, []),
   (92, .getfield 220, 11, 14, 0, 0, 0, []),
   (95, .istore 7, 7, 0, 0, 0, 0, [])]
def tb_X11_tried_3 : List ax_Rw :=
  [(97, .aload_n 0, 0, 0, 0, 0, 0, []),
   (98, .invokevirtual 261, 143, 0, 11, 0, 0, [(0, 3), (0, 1)]),
   (101, .istore 8, 8, 0, 0, 0, 0, []),
   (103, .aload_n 0, 0, 0, 0, 0, 0, []),
   (104, .getfield 116, 11, 7, 0, 0, 0, []),
   (107, .iload_n 1, 1, 0, 0, 0, 0, []),
   (108, .isub, 0, 0, 0, 0, 0, []),
   (109, .istore 9, 9, 0, 0, 0, 0, []),
   (111, .iload 9, 9, 0, 0, 0, 0, []),
   (113, .aload_n 0, 0, 0, 0, 0, 0, []),
   (114, .getfield 116, 11, 7, 0, 0, 0, []),
   (117, .if_icmp .ge 20, 137, 0, 0, 0, 0, []),
   (120, .aload_n 0, 0, 0, 0, 0, 0, []),
   (121, .getfield 31, 11, 9, 0, 0, 0, []),
   (124, .bipush 24, 0, 0, 0, 24, 0, []),
   (126, .iload 9, 9, 0, 0, 0, 0, [])]
def tb_X11_tried_4 : List ax_Rw :=
  [(128, .iadd, 0, 0, 0, 0, 0, []),
   (129, .iconst (-1), 0, 0, 0, (-1), 0, []),
   (130, .iastore, 0, 0, 0, 0, 0, []),
   (131, .iinc 9 1, 9, 0, 0, 1, 0, []),
   (134, .goto (-23), 111, 0, 0, 0, 0, []),
   (137, .iconst 0, 0, 0, 0, 0, 0, []),
   (138, .istore 9, 9, 0, 0, 0, 0, []),
   (140, .iload 9, 9, 0, 0, 0, 0, []),
   (142, .iload_n 2, 2, 0, 0, 0, 0, []),
   (143, .if_icmp .ge 14, 157, 0, 0, 0, 0, []),
   (146, .aload_n 0, 0, 0, 0, 0, 0, []),
   (147, .iconst 0, 0, 0, 0, 0, 0, []),
   (148, .invokevirtual 255, 141, 1, 11, 0, 0, [(0, 4), (0, 0)]),
   (151, .iinc 9 1, 9, 0, 0, 1, 0, []),
   (154, .goto (-14), 140, 0, 0, 0, 0, []),
   (157, .iload_n 3, 3, 0, 0, 0, 0, []),
   (158, .ifCond .ne 13, 171, 0, 0, 0, 0, [])]
def tb_X11_tried_5 : List ax_Rw :=
  [(161, .aload_n 0, 0, 0, 0, 0, 0, []),
   (162, .getfield 227, 11, 11, 0, 0, 0, []),
   (165, .iload 4, 4, 0, 0, 0, 0, []),
   (167, .isub, 0, 0, 0, 0, 0, []),
   (168, .goto 40, 208, 0, 0, 0, 0, []),
   (171, .iload_n 3, 3, 0, 0, 0, 0, []),
   (172, .iconst 1, 0, 0, 0, 1, 0, []),
   (173, .if_icmp .ne 13, 186, 0, 0, 0, 0, []),
   (176, .aload_n 0, 0, 0, 0, 0, 0, []),
   (177, .getfield 250, 11, 12, 0, 0, 0, []),
   (180, .iload 5, 5, 0, 0, 0, 0, []),
   (182, .isub, 0, 0, 0, 0, 0, []),
   (183, .goto 25, 208, 0, 0, 0, 0, []),
   (186, .iload_n 3, 3, 0, 0, 0, 0, []),
   (187, .iconst 2, 0, 0, 0, 2, 0, []),
   (188, .if_icmp .ne 13, 201, 0, 0, 0, 0, []),
   (191, .aload_n 0, 0, 0, 0, 0, 0, [])]
def tb_X11_tried_6 : List ax_Rw :=
  [(192, .getfield 244, 11, 13, 0, 0, 0, []),
   (195, .iload 6, 6, 0, 0, 0, 0, []),
   (197, .isub, 0, 0, 0, 0, 0, []),
   (198, .goto 10, 208, 0, 0, 0, 0, []),
   (201, .aload_n 0, 0, 0, 0, 0, 0, []),
   (202, .invokevirtual 261, 143, 0, 11, 0, 0, [(0, 3), (0, 1)]),
   (205, .iload 8, 8, 0, 0, 0, 0, []),
   (207, .isub, 0, 0, 0, 0, 0, []),
   (208, .istore 9, 9, 0, 0, 0, 0, []),
   (210, .iconst 0, 0, 0, 0, 0, 0, []),
   (211, .istore 10, 10, 0, 0, 0, 0, []),
   (213, .iload 10, 10, 0, 0, 0, 0, []),
   (215, .bipush 88, 0, 0, 0, 88, 0, []),
   (217, .if_icmp .ge 23, 240, 0, 0, 0, 0, []),
   (220, .aload_n 0, 0, 0, 0, 0, 0, []),
   (221, .getfield 31, 11, 9, 0, 0, 0, [])]
def tb_X11_tried_7 : List ax_Rw :=
  [(224, .iload 10, 10, 0, 0, 0, 0, []),
   (226, .aload_n 0, 0, 0, 0, 0, 0, []),
   (227, .getfield 34, 11, 10, 0, 0, 0, []),
   (230, .iload 10, 10, 0, 0, 0, 0, []),
   (232, .iaload, 0, 0, 0, 0, 0, []),
   (233, .iastore, 0, 0, 0, 0, 0, []),
   (234, .iinc 10 1, 10, 0, 0, 1, 0, []),
   (237, .goto (-24), 213, 0, 0, 0, 0, []),
   (240, .aload_n 0, 0, 0, 0, 0, 0, []),
   (241, .iload 4, 4, 0, 0, 0, 0, []),
   (243, .putfield 227, 11, 11, 0, 0, 0, []),
   (246, .aload_n 0, 0, 0, 0, 0, 0, []),
   (247, .iload 5, 5, 0, 0, 0, 0, []),
   (249, .putfield 250, 11, 12, 0, 0, 0, []),
   (252, .aload_n 0, 0, 0, 0, 0, 0, []),
   (253, .iload 6, 6, 0, 0, 0, 0, []),
   (255, .putfield 244, 11, 13, 0, 0, 0, [])]
def tb_X11_tried_8 : List ax_Rw :=
  [(258, .aload_n 0, 0, 0, 0, 0, 0, []),
   (259, .iload 7, 7, 0, 0, 0, 0, []),
   (261, .putfield 220, 11, 14, 0, 0, 0, []),
   (264, .iload 9, 9, 0, 0, 0, 0, []),
   (266, .ireturn, 0, 0, 0, 0, 0, [])]
def tb_X11_tried : List (List ax_Rw) := [tb_X11_tried_0, tb_X11_tried_1, tb_X11_tried_2, tb_X11_tried_3, tb_X11_tried_4, tb_X11_tried_5, tb_X11_tried_6, tb_X11_tried_7, tb_X11_tried_8]
def tb_X11_found : List (List ax_Rw) := [
  [(0, .iload 5, 5, 0, 0, 0, 0, []),
   (2, .istore 6, 6, 0, 0, 0, 0, []),
   (4, .iconst 0, 0, 0, 0, 0, 0, []),
   (5, .istore 7, 7, 0, 0, 0, 0, []),
   (7, .iload 7, 7, 0, 0, 0, 0, []),
   (9, .aload_n 0, 0, 0, 0, 0, 0, []),
   (10, .getfield 230, 11, 15, 0, 0, 0, []),
   (13, .if_icmp .ge 80, 93, 0, 0, 0, 0, []),
   (16, .iload 5, 5, 0, 0, 0, 0, []),
   (18, .ifCond .lt 75, 93, 0, 0, 0, 0, []),
   (21, .aload_n 0, 0, 0, 0, 0, 0, []),
   (22, .getfield 37, 11, 16, 0, 0, 0, []),
   (25, .iload 7, 7, 0, 0, 0, 0, []),
   (27, .iaload, 0, 0, 0, 0, 0, []),
   (28, .i2l, 0, 0, 0, 0, 0, []),
   (29, .iload_n 1, 1, 0, 0, 0, 0, []),
   (30, .i2l, 0, 0, 0, 0, 0, []),
   (31, .iload_n 2, 2, 0, 0, 0, 0, [])],
  [(32, .i2l, 0, 0, 0, 0, 0, []),
   (33, .invokestatic 125, 108, 3, 11, 0, 0, [(0, 6), (0, 1)]),
   (36, .ifCond .eq 51, 87, 0, 0, 0, 0, []),
   (39, .iload_n 3, 3, 0, 0, 0, 0, []),
   (40, .iconst (-1), 0, 0, 0, (-1), 0, []),
   (41, .if_icmp .eq 14, 55, 0, 0, 0, 0, []),
   (44, .aload_n 0, 0, 0, 0, 0, 0, []),
   (45, .getfield 43, 11, 18, 0, 0, 0, []),
   (48, .iload 7, 7, 0, 0, 0, 0, []),
   (50, .iaload, 0, 0, 0, 0, 0, []),
   (51, .iload_n 3, 3, 0, 0, 0, 0, []),
   (52, .if_icmp .ne 35, 87, 0, 0, 0, 0, []),
   (55, .iload 4, 4, 0, 0, 0, 0, []),
   (57, .iconst (-1), 0, 0, 0, (-1), 0, []),
   (58, .if_icmp .eq 18, 76, 0, 0, 0, 0, []),
   (61, .aload_n 0, 0, 0, 0, 0, 0, []),
   (62, .getfield 46, 11, 19, 0, 0, 0, [])],
  [(65, .iload 7, 7, 0, 0, 0, 0, []),
   (67, .iaload, 0, 0, 0, 0, 0, []),
   (68, .iload 4, 4, 0, 0, 0, 0, []),
   (70, .if_icmp .eq 6, 76, 0, 0, 0, 0, []),
   (73, .goto 14, 87, 0, 0, 0, 0, []),
   (76, .iload 6, 6, 0, 0, 0, 0, []),
   (78, .ifCond .ne 6, 84, 0, 0, 0, 0, []),
   (81, .iload 7, 7, 0, 0, 0, 0, []),
   (83, .ireturn, 0, 0, 0, 0, 0, []),
   (84, .iinc 6 (-1), 6, 0, 0, (-1), 0, []),
   (87, .iinc 7 1, 7, 0, 0, 1, 0, []),
   (90, .goto (-83), 7, 0, 0, 0, 0, []),
   (93, .iconst (-1), 0, 0, 0, (-1), 0, []),
   (94, .ireturn, 0, 0, 0, 0, 0, [])]]
def tb_X11_rode : List (List ax_Rw) := [
  [(0, .iload_n 1, 1, 0, 0, 0, 0, []),
   (1, .i2l, 0, 0, 0, 0, 0, []),
   (2, .lconst 0, 0, 0, 0, 0, 0, []),
   (3, .aload_n 0, 0, 0, 0, 0, 0, []),
   (4, .getfield 230, 11, 15, 0, 0, 0, []),
   (7, .iconst 1, 0, 0, 0, 1, 0, []),
   (8, .isub, 0, 0, 0, 0, 0, []),
   (9, .i2l, 0, 0, 0, 0, 0, []),
   (10, .invokestatic 125, 108, 3, 11, 0, 0, [(0, 6), (0, 1)]),
   (13, .ifCond .ne 5, 18, 0, 0, 0, 0, []),
   (16, .iconst (-1), 0, 0, 0, (-1), 0, []),
   (17, .ireturn, 0, 0, 0, 0, 0, []),
   (18, .iload_n 2, 2, 0, 0, 0, 0, []),
   (19, .tableswitch 68 0 4 #[33, 40, 47, 54, 61], 87, 0, 0, 0, 0, [(0, 52), (1, 59), (2, 66), (3, 73), (4, 80)])],
  [(52, .aload_n 0, 0, 0, 0, 0, 0, []),
   (53, .getfield 37, 11, 16, 0, 0, 0, []),
   (56, .iload_n 1, 1, 0, 0, 0, 0, []),
   (57, .iaload, 0, 0, 0, 0, 0, []),
   (58, .ireturn, 0, 0, 0, 0, 0, []),
   (59, .aload_n 0, 0, 0, 0, 0, 0, []),
   (60, .getfield 40, 11, 17, 0, 0, 0, []),
   (63, .iload_n 1, 1, 0, 0, 0, 0, [])],
  [(64, .iaload, 0, 0, 0, 0, 0, []),
   (65, .ireturn, 0, 0, 0, 0, 0, []),
   (66, .aload_n 0, 0, 0, 0, 0, 0, []),
   (67, .getfield 43, 11, 18, 0, 0, 0, []),
   (70, .iload_n 1, 1, 0, 0, 0, 0, []),
   (71, .iaload, 0, 0, 0, 0, 0, []),
   (72, .ireturn, 0, 0, 0, 0, 0, []),
   (73, .aload_n 0, 0, 0, 0, 0, 0, []),
   (74, .getfield 46, 11, 19, 0, 0, 0, []),
   (77, .iload_n 1, 1, 0, 0, 0, 0, []),
   (78, .iaload, 0, 0, 0, 0, 0, []),
   (79, .ireturn, 0, 0, 0, 0, 0, []),
   (80, .aload_n 0, 0, 0, 0, 0, 0, []),
   (81, .getfield 49, 11, 20, 0, 0, 0, []),
   (84, .iload_n 1, 1, 0, 0, 0, 0, []),
   (85, .iaload, 0, 0, 0, 0, 0, []),
   (86, .ireturn, 0, 0, 0, 0, 0, []),
   (87, .iconst (-1), 0, 0, 0, (-1), 0, []),
   (88, .ireturn, 0, 0, 0, 0, 0, [])]]
def tb_X11_areTerms : List (List ax_Rw) := [
  [(0, .iload_n 0, 0, 0, 0, 0, 0, []),
   (1, .i2l, 0, 0, 0, 0, 0, []),
   (2, .lconst 1, 0, 0, 0, 0, 1, []),
   (3, .ldc2_w 259, 0, 0, 0, 0, 40, []),
   (6, .invokestatic 125, 108, 3, 11, 0, 0, [(0, 6), (0, 1)]),
   (9, .ifCond .eq 19, 28, 0, 0, 0, 0, []),
   (12, .iload_n 1, 1, 0, 0, 0, 0, []),
   (13, .i2l, 0, 0, 0, 0, 0, []),
   (14, .lconst 0, 0, 0, 0, 0, 0, []),
   (15, .ldc2_w 264, 0, 0, 0, 0, 500, []),
   (18, .invokestatic 125, 108, 3, 11, 0, 0, [(0, 6), (0, 1)]),
   (21, .ifCond .eq 7, 28, 0, 0, 0, 0, []),
   (24, .iconst 1, 0, 0, 0, 1, 0, []),
   (25, .goto 4, 29, 0, 0, 0, 0, []),
   (28, .iconst 0, 0, 0, 0, 0, 0, []),
   (29, .ireturn, 0, 1, 0, 0, 0, [])]]
def tb_X11_worth : List (List ax_Rw) := [
  [(0, .aload_n 0, 0, 0, 0, 0, 0, []),
   (1, .getfield 7, 11, 0, 0, 0, 0, []),
   (4, .iload_n 1, 1, 0, 0, 0, 0, []),
   (5, .iaload, 0, 0, 0, 0, 0, []),
   (6, .iconst 2, 0, 0, 0, 2, 0, []),
   (7, .if_icmp .ne 19, 26, 0, 0, 0, 0, []),
   (10, .aload_n 0, 0, 0, 0, 0, 0, []),
   (11, .getfield 16, 11, 2, 0, 0, 0, []),
   (14, .iload_n 1, 1, 0, 0, 0, 0, []),
   (15, .iaload, 0, 0, 0, 0, 0, []),
   (16, .bipush 9, 0, 0, 0, 9, 0, []),
   (18, .imul, 0, 0, 0, 0, 0, []),
   (19, .bipush 10, 0, 0, 0, 10, 0, []),
   (21, .idiv, 0, 0, 0, 0, 0, []),
   (22, .i2l, 0, 0, 0, 0, 0, []),
   (23, .goto 10, 33, 0, 0, 0, 0, []),
   (26, .aload_n 0, 0, 0, 0, 0, 0, []),
   (27, .getfield 16, 11, 2, 0, 0, 0, []),
   (30, .iload_n 1, 1, 0, 0, 0, 0, []),
   (31, .iaload, 0, 0, 0, 0, 0, [])],
  [(32, .i2l, 0, 0, 0, 0, 0, []),
   (33, .lstore 4, 4, 0, 0, 0, 0, []),
   (35, .lconst 0, 0, 0, 0, 0, 0, []),
   (36, .lstore 6, 6, 0, 0, 0, 0, []),
   (38, .iconst 0, 0, 0, 0, 0, 0, []),
   (39, .istore 8, 8, 0, 0, 0, 0, []),
   (41, .iload 8, 8, 0, 0, 0, 0, []),
   (43, .iload_n 2, 2, 0, 0, 0, 0, []),
   (44, .if_icmp .ge 45, 89, 0, 0, 0, 0, []),
   (47, .lload 6, 6, 0, 0, 0, 0, []),
   (49, .lload 4, 4, 0, 0, 0, 0, []),
   (51, .ladd, 0, 0, 0, 0, 0, []),
   (52, .aload_n 0, 0, 0, 0, 0, 0, []),
   (53, .getfield 19, 11, 3, 0, 0, 0, []),
   (56, .iload_n 1, 1, 0, 0, 0, 0, []),
   (57, .iaload, 0, 0, 0, 0, 0, []),
   (58, .i2l, 0, 0, 0, 0, 0, []),
   (59, .lsub, 0, 0, 0, 0, 0, []),
   (60, .ldc2_w 266, 0, 0, 0, 0, 1000, []),
   (63, .lmul, 0, 0, 0, 0, 0, [])],
  [(64, .ldc2_w 266, 0, 0, 0, 0, 1000, []),
   (67, .iload_n 3, 3, 0, 0, 0, 0, []),
   (68, .i2l, 0, 0, 0, 0, 0, []),
   (69, .ladd, 0, 0, 0, 0, 0, []),
   (70, .ldiv, 0, 0, 0, 0, 0, []),
   (71, .lstore 6, 6, 0, 0, 0, 0, []),
   (73, .lload 6, 6, 0, 0, 0, 0, []),
   (75, .lconst 0, 0, 0, 0, 0, 0, []),
   (76, .lcmp, 0, 0, 0, 0, 0, []),
   (77, .ifCond .ge 6, 83, 0, 0, 0, 0, []),
   (80, .lconst 0, 0, 0, 0, 0, 0, []),
   (81, .lstore 6, 6, 0, 0, 0, 0, []),
   (83, .iinc 8 1, 8, 0, 0, 1, 0, []),
   (86, .goto (-45), 41, 0, 0, 0, 0, []),
   (89, .lload 6, 6, 0, 0, 0, 0, []),
   (91, .l2i, 0, 0, 0, 0, 0, []),
   (92, .ireturn, 0, 0, 0, 0, 0, [])]]
def tb_X11_value : List (List ax_Rw) := [
  [(0, .aload_n 0, 0, 0, 0, 0, 0, []),
   (1, .iload_n 1, 1, 0, 0, 0, 0, []),
   (2, .invokevirtual 139, 109, 1, 11, 0, 0, [(0, 2), (0, 1)]),
   (5, .ifCond .ne 5, 10, 0, 0, 0, 0, []),
   (8, .iconst (-1), 0, 0, 0, (-1), 0, []),
   (9, .ireturn, 0, 0, 0, 0, 0, []),
   (10, .iload_n 2, 2, 0, 0, 0, 0, []),
   (11, .iload_n 3, 3, 0, 0, 0, 0, []),
   (12, .invokestatic 268, 147, 2, 11, 0, 0, [(0, 2), (0, 1)]),
   (15, .ifCond .eq 13, 28, 0, 0, 0, 0, []),
   (18, .aload_n 0, 0, 0, 0, 0, 0, []),
   (19, .iload_n 1, 1, 0, 0, 0, 0, []),
   (20, .iload_n 2, 2, 0, 0, 0, 0, []),
   (21, .iload_n 3, 3, 0, 0, 0, 0, []),
   (22, .invokevirtual 271, 148, 3, 11, 0, 0, [(0, 9), (0, 1)]),
   (25, .goto 5, 30, 0, 0, 0, 0, []),
   (28, .bipush (-2), 0, 0, 0, (-2), 0, []),
   (30, .ireturn, 0, 0, 0, 0, 0, [])]]
def tb_X11_rent : List (List ax_Rw) := [
  [(0, .aload_n 0, 0, 0, 0, 0, 0, []),
   (1, .iload_n 1, 1, 0, 0, 0, 0, []),
   (2, .invokevirtual 139, 109, 1, 11, 0, 0, [(0, 2), (0, 1)]),
   (5, .ifCond .ne 5, 10, 0, 0, 0, 0, []),
   (8, .iconst (-1), 0, 0, 0, (-1), 0, []),
   (9, .ireturn, 0, 0, 0, 0, 0, []),
   (10, .iload_n 2, 2, 0, 0, 0, 0, []),
   (11, .i2l, 0, 0, 0, 0, 0, []),
   (12, .lconst 0, 0, 0, 0, 0, 0, []),
   (13, .ldc2_w 131, 0, 0, 0, 0, 9999, []),
   (16, .invokestatic 125, 108, 3, 11, 0, 0, [(0, 6), (0, 1)]),
   (19, .ifCond .eq 15, 34, 0, 0, 0, 0, []),
   (22, .iload_n 3, 3, 0, 0, 0, 0, []),
   (23, .i2l, 0, 0, 0, 0, 0, []),
   (24, .lconst 0, 0, 0, 0, 0, 0, []),
   (25, .ldc2_w 131, 0, 0, 0, 0, 9999, []),
   (28, .invokestatic 125, 108, 3, 11, 0, 0, [(0, 6), (0, 1)]),
   (31, .ifCond .ne 6, 37, 0, 0, 0, 0, [])],
  [(34, .bipush (-2), 0, 0, 0, (-2), 0, []),
   (36, .ireturn, 0, 0, 0, 0, 0, []),
   (37, .aload_n 0, 0, 0, 0, 0, 0, []),
   (38, .getfield 16, 11, 2, 0, 0, 0, []),
   (41, .iload_n 1, 1, 0, 0, 0, 0, []),
   (42, .iaload, 0, 0, 0, 0, 0, []),
   (43, .istore 4, 4, 0, 0, 0, 0, []),
   (45, .aload_n 0, 0, 0, 0, 0, 0, []),
   (46, .getfield 16, 11, 2, 0, 0, 0, []),
   (49, .iload_n 1, 1, 0, 0, 0, 0, []),
   (50, .iload_n 2, 2, 0, 0, 0, 0, []),
   (51, .iastore, 0, 0, 0, 0, 0, []),
   (52, .aload_n 0, 0, 0, 0, 0, 0, []),
   (53, .getfield 19, 11, 3, 0, 0, 0, []),
   (56, .iload_n 1, 1, 0, 0, 0, 0, []),
   (57, .iload_n 3, 3, 0, 0, 0, 0, []),
   (58, .iastore, 0, 0, 0, 0, 0, []),
   (59, .iload 4, 4, 0, 0, 0, 0, []),
   (61, .ireturn, 0, 0, 0, 0, 0, [])]]
def tb_X11_loan : List (List ax_Rw) := [
  [(0, .aload_n 0, 0, 0, 0, 0, 0, []),
   (1, .iload_n 1, 1, 0, 0, 0, 0, []),
   (2, .invokevirtual 139, 109, 1, 11, 0, 0, [(0, 2), (0, 1)]),
   (5, .ifCond .ne 5, 10, 0, 0, 0, 0, []),
   (8, .iconst (-1), 0, 0, 0, (-1), 0, []),
   (9, .ireturn, 0, 0, 0, 0, 0, []),
   (10, .iload_n 2, 2, 0, 0, 0, 0, []),
   (11, .i2l, 0, 0, 0, 0, 0, []),
   (12, .lconst 0, 0, 0, 0, 0, 0, []),
   (13, .ldc2_w 208, 0, 0, 0, 0, 9, []),
   (16, .invokestatic 125, 108, 3, 11, 0, 0, [(0, 6), (0, 1)]),
   (19, .ifCond .eq 15, 34, 0, 0, 0, 0, []),
   (22, .iload_n 3, 3, 0, 0, 0, 0, []),
   (23, .i2l, 0, 0, 0, 0, 0, []),
   (24, .lconst 1, 0, 0, 0, 0, 1, []),
   (25, .ldc2_w 275, 0, 0, 0, 0, 99999, []),
   (28, .invokestatic 125, 108, 3, 11, 0, 0, [(0, 6), (0, 1)]),
   (31, .ifCond .ne 6, 37, 0, 0, 0, 0, [])],
  [(34, .bipush (-2), 0, 0, 0, (-2), 0, []),
   (36, .ireturn, 0, 0, 0, 0, 0, []),
   (37, .aload_n 0, 0, 0, 0, 0, 0, []),
   (38, .getfield 277, 11, 42, 0, 0, 0, []),
   (41, .bipush 30, 0, 0, 0, 30, 0, []),
   (43, .if_icmp .ne 6, 49, 0, 0, 0, 0, []),
   (46, .bipush (-4), 0, 0, 0, (-4), 0, []),
   (48, .ireturn, 0, 0, 0, 0, 0, []),
   (49, .aload_n 0, 0, 0, 0, 0, 0, []),
   (50, .getfield 89, 11, 38, 0, 0, 0, []),
   (53, .aload_n 0, 0, 0, 0, 0, 0, []),
   (54, .getfield 277, 11, 42, 0, 0, 0, []),
   (57, .iload_n 1, 1, 0, 0, 0, 0, []),
   (58, .iastore, 0, 0, 0, 0, 0, []),
   (59, .aload_n 0, 0, 0, 0, 0, 0, []),
   (60, .getfield 92, 11, 39, 0, 0, 0, []),
   (63, .aload_n 0, 0, 0, 0, 0, 0, [])],
  [(64, .getfield 277, 11, 42, 0, 0, 0, []),
   (67, .iload_n 2, 2, 0, 0, 0, 0, []),
   (68, .iastore, 0, 0, 0, 0, 0, []),
   (69, .aload_n 0, 0, 0, 0, 0, 0, []),
   (70, .getfield 95, 11, 40, 0, 0, 0, []),
   (73, .aload_n 0, 0, 0, 0, 0, 0, []),
   (74, .getfield 277, 11, 42, 0, 0, 0, []),
   (77, .iload_n 3, 3, 0, 0, 0, 0, []),
   (78, .iastore, 0, 0, 0, 0, 0, []),
   (79, .aload_n 0, 0, 0, 0, 0, 0, []),
   (80, .dup, 0, 0, 0, 0, 0, []),
   (81, .getfield 277, 11, 42, 0, 0, 0, []),
   (84, .iconst 1, 0, 0, 0, 1, 0, []),
   (85, .iadd, 0, 0, 0, 0, 0, []),
   (86, .putfield 277, 11, 42, 0, 0, 0, []),
   (89, .aload_n 0, 0, 0, 0, 0, 0, []),
   (90, .getfield 277, 11, 42, 0, 0, 0, []),
   (93, .iconst 1, 0, 0, 0, 1, 0, []),
   (94, .isub, 0, 0, 0, 0, 0, []),
   (95, .ireturn, 0, 0, 0, 0, 0, [])]]
def tb_X11_owed : List (List ax_Rw) := [
  [(0, .iconst 0, 0, 0, 0, 0, 0, []),
   (1, .istore_n 2, 2, 0, 0, 0, 0, []),
   (2, .iconst 0, 0, 0, 0, 0, 0, []),
   (3, .istore_n 3, 3, 0, 0, 0, 0, []),
   (4, .iload_n 3, 3, 0, 0, 0, 0, []),
   (5, .aload_n 0, 0, 0, 0, 0, 0, []),
   (6, .getfield 277, 11, 42, 0, 0, 0, []),
   (9, .if_icmp .ge 32, 41, 0, 0, 0, 0, []),
   (12, .iload_n 2, 2, 0, 0, 0, 0, []),
   (13, .aload_n 0, 0, 0, 0, 0, 0, []),
   (14, .getfield 89, 11, 38, 0, 0, 0, []),
   (17, .iload_n 3, 3, 0, 0, 0, 0, []),
   (18, .iaload, 0, 0, 0, 0, 0, []),
   (19, .iload_n 1, 1, 0, 0, 0, 0, []),
   (20, .if_icmp .ne 12, 32, 0, 0, 0, 0, []),
   (23, .aload_n 0, 0, 0, 0, 0, 0, []),
   (24, .getfield 95, 11, 40, 0, 0, 0, []),
   (27, .iload_n 3, 3, 0, 0, 0, 0, []),
   (28, .iaload, 0, 0, 0, 0, 0, []),
   (29, .goto 4, 33, 0, 0, 0, 0, [])],
  [(32, .iconst 0, 0, 0, 0, 0, 0, []),
   (33, .iadd, 0, 0, 0, 0, 0, []),
   (34, .istore_n 2, 2, 0, 0, 0, 0, []),
   (35, .iinc 3 1, 3, 0, 0, 1, 0, []),
   (38, .goto (-34), 4, 0, 0, 0, 0, []),
   (41, .iload_n 2, 2, 0, 0, 0, 0, []),
   (42, .ireturn, 0, 0, 0, 0, 0, [])]]
def tb_X11_owes : List (List ax_Rw) := [
  [(0, .aload_n 0, 0, 0, 0, 0, 0, []),
   (1, .iload_n 1, 1, 0, 0, 0, 0, []),
   (2, .invokevirtual 139, 109, 1, 11, 0, 0, [(0, 2), (0, 1)]),
   (5, .ifCond .eq 11, 16, 0, 0, 0, 0, []),
   (8, .aload_n 0, 0, 0, 0, 0, 0, []),
   (9, .iload_n 1, 1, 0, 0, 0, 0, []),
   (10, .invokevirtual 280, 152, 1, 11, 0, 0, [(0, 4), (0, 1)]),
   (13, .goto 4, 17, 0, 0, 0, 0, []),
   (16, .iconst (-1), 0, 0, 0, (-1), 0, []),
   (17, .ireturn, 0, 0, 0, 0, 0, [])]]
def tb_X11_fails : List (List ax_Rw) := [
  [(0, .iload_n 1, 1, 0, 0, 0, 0, []),
   (1, .iload_n 2, 2, 0, 0, 0, 0, []),
   (2, .invokestatic 268, 147, 2, 11, 0, 0, [(0, 2), (0, 1)]),
   (5, .ifCond .ne 6, 11, 0, 0, 0, 0, []),
   (8, .bipush (-2), 0, 0, 0, (-2), 0, []),
   (10, .ireturn, 0, 0, 0, 0, 0, []),
   (11, .iconst 0, 0, 0, 0, 0, 0, []),
   (12, .istore_n 3, 3, 0, 0, 0, 0, []),
   (13, .iconst 0, 0, 0, 0, 0, 0, []),
   (14, .istore 4, 4, 0, 0, 0, 0, []),
   (16, .iload 4, 4, 0, 0, 0, 0, []),
   (18, .aload_n 0, 0, 0, 0, 0, 0, []),
   (19, .getfield 116, 11, 7, 0, 0, 0, []),
   (22, .if_icmp .ge 37, 59, 0, 0, 0, 0, []),
   (25, .iload_n 3, 3, 0, 0, 0, 0, []),
   (26, .aload_n 0, 0, 0, 0, 0, 0, []),
   (27, .iload 4, 4, 0, 0, 0, 0, []),
   (29, .invokevirtual 280, 152, 1, 11, 0, 0, [(0, 4), (0, 1)])],
  [(32, .aload_n 0, 0, 0, 0, 0, 0, []),
   (33, .iload 4, 4, 0, 0, 0, 0, []),
   (35, .iload_n 1, 1, 0, 0, 0, 0, []),
   (36, .iload_n 2, 2, 0, 0, 0, 0, []),
   (37, .invokevirtual 271, 148, 3, 11, 0, 0, [(0, 9), (0, 1)]),
   (40, .if_icmp .le 10, 50, 0, 0, 0, 0, []),
   (43, .iconst 1, 0, 0, 0, 1, 0, []),
   (44, .iload 4, 4, 0, 0, 0, 0, []),
   (46, .ishl, 0, 0, 0, 0, 0, []),
   (47, .goto 4, 51, 0, 0, 0, 0, []),
   (50, .iconst 0, 0, 0, 0, 0, 0, []),
   (51, .ior, 0, 0, 0, 0, 0, []),
   (52, .istore_n 3, 3, 0, 0, 0, 0, []),
   (53, .iinc 4 1, 4, 0, 0, 1, 0, []),
   (56, .goto (-40), 16, 0, 0, 0, 0, []),
   (59, .iload_n 3, 3, 0, 0, 0, 0, []),
   (60, .ireturn, 0, 0, 0, 0, 0, [])]]
def tb_X11_parts_0 : List ax_Rw :=
  [(0, .iload_n 2, 2, 0, 0, 0, 0, []),
   (1, .i2l, 0, 0, 0, 0, 0, []),
   (2, .lstore_n 3, 3, 0, 0, 0, 0, []),
   (3, .iconst 0, 0, 0, 0, 0, 0, []),
   (4, .istore 5, 5, 0, 0, 0, 0, []),
   (6, .iload 5, 5, 0, 0, 0, 0, []),
   (8, .bipush 10, 0, 0, 0, 10, 0, []),
   (10, .if_icmp .ge 272, 282, 0, 0, 0, 0, []),
   (13, .lconst 0, 0, 0, 0, 0, 0, []),
   (14, .lstore 6, 6, 0, 0, 0, 0, []),
   (16, .iconst 0, 0, 0, 0, 0, 0, []),
   (17, .istore 8, 8, 0, 0, 0, 0, []),
   (19, .iload 8, 8, 0, 0, 0, 0, []),
   (21, .aload_n 0, 0, 0, 0, 0, 0, []),
   (22, .getfield 277, 11, 42, 0, 0, 0, []),
   (25, .if_icmp .ge 49, 74, 0, 0, 0, 0, []),
   (28, .lload 6, 6, 0, 0, 0, 0, []),
   (30, .aload_n 0, 0, 0, 0, 0, 0, []),
   (31, .getfield 89, 11, 38, 0, 0, 0, [])]
def tb_X11_parts_1 : List ax_Rw :=
  [(34, .iload 8, 8, 0, 0, 0, 0, []),
   (36, .iaload, 0, 0, 0, 0, 0, []),
   (37, .iload_n 1, 1, 0, 0, 0, 0, []),
   (38, .if_icmp .ne 26, 64, 0, 0, 0, 0, []),
   (41, .aload_n 0, 0, 0, 0, 0, 0, []),
   (42, .getfield 92, 11, 39, 0, 0, 0, []),
   (45, .iload 8, 8, 0, 0, 0, 0, []),
   (47, .iaload, 0, 0, 0, 0, 0, []),
   (48, .iload 5, 5, 0, 0, 0, 0, []),
   (50, .if_icmp .ne 14, 64, 0, 0, 0, 0, []),
   (53, .aload_n 0, 0, 0, 0, 0, 0, []),
   (54, .getfield 95, 11, 40, 0, 0, 0, []),
   (57, .iload 8, 8, 0, 0, 0, 0, []),
   (59, .iaload, 0, 0, 0, 0, 0, []),
   (60, .i2l, 0, 0, 0, 0, 0, []),
   (61, .goto 4, 65, 0, 0, 0, 0, [])]
def tb_X11_parts_2 : List ax_Rw :=
  [(64, .lconst 0, 0, 0, 0, 0, 0, []),
   (65, .ladd, 0, 0, 0, 0, 0, []),
   (66, .lstore 6, 6, 0, 0, 0, 0, []),
   (68, .iinc 8 1, 8, 0, 0, 1, 0, []),
   (71, .goto (-52), 19, 0, 0, 0, 0, []),
   (74, .lload 6, 6, 0, 0, 0, 0, []),
   (76, .lload_n 3, 3, 0, 0, 0, 0, []),
   (77, .lcmp, 0, 0, 0, 0, 0, []),
   (78, .ifCond .gt 7, 85, 0, 0, 0, 0, []),
   (81, .iconst 1, 0, 0, 0, 1, 0, []),
   (82, .goto 4, 86, 0, 0, 0, 0, []),
   (85, .iconst 0, 0, 0, 0, 0, 0, []),
   (86, .istore 8, 8, 0, 0, 0, 0, []),
   (88, .lconst 0, 0, 0, 0, 0, 0, []),
   (89, .lstore 9, 9, 0, 0, 0, 0, []),
   (91, .iconst 0, 0, 0, 0, 0, 0, []),
   (92, .istore 11, 11, 0, 0, 0, 0, []),
   (94, .iload 11, 11, 0, 0, 0, 0, [])]
def tb_X11_parts_3 : List ax_Rw :=
  [(96, .aload_n 0, 0, 0, 0, 0, 0, []),
   (97, .getfield 277, 11, 42, 0, 0, 0, []),
   (100, .if_icmp .ge 84, 184, 0, 0, 0, 0, []),
   (103, .aload_n 0, 0, 0, 0, 0, 0, []),
   (104, .getfield 89, 11, 38, 0, 0, 0, []),
   (107, .iload 11, 11, 0, 0, 0, 0, []),
   (109, .iaload, 0, 0, 0, 0, 0, []),
   (110, .iload_n 1, 1, 0, 0, 0, 0, []),
   (111, .if_icmp .ne 67, 178, 0, 0, 0, 0, []),
   (114, .aload_n 0, 0, 0, 0, 0, 0, []),
   (115, .getfield 92, 11, 39, 0, 0, 0, []),
   (118, .iload 11, 11, 0, 0, 0, 0, []),
   (120, .iaload, 0, 0, 0, 0, 0, []),
   (121, .iload 5, 5, 0, 0, 0, 0, []),
   (123, .if_icmp .eq 6, 129, 0, 0, 0, 0, []),
   (126, .goto 52, 178, 0, 0, 0, 0, [])]
def tb_X11_parts_4 : List ax_Rw :=
  [(129, .aload_n 0, 0, 0, 0, 0, 0, []),
   (130, .getfield 98, 11, 41, 0, 0, 0, []),
   (133, .iload 11, 11, 0, 0, 0, 0, []),
   (135, .iload 8, 8, 0, 0, 0, 0, []),
   (137, .ifCond .eq 13, 150, 0, 0, 0, 0, []),
   (140, .aload_n 0, 0, 0, 0, 0, 0, []),
   (141, .getfield 95, 11, 40, 0, 0, 0, []),
   (144, .iload 11, 11, 0, 0, 0, 0, []),
   (146, .iaload, 0, 0, 0, 0, 0, []),
   (147, .goto 17, 164, 0, 0, 0, 0, []),
   (150, .lload_n 3, 3, 0, 0, 0, 0, []),
   (151, .aload_n 0, 0, 0, 0, 0, 0, []),
   (152, .getfield 95, 11, 40, 0, 0, 0, []),
   (155, .iload 11, 11, 0, 0, 0, 0, []),
   (157, .iaload, 0, 0, 0, 0, 0, []),
   (158, .i2l, 0, 0, 0, 0, 0, []),
   (159, .lmul, 0, 0, 0, 0, 0, [])]
def tb_X11_parts_5 : List ax_Rw :=
  [(160, .lload 6, 6, 0, 0, 0, 0, []),
   (162, .ldiv, 0, 0, 0, 0, 0, []),
   (163, .l2i, 0, 0, 0, 0, 0, []),
   (164, .iastore, 0, 0, 0, 0, 0, []),
   (165, .lload 9, 9, 0, 0, 0, 0, []),
   (167, .aload_n 0, 0, 0, 0, 0, 0, []),
   (168, .getfield 98, 11, 41, 0, 0, 0, []),
   (171, .iload 11, 11, 0, 0, 0, 0, []),
   (173, .iaload, 0, 0, 0, 0, 0, []),
   (174, .i2l, 0, 0, 0, 0, 0, []),
   (175, .ladd, 0, 0, 0, 0, 0, []),
   (176, .lstore 9, 9, 0, 0, 0, 0, []),
   (178, .iinc 11 1, 11, 0, 0, 1, 0, []),
   (181, .goto (-87), 94, 0, 0, 0, 0, []),
   (184, .lload_n 3, 3, 0, 0, 0, 0, []),
   (185, .lload 9, 9, 0, 0, 0, 0, []),
   (187, .lsub, 0, 0, 0, 0, 0, []),
   (188, .lstore_n 3, 3, 0, 0, 0, 0, []),
   (189, .iconst 0, 0, 0, 0, 0, 0, []),
   (190, .istore 11, 11, 0, 0, 0, 0, [])]
def tb_X11_parts_6 : List ax_Rw :=
  [(192, .iload 11, 11, 0, 0, 0, 0, []),
   (194, .aload_n 0, 0, 0, 0, 0, 0, []),
   (195, .getfield 277, 11, 42, 0, 0, 0, []),
   (198, .if_icmp .ge 78, 276, 0, 0, 0, 0, []),
   (201, .iload 8, 8, 0, 0, 0, 0, []),
   (203, .ifCond .ne 73, 276, 0, 0, 0, 0, []),
   (206, .lload_n 3, 3, 0, 0, 0, 0, []),
   (207, .lconst 0, 0, 0, 0, 0, 0, []),
   (208, .lcmp, 0, 0, 0, 0, 0, []),
   (209, .ifCond .le 67, 276, 0, 0, 0, 0, []),
   (212, .aload_n 0, 0, 0, 0, 0, 0, []),
   (213, .getfield 89, 11, 38, 0, 0, 0, []),
   (216, .iload 11, 11, 0, 0, 0, 0, []),
   (218, .iaload, 0, 0, 0, 0, 0, []),
   (219, .iload_n 1, 1, 0, 0, 0, 0, []),
   (220, .if_icmp .ne 50, 270, 0, 0, 0, 0, []),
   (223, .aload_n 0, 0, 0, 0, 0, 0, [])]
def tb_X11_parts_7 : List ax_Rw :=
  [(224, .getfield 92, 11, 39, 0, 0, 0, []),
   (227, .iload 11, 11, 0, 0, 0, 0, []),
   (229, .iaload, 0, 0, 0, 0, 0, []),
   (230, .iload 5, 5, 0, 0, 0, 0, []),
   (232, .if_icmp .ne 38, 270, 0, 0, 0, 0, []),
   (235, .aload_n 0, 0, 0, 0, 0, 0, []),
   (236, .getfield 98, 11, 41, 0, 0, 0, []),
   (239, .iload 11, 11, 0, 0, 0, 0, []),
   (241, .iaload, 0, 0, 0, 0, 0, []),
   (242, .aload_n 0, 0, 0, 0, 0, 0, []),
   (243, .getfield 95, 11, 40, 0, 0, 0, []),
   (246, .iload 11, 11, 0, 0, 0, 0, []),
   (248, .iaload, 0, 0, 0, 0, 0, []),
   (249, .if_icmp .ne 6, 255, 0, 0, 0, 0, []),
   (252, .goto 18, 270, 0, 0, 0, 0, []),
   (255, .aload_n 0, 0, 0, 0, 0, 0, [])]
def tb_X11_parts_8 : List ax_Rw :=
  [(256, .getfield 98, 11, 41, 0, 0, 0, []),
   (259, .iload 11, 11, 0, 0, 0, 0, []),
   (261, .dup2, 0, 0, 0, 0, 0, []),
   (262, .iaload, 0, 0, 0, 0, 0, []),
   (263, .iconst 1, 0, 0, 0, 1, 0, []),
   (264, .iadd, 0, 0, 0, 0, 0, []),
   (265, .iastore, 0, 0, 0, 0, 0, []),
   (266, .lload_n 3, 3, 0, 0, 0, 0, []),
   (267, .lconst 1, 0, 0, 0, 0, 1, []),
   (268, .lsub, 0, 0, 0, 0, 0, []),
   (269, .lstore_n 3, 3, 0, 0, 0, 0, []),
   (270, .iinc 11 1, 11, 0, 0, 1, 0, []),
   (273, .goto (-81), 192, 0, 0, 0, 0, []),
   (276, .iinc 5 1, 5, 0, 0, 1, 0, []),
   (279, .goto (-273), 6, 0, 0, 0, 0, []),
   (282, .return_, 0, 0, 0, 0, 0, [])]
def tb_X11_parts : List (List ax_Rw) := [tb_X11_parts_0, tb_X11_parts_1, tb_X11_parts_2, tb_X11_parts_3, tb_X11_parts_4, tb_X11_parts_5, tb_X11_parts_6, tb_X11_parts_7, tb_X11_parts_8]
def tb_X11_part : List (List ax_Rw) := [
  [(0, .iload_n 1, 1, 0, 0, 0, 0, []),
   (1, .i2l, 0, 0, 0, 0, 0, []),
   (2, .lconst 0, 0, 0, 0, 0, 0, []),
   (3, .aload_n 0, 0, 0, 0, 0, 0, []),
   (4, .getfield 277, 11, 42, 0, 0, 0, []),
   (7, .iconst 1, 0, 0, 0, 1, 0, []),
   (8, .isub, 0, 0, 0, 0, 0, []),
   (9, .i2l, 0, 0, 0, 0, 0, []),
   (10, .invokestatic 125, 108, 3, 11, 0, 0, [(0, 6), (0, 1)]),
   (13, .ifCond .ne 5, 18, 0, 0, 0, 0, []),
   (16, .iconst (-1), 0, 0, 0, (-1), 0, []),
   (17, .ireturn, 0, 0, 0, 0, 0, []),
   (18, .iload_n 2, 2, 0, 0, 0, 0, []),
   (19, .i2l, 0, 0, 0, 0, 0, []),
   (20, .lconst 0, 0, 0, 0, 0, 0, []),
   (21, .ldc2_w 283, 0, 0, 0, 0, 999999, []),
   (24, .invokestatic 125, 108, 3, 11, 0, 0, [(0, 6), (0, 1)]),
   (27, .ifCond .ne 6, 33, 0, 0, 0, 0, []),
   (30, .bipush (-2), 0, 0, 0, (-2), 0, [])],
  [(32, .ireturn, 0, 0, 0, 0, 0, []),
   (33, .aload_n 0, 0, 0, 0, 0, 0, []),
   (34, .aload_n 0, 0, 0, 0, 0, 0, []),
   (35, .getfield 89, 11, 38, 0, 0, 0, []),
   (38, .iload_n 1, 1, 0, 0, 0, 0, []),
   (39, .iaload, 0, 0, 0, 0, 0, []),
   (40, .iload_n 2, 2, 0, 0, 0, 0, []),
   (41, .invokevirtual 285, 155, 2, 11, 0, 0, [(0, 12), (0, 0)]),
   (44, .aload_n 0, 0, 0, 0, 0, 0, []),
   (45, .getfield 98, 11, 41, 0, 0, 0, []),
   (48, .iload_n 1, 1, 0, 0, 0, 0, []),
   (49, .iaload, 0, 0, 0, 0, 0, []),
   (50, .ireturn, 0, 0, 0, 0, 0, [])]]
def tb_X11_over : List (List ax_Rw) := [
  [(0, .aload_n 0, 0, 0, 0, 0, 0, []),
   (1, .iload_n 1, 1, 0, 0, 0, 0, []),
   (2, .invokevirtual 139, 109, 1, 11, 0, 0, [(0, 2), (0, 1)]),
   (5, .ifCond .ne 5, 10, 0, 0, 0, 0, []),
   (8, .iconst (-1), 0, 0, 0, (-1), 0, []),
   (9, .ireturn, 0, 0, 0, 0, 0, []),
   (10, .iload_n 2, 2, 0, 0, 0, 0, []),
   (11, .i2l, 0, 0, 0, 0, 0, []),
   (12, .lconst 0, 0, 0, 0, 0, 0, []),
   (13, .ldc2_w 283, 0, 0, 0, 0, 999999, []),
   (16, .invokestatic 125, 108, 3, 11, 0, 0, [(0, 6), (0, 1)]),
   (19, .ifCond .ne 6, 25, 0, 0, 0, 0, []),
   (22, .bipush (-2), 0, 0, 0, (-2), 0, []),
   (24, .ireturn, 0, 0, 0, 0, 0, []),
   (25, .aload_n 0, 0, 0, 0, 0, 0, []),
   (26, .iload_n 1, 1, 0, 0, 0, 0, []),
   (27, .invokevirtual 280, 152, 1, 11, 0, 0, [(0, 4), (0, 1)]),
   (30, .istore_n 3, 3, 0, 0, 0, 0, []),
   (31, .iload_n 2, 2, 0, 0, 0, 0, [])],
  [(32, .iload_n 3, 3, 0, 0, 0, 0, []),
   (33, .if_icmp .le 9, 42, 0, 0, 0, 0, []),
   (36, .iload_n 2, 2, 0, 0, 0, 0, []),
   (37, .iload_n 3, 3, 0, 0, 0, 0, []),
   (38, .isub, 0, 0, 0, 0, 0, []),
   (39, .goto 4, 43, 0, 0, 0, 0, []),
   (42, .iconst 0, 0, 0, 0, 0, 0, []),
   (43, .ireturn, 0, 0, 0, 0, 0, [])]]
def tb_X11_rescue : List (List ax_Rw) := [
  [(0, .aload_n 0, 0, 0, 0, 0, 0, []),
   (1, .iload_n 1, 1, 0, 0, 0, 0, []),
   (2, .invokevirtual 139, 109, 1, 11, 0, 0, [(0, 2), (0, 1)]),
   (5, .ifCond .ne 5, 10, 0, 0, 0, 0, []),
   (8, .iconst (-1), 0, 0, 0, (-1), 0, []),
   (9, .ireturn, 0, 0, 0, 0, 0, []),
   (10, .iload_n 2, 2, 0, 0, 0, 0, []),
   (11, .i2l, 0, 0, 0, 0, 0, []),
   (12, .lconst 0, 0, 0, 0, 0, 0, []),
   (13, .ldc2_w 289, 0, 0, 0, 0, 100, []),
   (16, .invokestatic 125, 108, 3, 11, 0, 0, [(0, 6), (0, 1)]),
   (19, .ifCond .eq 12, 31, 0, 0, 0, 0, []),
   (22, .iload_n 3, 3, 0, 0, 0, 0, []),
   (23, .iload 4, 4, 0, 0, 0, 0, []),
   (25, .invokestatic 268, 147, 2, 11, 0, 0, [(0, 2), (0, 1)]),
   (28, .ifCond .ne 6, 34, 0, 0, 0, 0, []),
   (31, .bipush (-2), 0, 0, 0, (-2), 0, [])],
  [(33, .ireturn, 0, 0, 0, 0, 0, []),
   (34, .aload_n 0, 0, 0, 0, 0, 0, []),
   (35, .iload_n 1, 1, 0, 0, 0, 0, []),
   (36, .invokevirtual 280, 152, 1, 11, 0, 0, [(0, 4), (0, 1)]),
   (39, .istore 5, 5, 0, 0, 0, 0, []),
   (41, .aload_n 0, 0, 0, 0, 0, 0, []),
   (42, .iload_n 1, 1, 0, 0, 0, 0, []),
   (43, .iload_n 3, 3, 0, 0, 0, 0, []),
   (44, .iload 4, 4, 0, 0, 0, 0, []),
   (46, .invokevirtual 271, 148, 3, 11, 0, 0, [(0, 9), (0, 1)]),
   (49, .istore 6, 6, 0, 0, 0, 0, []),
   (51, .iload 5, 5, 0, 0, 0, 0, []),
   (53, .iload 6, 6, 0, 0, 0, 0, []),
   (55, .if_icmp .gt 6, 61, 0, 0, 0, 0, []),
   (58, .bipush (-3), 0, 0, 0, (-3), 0, []),
   (60, .ireturn, 0, 0, 0, 0, 0, []),
   (61, .aload_n 0, 0, 0, 0, 0, 0, []),
   (62, .iload_n 1, 1, 0, 0, 0, 0, []),
   (63, .iload 6, 6, 0, 0, 0, 0, [])],
  [(65, .i2l, 0, 0, 0, 0, 0, []),
   (66, .iload_n 2, 2, 0, 0, 0, 0, []),
   (67, .i2l, 0, 0, 0, 0, 0, []),
   (68, .lmul, 0, 0, 0, 0, 0, []),
   (69, .ldc2_w 289, 0, 0, 0, 0, 100, []),
   (72, .ldiv, 0, 0, 0, 0, 0, []),
   (73, .l2i, 0, 0, 0, 0, 0, []),
   (74, .invokevirtual 285, 155, 2, 11, 0, 0, [(0, 12), (0, 0)]),
   (77, .iconst 0, 0, 0, 0, 0, 0, []),
   (78, .istore 7, 7, 0, 0, 0, 0, []),
   (80, .iload 7, 7, 0, 0, 0, 0, []),
   (82, .aload_n 0, 0, 0, 0, 0, 0, []),
   (83, .getfield 277, 11, 42, 0, 0, 0, []),
   (86, .if_icmp .ge 34, 120, 0, 0, 0, 0, []),
   (89, .aload_n 0, 0, 0, 0, 0, 0, []),
   (90, .getfield 89, 11, 38, 0, 0, 0, []),
   (93, .iload 7, 7, 0, 0, 0, 0, []),
   (95, .iaload, 0, 0, 0, 0, 0, [])],
  [(96, .iload_n 1, 1, 0, 0, 0, 0, []),
   (97, .if_icmp .ne 17, 114, 0, 0, 0, 0, []),
   (100, .aload_n 0, 0, 0, 0, 0, 0, []),
   (101, .getfield 95, 11, 40, 0, 0, 0, []),
   (104, .iload 7, 7, 0, 0, 0, 0, []),
   (106, .aload_n 0, 0, 0, 0, 0, 0, []),
   (107, .getfield 98, 11, 41, 0, 0, 0, []),
   (110, .iload 7, 7, 0, 0, 0, 0, []),
   (112, .iaload, 0, 0, 0, 0, 0, []),
   (113, .iastore, 0, 0, 0, 0, 0, []),
   (114, .iinc 7 1, 7, 0, 0, 1, 0, []),
   (117, .goto (-37), 80, 0, 0, 0, 0, []),
   (120, .iload 5, 5, 0, 0, 0, 0, []),
   (122, .aload_n 0, 0, 0, 0, 0, 0, []),
   (123, .iload_n 1, 1, 0, 0, 0, 0, []),
   (124, .invokevirtual 280, 152, 1, 11, 0, 0, [(0, 4), (0, 1)]),
   (127, .isub, 0, 0, 0, 0, 0, [])],
  [(128, .ireturn, 0, 0, 0, 0, 0, [])]]
def tb_X11_swap : List (List ax_Rw) := [
  [(0, .iload_n 1, 1, 0, 0, 0, 0, []),
   (1, .i2l, 0, 0, 0, 0, 0, []),
   (2, .lconst 1, 0, 0, 0, 0, 1, []),
   (3, .ldc2_w 170, 0, 0, 0, 0, 255, []),
   (6, .invokestatic 125, 108, 3, 11, 0, 0, [(0, 6), (0, 1)]),
   (9, .ifCond .ne 6, 15, 0, 0, 0, 0, []),
   (12, .bipush (-2), 0, 0, 0, (-2), 0, []),
   (14, .ireturn, 0, 0, 0, 0, 0, []),
   (15, .aload_n 0, 0, 0, 0, 0, 0, []),
   (16, .getfield 291, 11, 47, 0, 0, 0, []),
   (19, .bipush 6, 0, 0, 0, 6, 0, []),
   (21, .if_icmp .ne 6, 27, 0, 0, 0, 0, []),
   (24, .bipush (-4), 0, 0, 0, (-4), 0, []),
   (26, .ireturn, 0, 0, 0, 0, 0, []),
   (27, .aload_n 0, 0, 0, 0, 0, 0, []),
   (28, .getfield 101, 11, 43, 0, 0, 0, []),
   (31, .aload_n 0, 0, 0, 0, 0, 0, [])],
  [(32, .getfield 291, 11, 47, 0, 0, 0, []),
   (35, .iload_n 1, 1, 0, 0, 0, 0, []),
   (36, .iastore, 0, 0, 0, 0, 0, []),
   (37, .aload_n 0, 0, 0, 0, 0, 0, []),
   (38, .dup, 0, 0, 0, 0, 0, []),
   (39, .getfield 291, 11, 47, 0, 0, 0, []),
   (42, .iconst 1, 0, 0, 0, 1, 0, []),
   (43, .iadd, 0, 0, 0, 0, 0, []),
   (44, .putfield 291, 11, 47, 0, 0, 0, []),
   (47, .aload_n 0, 0, 0, 0, 0, 0, []),
   (48, .getfield 291, 11, 47, 0, 0, 0, []),
   (51, .iconst 1, 0, 0, 0, 1, 0, []),
   (52, .isub, 0, 0, 0, 0, 0, []),
   (53, .ireturn, 0, 0, 0, 0, 0, [])]]
def tb_X11_unswap : List (List ax_Rw) := [
  [(0, .aload_n 0, 0, 0, 0, 0, 0, []),
   (1, .getfield 291, 11, 47, 0, 0, 0, []),
   (4, .istore_n 1, 1, 0, 0, 0, 0, []),
   (5, .aload_n 0, 0, 0, 0, 0, 0, []),
   (6, .iconst 0, 0, 0, 0, 0, 0, []),
   (7, .putfield 291, 11, 47, 0, 0, 0, []),
   (10, .iload_n 1, 1, 0, 0, 0, 0, []),
   (11, .ireturn, 0, 0, 0, 0, 0, [])]]
def tb_X11_asksAt : List (List ax_Rw) := [
  [(0, .iconst 0, 0, 0, 0, 0, 0, []),
   (1, .istore_n 2, 2, 0, 0, 0, 0, []),
   (2, .iconst 0, 0, 0, 0, 0, 0, []),
   (3, .istore_n 3, 3, 0, 0, 0, 0, []),
   (4, .iload_n 3, 3, 0, 0, 0, 0, []),
   (5, .iconst 5, 0, 0, 0, 5, 0, []),
   (6, .if_icmp .ge 25, 31, 0, 0, 0, 0, []),
   (9, .iload_n 2, 2, 0, 0, 0, 0, []),
   (10, .aload_n 0, 0, 0, 0, 0, 0, []),
   (11, .getfield 52, 11, 21, 0, 0, 0, []),
   (14, .iconst 5, 0, 0, 0, 5, 0, []),
   (15, .bipush 12, 0, 0, 0, 12, 0, []),
   (17, .iload_n 1, 1, 0, 0, 0, 0, []),
   (18, .iadd, 0, 0, 0, 0, 0, []),
   (19, .imul, 0, 0, 0, 0, 0, []),
   (20, .iload_n 3, 3, 0, 0, 0, 0, []),
   (21, .iadd, 0, 0, 0, 0, 0, []),
   (22, .iaload, 0, 0, 0, 0, 0, []),
   (23, .iadd, 0, 0, 0, 0, 0, []),
   (24, .istore_n 2, 2, 0, 0, 0, 0, []),
   (25, .iinc 3 1, 3, 0, 0, 1, 0, []),
   (28, .goto (-24), 4, 0, 0, 0, 0, []),
   (31, .iload_n 2, 2, 0, 0, 0, 0, [])],
  [(32, .ireturn, 0, 0, 0, 0, 0, [])]]
def tb_X11_looks : List (List ax_Rw) := [
  [(0, .iconst 0, 0, 0, 0, 0, 0, []),
   (1, .istore_n 1, 1, 0, 0, 0, 0, []),
   (2, .iconst 0, 0, 0, 0, 0, 0, []),
   (3, .istore_n 2, 2, 0, 0, 0, 0, []),
   (4, .iconst 0, 0, 0, 0, 0, 0, []),
   (5, .istore_n 3, 3, 0, 0, 0, 0, []),
   (6, .iload_n 3, 3, 0, 0, 0, 0, []),
   (7, .bipush 8, 0, 0, 0, 8, 0, []),
   (9, .if_icmp .ge 16, 25, 0, 0, 0, 0, []),
   (12, .aload_n 0, 0, 0, 0, 0, 0, []),
   (13, .getfield 110, 11, 46, 0, 0, 0, []),
   (16, .iload_n 3, 3, 0, 0, 0, 0, []),
   (17, .iconst 0, 0, 0, 0, 0, 0, []),
   (18, .iastore, 0, 0, 0, 0, 0, []),
   (19, .iinc 3 1, 3, 0, 0, 1, 0, []),
   (22, .goto (-16), 6, 0, 0, 0, 0, []),
   (25, .iconst 0, 0, 0, 0, 0, 0, []),
   (26, .istore_n 3, 3, 0, 0, 0, 0, []),
   (27, .iload_n 3, 3, 0, 0, 0, 0, []),
   (28, .aload_n 0, 0, 0, 0, 0, 0, []),
   (29, .getfield 291, 11, 47, 0, 0, 0, [])],
  [(32, .if_icmp .ge 64, 96, 0, 0, 0, 0, []),
   (35, .aload_n 0, 0, 0, 0, 0, 0, []),
   (36, .getfield 110, 11, 46, 0, 0, 0, []),
   (39, .aload_n 0, 0, 0, 0, 0, 0, []),
   (40, .getfield 104, 11, 44, 0, 0, 0, []),
   (43, .iload_n 3, 3, 0, 0, 0, 0, []),
   (44, .iaload, 0, 0, 0, 0, 0, []),
   (45, .dup2, 0, 0, 0, 0, 0, []),
   (46, .iaload, 0, 0, 0, 0, 0, []),
   (47, .iconst 1, 0, 0, 0, 1, 0, []),
   (48, .iadd, 0, 0, 0, 0, 0, []),
   (49, .iastore, 0, 0, 0, 0, 0, []),
   (50, .aload_n 0, 0, 0, 0, 0, 0, []),
   (51, .getfield 110, 11, 46, 0, 0, 0, []),
   (54, .aload_n 0, 0, 0, 0, 0, 0, []),
   (55, .getfield 104, 11, 44, 0, 0, 0, []),
   (58, .iload_n 3, 3, 0, 0, 0, 0, []),
   (59, .iaload, 0, 0, 0, 0, 0, []),
   (60, .iaload, 0, 0, 0, 0, 0, []),
   (61, .iload_n 1, 1, 0, 0, 0, 0, []),
   (62, .if_icmp .le 15, 77, 0, 0, 0, 0, [])],
  [(65, .aload_n 0, 0, 0, 0, 0, 0, []),
   (66, .getfield 110, 11, 46, 0, 0, 0, []),
   (69, .aload_n 0, 0, 0, 0, 0, 0, []),
   (70, .getfield 104, 11, 44, 0, 0, 0, []),
   (73, .iload_n 3, 3, 0, 0, 0, 0, []),
   (74, .iaload, 0, 0, 0, 0, 0, []),
   (75, .iaload, 0, 0, 0, 0, 0, []),
   (76, .istore_n 1, 1, 0, 0, 0, 0, []),
   (77, .iload_n 2, 2, 0, 0, 0, 0, []),
   (78, .aload_n 0, 0, 0, 0, 0, 0, []),
   (79, .aload_n 0, 0, 0, 0, 0, 0, []),
   (80, .getfield 104, 11, 44, 0, 0, 0, []),
   (83, .iload_n 3, 3, 0, 0, 0, 0, []),
   (84, .iaload, 0, 0, 0, 0, 0, []),
   (85, .invokevirtual 294, 161, 1, 11, 0, 0, [(0, 4), (0, 1)]),
   (88, .iadd, 0, 0, 0, 0, 0, []),
   (89, .istore_n 2, 2, 0, 0, 0, 0, []),
   (90, .iinc 3 1, 3, 0, 0, 1, 0, []),
   (93, .goto (-66), 27, 0, 0, 0, 0, [])],
  [(96, .iload_n 1, 1, 0, 0, 0, 0, []),
   (97, .aload_n 0, 0, 0, 0, 0, 0, []),
   (98, .getfield 297, 11, 48, 0, 0, 0, []),
   (101, .if_icmp .gt 19, 120, 0, 0, 0, 0, []),
   (104, .iload_n 1, 1, 0, 0, 0, 0, []),
   (105, .aload_n 0, 0, 0, 0, 0, 0, []),
   (106, .getfield 297, 11, 48, 0, 0, 0, []),
   (109, .if_icmp .ne 12, 121, 0, 0, 0, 0, []),
   (112, .iload_n 2, 2, 0, 0, 0, 0, []),
   (113, .aload_n 0, 0, 0, 0, 0, 0, []),
   (114, .getfield 300, 11, 49, 0, 0, 0, []),
   (117, .if_icmp .lt 4, 121, 0, 0, 0, 0, []),
   (120, .return_, 0, 0, 0, 0, 0, []),
   (121, .aload_n 0, 0, 0, 0, 0, 0, []),
   (122, .iload_n 1, 1, 0, 0, 0, 0, []),
   (123, .putfield 297, 11, 48, 0, 0, 0, []),
   (126, .aload_n 0, 0, 0, 0, 0, 0, []),
   (127, .iload_n 2, 2, 0, 0, 0, 0, [])],
  [(128, .putfield 300, 11, 49, 0, 0, 0, []),
   (131, .iconst 0, 0, 0, 0, 0, 0, []),
   (132, .istore_n 3, 3, 0, 0, 0, 0, []),
   (133, .iload_n 3, 3, 0, 0, 0, 0, []),
   (134, .aload_n 0, 0, 0, 0, 0, 0, []),
   (135, .getfield 291, 11, 47, 0, 0, 0, []),
   (138, .if_icmp .ge 21, 159, 0, 0, 0, 0, []),
   (141, .aload_n 0, 0, 0, 0, 0, 0, []),
   (142, .getfield 107, 11, 45, 0, 0, 0, []),
   (145, .iload_n 3, 3, 0, 0, 0, 0, []),
   (146, .aload_n 0, 0, 0, 0, 0, 0, []),
   (147, .getfield 104, 11, 44, 0, 0, 0, []),
   (150, .iload_n 3, 3, 0, 0, 0, 0, []),
   (151, .iaload, 0, 0, 0, 0, 0, []),
   (152, .iastore, 0, 0, 0, 0, 0, []),
   (153, .iinc 3 1, 3, 0, 0, 1, 0, []),
   (156, .goto (-23), 133, 0, 0, 0, 0, []),
   (159, .return_, 0, 0, 0, 0, 0, [])]]
def tb_X11_hourFrom : List (List ax_Rw) := [
  [(0, .iload_n 2, 2, 0, 0, 0, 0, []),
   (1, .istore_n 3, 3, 0, 0, 0, 0, []),
   (2, .iload_n 3, 3, 0, 0, 0, 0, []),
   (3, .bipush 8, 0, 0, 0, 8, 0, []),
   (5, .if_icmp .ge 22, 27, 0, 0, 0, 0, []),
   (8, .aload_n 0, 0, 0, 0, 0, 0, []),
   (9, .getfield 101, 11, 43, 0, 0, 0, []),
   (12, .iload_n 1, 1, 0, 0, 0, 0, []),
   (13, .iaload, 0, 0, 0, 0, 0, []),
   (14, .iload_n 3, 3, 0, 0, 0, 0, []),
   (15, .ishr, 0, 0, 0, 0, 0, []),
   (16, .iconst 1, 0, 0, 0, 1, 0, []),
   (17, .iand, 0, 0, 0, 0, 0, []),
   (18, .ifCond .ne 9, 27, 0, 0, 0, 0, []),
   (21, .iinc 3 1, 3, 0, 0, 1, 0, []),
   (24, .goto (-22), 2, 0, 0, 0, 0, []),
   (27, .iload_n 3, 3, 0, 0, 0, 0, []),
   (28, .ireturn, 0, 0, 0, 0, 0, [])]]
def tb_X11_goesOn : List (List ax_Rw) := [
  [(0, .aload_n 0, 0, 0, 0, 0, 0, []),
   (1, .getfield 291, 11, 47, 0, 0, 0, []),
   (4, .iconst 1, 0, 0, 0, 1, 0, []),
   (5, .isub, 0, 0, 0, 0, 0, []),
   (6, .istore_n 1, 1, 0, 0, 0, 0, []),
   (7, .iload_n 1, 1, 0, 0, 0, 0, []),
   (8, .ifCond .lt 53, 61, 0, 0, 0, 0, []),
   (11, .aload_n 0, 0, 0, 0, 0, 0, []),
   (12, .getfield 104, 11, 44, 0, 0, 0, []),
   (15, .iload_n 1, 1, 0, 0, 0, 0, []),
   (16, .aload_n 0, 0, 0, 0, 0, 0, []),
   (17, .iload_n 1, 1, 0, 0, 0, 0, []),
   (18, .aload_n 0, 0, 0, 0, 0, 0, []),
   (19, .getfield 104, 11, 44, 0, 0, 0, []),
   (22, .iload_n 1, 1, 0, 0, 0, 0, []),
   (23, .iaload, 0, 0, 0, 0, 0, []),
   (24, .iconst 1, 0, 0, 0, 1, 0, []),
   (25, .iadd, 0, 0, 0, 0, 0, []),
   (26, .invokevirtual 303, 163, 2, 11, 0, 0, [(0, 4), (0, 1)]),
   (29, .iastore, 0, 0, 0, 0, 0, []),
   (30, .aload_n 0, 0, 0, 0, 0, 0, []),
   (31, .getfield 104, 11, 44, 0, 0, 0, [])],
  [(34, .iload_n 1, 1, 0, 0, 0, 0, []),
   (35, .iaload, 0, 0, 0, 0, 0, []),
   (36, .bipush 8, 0, 0, 0, 8, 0, []),
   (38, .if_icmp .ge 5, 43, 0, 0, 0, 0, []),
   (41, .iconst 1, 0, 0, 0, 1, 0, []),
   (42, .ireturn, 0, 1, 0, 0, 0, []),
   (43, .aload_n 0, 0, 0, 0, 0, 0, []),
   (44, .getfield 104, 11, 44, 0, 0, 0, []),
   (47, .iload_n 1, 1, 0, 0, 0, 0, []),
   (48, .aload_n 0, 0, 0, 0, 0, 0, []),
   (49, .iload_n 1, 1, 0, 0, 0, 0, []),
   (50, .iconst 0, 0, 0, 0, 0, 0, []),
   (51, .invokevirtual 303, 163, 2, 11, 0, 0, [(0, 4), (0, 1)]),
   (54, .iastore, 0, 0, 0, 0, 0, []),
   (55, .iinc 1 (-1), 1, 0, 0, (-1), 0, []),
   (58, .goto (-51), 7, 0, 0, 0, 0, []),
   (61, .iconst 0, 0, 0, 0, 0, 0, []),
   (62, .ireturn, 0, 1, 0, 0, 0, [])]]
def tb_X11_spreads : List (List ax_Rw) := [
  [(0, .iconst 0, 0, 0, 0, 0, 0, []),
   (1, .istore_n 1, 1, 0, 0, 0, 0, []),
   (2, .iload_n 1, 1, 0, 0, 0, 0, []),
   (3, .aload_n 0, 0, 0, 0, 0, 0, []),
   (4, .getfield 291, 11, 47, 0, 0, 0, []),
   (7, .if_icmp .ge 21, 28, 0, 0, 0, 0, []),
   (10, .aload_n 0, 0, 0, 0, 0, 0, []),
   (11, .getfield 104, 11, 44, 0, 0, 0, []),
   (14, .iload_n 1, 1, 0, 0, 0, 0, []),
   (15, .aload_n 0, 0, 0, 0, 0, 0, []),
   (16, .iload_n 1, 1, 0, 0, 0, 0, []),
   (17, .iconst 0, 0, 0, 0, 0, 0, []),
   (18, .invokevirtual 303, 163, 2, 11, 0, 0, [(0, 4), (0, 1)]),
   (21, .iastore, 0, 0, 0, 0, 0, []),
   (22, .iinc 1 1, 1, 0, 0, 1, 0, []),
   (25, .goto (-23), 2, 0, 0, 0, 0, []),
   (28, .iconst 1, 0, 0, 0, 1, 0, []),
   (29, .istore_n 1, 1, 0, 0, 0, 0, []),
   (30, .iload_n 1, 1, 0, 0, 0, 0, []),
   (31, .ifCond .eq 15, 46, 0, 0, 0, 0, [])],
  [(34, .aload_n 0, 0, 0, 0, 0, 0, []),
   (35, .invokevirtual 306, 162, 0, 11, 0, 0, [(0, 4), (0, 0)]),
   (38, .aload_n 0, 0, 0, 0, 0, 0, []),
   (39, .invokevirtual 309, 164, 0, 11, 0, 0, [(0, 2), (0, 1)]),
   (42, .istore_n 1, 1, 0, 0, 0, 0, []),
   (43, .goto (-13), 30, 0, 0, 0, 0, []),
   (46, .return_, 0, 0, 0, 0, 0, [])]]
def tb_X11_spread : List (List ax_Rw) := [
  [(0, .iload_n 1, 1, 0, 0, 0, 0, []),
   (1, .i2l, 0, 0, 0, 0, 0, []),
   (2, .lconst 0, 0, 0, 0, 0, 0, []),
   (3, .iconst 1, 0, 0, 0, 1, 0, []),
   (4, .aload_n 0, 0, 0, 0, 0, 0, []),
   (5, .getfield 291, 11, 47, 0, 0, 0, []),
   (8, .iadd, 0, 0, 0, 0, 0, []),
   (9, .i2l, 0, 0, 0, 0, 0, []),
   (10, .invokestatic 125, 108, 3, 11, 0, 0, [(0, 6), (0, 1)]),
   (13, .ifCond .ne 5, 18, 0, 0, 0, 0, []),
   (16, .iconst (-1), 0, 0, 0, (-1), 0, []),
   (17, .ireturn, 0, 0, 0, 0, 0, []),
   (18, .aload_n 0, 0, 0, 0, 0, 0, []),
   (19, .bipush 100, 0, 0, 0, 100, 0, []),
   (21, .putfield 297, 11, 48, 0, 0, 0, []),
   (24, .aload_n 0, 0, 0, 0, 0, 0, []),
   (25, .iconst 0, 0, 0, 0, 0, 0, []),
   (26, .putfield 300, 11, 49, 0, 0, 0, []),
   (29, .aload_n 0, 0, 0, 0, 0, 0, []),
   (30, .invokevirtual 313, 165, 0, 11, 0, 0, [(0, 2), (0, 0)])],
  [(33, .iload_n 1, 1, 0, 0, 0, 0, []),
   (34, .ifCond .ne 10, 44, 0, 0, 0, 0, []),
   (37, .aload_n 0, 0, 0, 0, 0, 0, []),
   (38, .getfield 297, 11, 48, 0, 0, 0, []),
   (41, .goto 26, 67, 0, 0, 0, 0, []),
   (44, .iload_n 1, 1, 0, 0, 0, 0, []),
   (45, .iconst 1, 0, 0, 0, 1, 0, []),
   (46, .if_icmp .ne 10, 56, 0, 0, 0, 0, []),
   (49, .aload_n 0, 0, 0, 0, 0, 0, []),
   (50, .getfield 300, 11, 49, 0, 0, 0, []),
   (53, .goto 14, 67, 0, 0, 0, 0, []),
   (56, .bipush 12, 0, 0, 0, 12, 0, []),
   (58, .aload_n 0, 0, 0, 0, 0, 0, []),
   (59, .getfield 107, 11, 45, 0, 0, 0, []),
   (62, .iload_n 1, 1, 0, 0, 0, 0, []),
   (63, .iconst 2, 0, 0, 0, 2, 0, [])],
  [(64, .isub, 0, 0, 0, 0, 0, []),
   (65, .iaload, 0, 0, 0, 0, 0, []),
   (66, .iadd, 0, 0, 0, 0, 0, []),
   (67, .ireturn, 0, 0, 0, 0, 0, [])]]
def tb_X11_placeOf : List (List ax_Rw) := [
  [(0, .iconst 0, 0, 0, 0, 0, 0, []),
   (1, .istore_n 2, 2, 0, 0, 0, 0, []),
   (2, .iload_n 2, 2, 0, 0, 0, 0, []),
   (3, .aload_n 0, 0, 0, 0, 0, 0, []),
   (4, .getfield 316, 11, 51, 0, 0, 0, []),
   (7, .if_icmp .ge 21, 28, 0, 0, 0, 0, []),
   (10, .aload_n 0, 0, 0, 0, 0, 0, []),
   (11, .getfield 113, 11, 50, 0, 0, 0, []),
   (14, .iload_n 2, 2, 0, 0, 0, 0, []),
   (15, .iaload, 0, 0, 0, 0, 0, []),
   (16, .iload_n 1, 1, 0, 0, 0, 0, []),
   (17, .if_icmp .ne 5, 22, 0, 0, 0, 0, []),
   (20, .iload_n 2, 2, 0, 0, 0, 0, []),
   (21, .ireturn, 0, 0, 0, 0, 0, []),
   (22, .iinc 2 1, 2, 0, 0, 1, 0, []),
   (25, .goto (-23), 2, 0, 0, 0, 0, []),
   (28, .iconst (-1), 0, 0, 0, (-1), 0, []),
   (29, .ireturn, 0, 0, 0, 0, 0, [])]]
def tb_X11_goesFrom : List (List ax_Rw) := [
  [(0, .aload_n 0, 0, 0, 0, 0, 0, []),
   (1, .dup, 0, 0, 0, 0, 0, []),
   (2, .getfield 316, 11, 51, 0, 0, 0, []),
   (5, .iconst 1, 0, 0, 0, 1, 0, []),
   (6, .isub, 0, 0, 0, 0, 0, []),
   (7, .putfield 316, 11, 51, 0, 0, 0, []),
   (10, .iload_n 1, 1, 0, 0, 0, 0, []),
   (11, .istore_n 2, 2, 0, 0, 0, 0, []),
   (12, .iload_n 2, 2, 0, 0, 0, 0, []),
   (13, .aload_n 0, 0, 0, 0, 0, 0, []),
   (14, .getfield 316, 11, 51, 0, 0, 0, []),
   (17, .if_icmp .ge 23, 40, 0, 0, 0, 0, []),
   (20, .aload_n 0, 0, 0, 0, 0, 0, []),
   (21, .getfield 113, 11, 50, 0, 0, 0, []),
   (24, .iload_n 2, 2, 0, 0, 0, 0, []),
   (25, .aload_n 0, 0, 0, 0, 0, 0, []),
   (26, .getfield 113, 11, 50, 0, 0, 0, []),
   (29, .iload_n 2, 2, 0, 0, 0, 0, []),
   (30, .iconst 1, 0, 0, 0, 1, 0, []),
   (31, .iadd, 0, 0, 0, 0, 0, [])],
  [(32, .iaload, 0, 0, 0, 0, 0, []),
   (33, .iastore, 0, 0, 0, 0, 0, []),
   (34, .iinc 2 1, 2, 0, 0, 1, 0, []),
   (37, .goto (-25), 12, 0, 0, 0, 0, []),
   (40, .return_, 0, 0, 0, 0, 0, [])]]
def tb_X11_join : List (List ax_Rw) := [
  [(0, .aload_n 0, 0, 0, 0, 0, 0, []),
   (1, .iload_n 1, 1, 0, 0, 0, 0, []),
   (2, .invokevirtual 139, 109, 1, 11, 0, 0, [(0, 2), (0, 1)]),
   (5, .ifCond .ne 5, 10, 0, 0, 0, 0, []),
   (8, .iconst (-1), 0, 0, 0, (-1), 0, []),
   (9, .ireturn, 0, 0, 0, 0, 0, []),
   (10, .aload_n 0, 0, 0, 0, 0, 0, []),
   (11, .iload_n 1, 1, 0, 0, 0, 0, []),
   (12, .invokevirtual 319, 167, 1, 11, 0, 0, [(0, 3), (0, 1)]),
   (15, .ifCond .lt 6, 21, 0, 0, 0, 0, []),
   (18, .bipush (-3), 0, 0, 0, (-3), 0, []),
   (20, .ireturn, 0, 0, 0, 0, 0, []),
   (21, .aload_n 0, 0, 0, 0, 0, 0, []),
   (22, .getfield 113, 11, 50, 0, 0, 0, []),
   (25, .aload_n 0, 0, 0, 0, 0, 0, []),
   (26, .getfield 316, 11, 51, 0, 0, 0, []),
   (29, .iload_n 1, 1, 0, 0, 0, 0, []),
   (30, .iastore, 0, 0, 0, 0, 0, []),
   (31, .aload_n 0, 0, 0, 0, 0, 0, [])],
  [(32, .dup, 0, 0, 0, 0, 0, []),
   (33, .getfield 316, 11, 51, 0, 0, 0, []),
   (36, .iconst 1, 0, 0, 0, 1, 0, []),
   (37, .iadd, 0, 0, 0, 0, 0, []),
   (38, .putfield 316, 11, 51, 0, 0, 0, []),
   (41, .aload_n 0, 0, 0, 0, 0, 0, []),
   (42, .getfield 316, 11, 51, 0, 0, 0, []),
   (45, .ireturn, 0, 0, 0, 0, 0, [])]]
def tb_X11_call : List (List ax_Rw) := [
  [(0, .iload_n 1, 1, 0, 0, 0, 0, []),
   (1, .i2l, 0, 0, 0, 0, 0, []),
   (2, .lconst 0, 0, 0, 0, 0, 0, []),
   (3, .lconst 1, 0, 0, 0, 0, 1, []),
   (4, .invokestatic 125, 108, 3, 11, 0, 0, [(0, 6), (0, 1)]),
   (7, .ifCond .ne 6, 13, 0, 0, 0, 0, []),
   (10, .bipush (-2), 0, 0, 0, (-2), 0, []),
   (12, .ireturn, 0, 0, 0, 0, 0, []),
   (13, .iconst 0, 0, 0, 0, 0, 0, []),
   (14, .istore_n 2, 2, 0, 0, 0, 0, []),
   (15, .iload_n 2, 2, 0, 0, 0, 0, []),
   (16, .aload_n 0, 0, 0, 0, 0, 0, []),
   (17, .getfield 316, 11, 51, 0, 0, 0, []),
   (20, .if_icmp .ge 41, 61, 0, 0, 0, 0, []),
   (23, .aload_n 0, 0, 0, 0, 0, 0, []),
   (24, .getfield 113, 11, 50, 0, 0, 0, []),
   (27, .iload_n 2, 2, 0, 0, 0, 0, []),
   (28, .iaload, 0, 0, 0, 0, 0, []),
   (29, .istore_n 3, 3, 0, 0, 0, 0, []),
   (30, .iload_n 1, 1, 0, 0, 0, 0, []),
   (31, .iconst 1, 0, 0, 0, 1, 0, [])],
  [(32, .if_icmp .ne 16, 48, 0, 0, 0, 0, []),
   (35, .aload_n 0, 0, 0, 0, 0, 0, []),
   (36, .getfield 7, 11, 0, 0, 0, 0, []),
   (39, .iload_n 3, 3, 0, 0, 0, 0, []),
   (40, .iaload, 0, 0, 0, 0, 0, []),
   (41, .iconst 2, 0, 0, 0, 2, 0, []),
   (42, .if_icmp .eq 6, 48, 0, 0, 0, 0, []),
   (45, .goto 10, 55, 0, 0, 0, 0, []),
   (48, .aload_n 0, 0, 0, 0, 0, 0, []),
   (49, .iload_n 2, 2, 0, 0, 0, 0, []),
   (50, .invokevirtual 322, 168, 1, 11, 0, 0, [(0, 3), (0, 0)]),
   (53, .iload_n 3, 3, 0, 0, 0, 0, []),
   (54, .ireturn, 0, 0, 0, 0, 0, []),
   (55, .iinc 2 1, 2, 0, 0, 1, 0, []),
   (58, .goto (-43), 15, 0, 0, 0, 0, []),
   (61, .iconst (-1), 0, 0, 0, (-1), 0, []),
   (62, .ireturn, 0, 0, 0, 0, 0, [])]]
def tb_X11_leave : List (List ax_Rw) := [
  [(0, .aload_n 0, 0, 0, 0, 0, 0, []),
   (1, .iload_n 1, 1, 0, 0, 0, 0, []),
   (2, .invokevirtual 139, 109, 1, 11, 0, 0, [(0, 2), (0, 1)]),
   (5, .ifCond .ne 5, 10, 0, 0, 0, 0, []),
   (8, .iconst (-1), 0, 0, 0, (-1), 0, []),
   (9, .ireturn, 0, 0, 0, 0, 0, []),
   (10, .aload_n 0, 0, 0, 0, 0, 0, []),
   (11, .iload_n 1, 1, 0, 0, 0, 0, []),
   (12, .invokevirtual 319, 167, 1, 11, 0, 0, [(0, 3), (0, 1)]),
   (15, .istore_n 2, 2, 0, 0, 0, 0, []),
   (16, .iload_n 2, 2, 0, 0, 0, 0, []),
   (17, .ifCond .ge 6, 23, 0, 0, 0, 0, []),
   (20, .bipush (-3), 0, 0, 0, (-3), 0, []),
   (22, .ireturn, 0, 0, 0, 0, 0, []),
   (23, .aload_n 0, 0, 0, 0, 0, 0, []),
   (24, .iload_n 2, 2, 0, 0, 0, 0, []),
   (25, .invokevirtual 322, 168, 1, 11, 0, 0, [(0, 3), (0, 0)]),
   (28, .iload_n 2, 2, 0, 0, 0, 0, []),
   (29, .ireturn, 0, 0, 0, 0, 0, [])]]
def tb_X11_count : List (List ax_Rw) := [
  [(0, .iload_n 1, 1, 0, 0, 0, 0, []),
   (1, .tableswitch 114 0 10 #[59, 64, 69, 74, 79, 84, 89, 94, 99, 104, 109], 115, 0, 0, 0, 0, [(0, 60), (1, 65), (2, 70), (3, 75), (4, 80), (5, 85), (6, 90), (7, 95), (8, 100), (9, 105), (10, 110)])],
  [(60, .aload_n 0, 0, 0, 0, 0, 0, []),
   (61, .getfield 116, 11, 7, 0, 0, 0, [])],
  [(64, .ireturn, 0, 0, 0, 0, 0, []),
   (65, .aload_n 0, 0, 0, 0, 0, 0, []),
   (66, .getfield 120, 11, 8, 0, 0, 0, []),
   (69, .ireturn, 0, 0, 0, 0, 0, []),
   (70, .aload_n 0, 0, 0, 0, 0, 0, []),
   (71, .getfield 220, 11, 14, 0, 0, 0, []),
   (74, .ireturn, 0, 0, 0, 0, 0, []),
   (75, .aload_n 0, 0, 0, 0, 0, 0, []),
   (76, .getfield 227, 11, 11, 0, 0, 0, []),
   (79, .ireturn, 0, 0, 0, 0, 0, []),
   (80, .aload_n 0, 0, 0, 0, 0, 0, []),
   (81, .getfield 250, 11, 12, 0, 0, 0, []),
   (84, .ireturn, 0, 0, 0, 0, 0, []),
   (85, .aload_n 0, 0, 0, 0, 0, 0, []),
   (86, .getfield 244, 11, 13, 0, 0, 0, []),
   (89, .ireturn, 0, 0, 0, 0, 0, []),
   (90, .aload_n 0, 0, 0, 0, 0, 0, []),
   (91, .getfield 277, 11, 42, 0, 0, 0, []),
   (94, .ireturn, 0, 0, 0, 0, 0, []),
   (95, .aload_n 0, 0, 0, 0, 0, 0, [])],
  [(96, .getfield 316, 11, 51, 0, 0, 0, []),
   (99, .ireturn, 0, 0, 0, 0, 0, []),
   (100, .aload_n 0, 0, 0, 0, 0, 0, []),
   (101, .getfield 291, 11, 47, 0, 0, 0, []),
   (104, .ireturn, 0, 0, 0, 0, 0, []),
   (105, .aload_n 0, 0, 0, 0, 0, 0, []),
   (106, .getfield 167, 11, 34, 0, 0, 0, []),
   (109, .ireturn, 0, 0, 0, 0, 0, []),
   (110, .aload_n 0, 0, 0, 0, 0, 0, []),
   (111, .getfield 230, 11, 15, 0, 0, 0, []),
   (114, .ireturn, 0, 0, 0, 0, 0, []),
   (115, .iconst (-1), 0, 0, 0, (-1), 0, []),
   (116, .ireturn, 0, 0, 0, 0, 0, [])]]
def tb_J6_bitCount_0f7a4 : List (List ax_Rw) := [
  [(0, .iload_n 0, 0, 0, 0, 0, 0, []),
   (1, .iload_n 0, 0, 0, 0, 0, 0, []),
   (2, .iconst 1, 0, 0, 0, 1, 0, []),
   (3, .iushr, 0, 0, 0, 0, 0, []),
   (4, .ldc_w 265, 0, 0, 0, 1431655765, 0, []),
   (7, .iand, 0, 0, 0, 0, 0, []),
   (8, .isub, 0, 0, 0, 0, 0, []),
   (9, .istore_n 0, 0, 0, 0, 0, 0, []),
   (10, .iload_n 0, 0, 0, 0, 0, 0, []),
   (11, .ldc_w 266, 0, 0, 0, 858993459, 0, []),
   (14, .iand, 0, 0, 0, 0, 0, []),
   (15, .iload_n 0, 0, 0, 0, 0, 0, []),
   (16, .iconst 2, 0, 0, 0, 2, 0, []),
   (17, .iushr, 0, 0, 0, 0, 0, []),
   (18, .ldc_w 266, 0, 0, 0, 858993459, 0, []),
   (21, .iand, 0, 0, 0, 0, 0, []),
   (22, .iadd, 0, 0, 0, 0, 0, []),
   (23, .istore_n 0, 0, 0, 0, 0, 0, []),
   (24, .iload_n 0, 0, 0, 0, 0, 0, []),
   (25, .iload_n 0, 0, 0, 0, 0, 0, []),
   (26, .iconst 4, 0, 0, 0, 4, 0, []),
   (27, .iushr, 0, 0, 0, 0, 0, []),
   (28, .iadd, 0, 0, 0, 0, 0, []),
   (29, .ldc_w 267, 0, 0, 0, 252645135, 0, [])],
  [(32, .iand, 0, 0, 0, 0, 0, []),
   (33, .istore_n 0, 0, 0, 0, 0, 0, []),
   (34, .iload_n 0, 0, 0, 0, 0, 0, []),
   (35, .iload_n 0, 0, 0, 0, 0, 0, []),
   (36, .bipush 8, 0, 0, 0, 8, 0, []),
   (38, .iushr, 0, 0, 0, 0, 0, []),
   (39, .iadd, 0, 0, 0, 0, 0, []),
   (40, .istore_n 0, 0, 0, 0, 0, 0, []),
   (41, .iload_n 0, 0, 0, 0, 0, 0, []),
   (42, .iload_n 0, 0, 0, 0, 0, 0, []),
   (43, .bipush 16, 0, 0, 0, 16, 0, []),
   (45, .iushr, 0, 0, 0, 0, 0, []),
   (46, .iadd, 0, 0, 0, 0, 0, []),
   (47, .istore_n 0, 0, 0, 0, 0, 0, []),
   (48, .iload_n 0, 0, 0, 0, 0, 0, []),
   (49, .bipush 63, 0, 0, 0, 63, 0, []),
   (51, .iand, 0, 0, 0, 0, 0, []),
   (52, .ireturn, 0, 0, 0, 0, 0, [])]]
def tb_J9_abs_0f7a4 : List (List ax_Rw) := [
  [(0, .iload_n 0, 0, 0, 0, 0, 0, []),
   (1, .ifCond .ge 8, 9, 0, 0, 0, 0, []),
   (4, .iload_n 0, 0, 0, 0, 0, 0, []),
   (5, .ineg, 0, 0, 0, 0, 0, []),
   (6, .goto 4, 10, 0, 0, 0, 0, []),
   (9, .iload_n 0, 0, 0, 0, 0, 0, []),
   (10, .ireturn, 0, 0, 0, 0, 0, [])]]
def tb_J9_max_7cf53 : List (List ax_Rw) := [
  [(0, .iload_n 0, 0, 0, 0, 0, 0, []),
   (1, .iload_n 1, 1, 0, 0, 0, 0, []),
   (2, .if_icmp .lt 7, 9, 0, 0, 0, 0, []),
   (5, .iload_n 0, 0, 0, 0, 0, 0, []),
   (6, .goto 4, 10, 0, 0, 0, 0, []),
   (9, .iload_n 1, 1, 0, 0, 0, 0, []),
   (10, .ireturn, 0, 0, 0, 0, 0, [])]]
def tb_J9_min_7cf53 : List (List ax_Rw) := [
  [(0, .iload_n 0, 0, 0, 0, 0, 0, []),
   (1, .iload_n 1, 1, 0, 0, 0, 0, []),
   (2, .if_icmp .gt 7, 9, 0, 0, 0, 0, []),
   (5, .iload_n 0, 0, 0, 0, 0, 0, []),
   (6, .goto 4, 10, 0, 0, 0, 0, []),
   (9, .iload_n 1, 1, 0, 0, 0, 0, []),
   (10, .ireturn, 0, 0, 0, 0, 0, [])]]
def ax_tbs : List (List (List ax_Rw)) := [tb_L_law, tb_X0_at, tb_X0_replace, tb_X0_ofAllWards, tb_X1_copy, tb_X1_clearSums, tb_X1_put, tb_X1_passHours, tb_X1_passHour, tb_X1_serve, tb_X1_longestWait, tb_X1_waitingIn, tb_X1_roam, tb_X1_tire, tb_X2_add, tb_X2_clear, tb_X2_arrange, tb_X2_asksTogether, tb_X2_hourOf, tb_X2_everyFleet, tb_X2_lowestBit, tb_X2_placeAll, tb_X2_takersOf, tb_X2_rateHour, tb_X2_placeHour, tb_X3_placeOf, tb_X3_append, tb_X3_removeAt, tb_X4_has, tb_X4_add, tb_X4_debt, tb_X4_divide, tb_X4_settle, tb_X4_isOf, tb_X4_rankDebt, tb_X4_payRank, tb_X4_shareRank, tb_X5_add, tb_X5_copy, tb_X5_price, tb_X5_timesDue, tb_X6_has, tb_X6_add, tb_X6_replaceRent, tb_X6_mayStand, tb_X6_restingWard, tb_X6_hoursDue, tb_X6_worth, tb_X7_has, tb_X7_detail, tb_X7_keep, tb_X7_search, tb_X7_fits, tb_X8_hasDriver, tb_X8_addDriver, tb_X8_placeOfDriver, tb_X8_assign, tb_X8_fillFree, tb_X8_listFreePlaces, tb_X8_listFreeDrivers, tb_X8_fillPlace, tb_X8_mostWorths, tb_X9_append, tb_X9_read, tb_X9_readClauses, tb_X9_readClause, tb_X9_readWord, tb_X9_wordOf, tb_X9_sameBytes, tb_X9_readByte, tb_X9_readDigit, tb_X9_readNumber, tb_X10_plate, tb_X10_driver, tb_X10_drive, tb_X10_about, tb_X10_driven, tb_X10_fill, tb_X10_feed, tb_X10_law, tb_X10_fare, tb_X10_ask, tb_X10_stand, tb_X10_step, tb_X10_tried, tb_X10_found, tb_X10_rode, tb_X10_value, tb_X10_rent, tb_X10_loan, tb_X10_owes, tb_X10_fails, tb_X10_part, tb_X10_over, tb_X10_rescue, tb_X10_swap, tb_X10_unswap, tb_X10_spread, tb_X10_join, tb_X10_call, tb_X10_leave, tb_X10_count, tb_X10_within, tb_X10_isWard, tb_X10_isRent, tb_X10_isTerm, tb_X10_isPartable, tb_X10_isFailing, tb_X11_isIn, tb_X11_isPlate, tb_X11_isDriver, tb_X11_isWard, tb_X11_plate, tb_X11_driver, tb_X11_frees, tb_X11_driverOf, tb_X11_gives, tb_X11_drive, tb_X11_about, tb_X11_driven, tb_X11_drives, tb_X11_worthOf, tb_X11_fill, tb_X11_feed, tb_X11_sign, tb_X11_signOf, tb_X11_word, tb_X11_isDigit, tb_X11_takes, tb_X11_clause, tb_X11_parses, tb_X11_law, tb_X11_fareOf, tb_X11_fare, tb_X11_ask, tb_X11_mayStand, tb_X11_stand, tb_X11_waiting, tb_X11_runs, tb_X11_takesOne, tb_X11_roams, tb_X11_goesBy, tb_X11_step, tb_X11_tookAll, tb_X11_tried, tb_X11_found, tb_X11_rode, tb_X11_areTerms, tb_X11_worth, tb_X11_value, tb_X11_rent, tb_X11_loan, tb_X11_owed, tb_X11_owes, tb_X11_fails, tb_X11_parts, tb_X11_part, tb_X11_over, tb_X11_rescue, tb_X11_swap, tb_X11_unswap, tb_X11_asksAt, tb_X11_looks, tb_X11_hourFrom, tb_X11_goesOn, tb_X11_spreads, tb_X11_spread, tb_X11_placeOf, tb_X11_goesFrom, tb_X11_join, tb_X11_call, tb_X11_leave, tb_X11_count, tb_J6_bitCount_0f7a4, tb_J9_abs_0f7a4, tb_J9_max_7cf53, tb_J9_min_7cf53]
def ax_cn : List String := [RX0, RX1, RX2, RX3, RX4, RX5, RX6, RX7, RX8, RX9, RX10, RX11, RL, RJ6, RJ9]
/-- name, code, locals, answer, class, room (frames, locals), places of its words in lw_tbl: code, initialized, static or instanceMethod, selects; is it static -/
abbrev ax_Mi : Type := MethodName × ByteArray × Nat × Option FieldType × Nat × Nat × Nat × Nat × Nat × Nat × Nat × Bool
def mi_L_law : ax_Mi := (yL_law, code, 4, some .boolean, 12, 10, 217, 0, 0, 0, 0, true)
def mi_X0_at : ax_Mi := (yX0_at, cX0_at, 3, some .int, 0, 0, 0, 626, 66, 624, 625, false)
def mi_X0_replace : ax_Mi := (yX0_replace, cX0_replace, 5, some .int, 0, 1, 22, 622, 66, 620, 621, false)
def mi_X0_ofAllWards : ax_Mi := (yX0_ofAllWards, cX0_ofAllWards, 4, some .int, 0, 1, 22, 851, 66, 849, 850, false)
def mi_X1_copy : ax_Mi := (yX1_copy, cX1_copy, 2, none, 1, 1, 26, 691, 68, 689, 690, false)
def mi_X1_clearSums : ax_Mi := (yX1_clearSums, cX1_clearSums, 1, none, 1, 0, 0, 698, 68, 696, 697, false)
def mi_X1_put : ax_Mi := (yX1_put, cX1_put, 4, some .int, 1, 0, 0, 638, 68, 636, 637, false)
def mi_X1_passHours : ax_Mi := (yX1_passHours, cX1_passHours, 3, none, 1, 5, 124, 646, 68, 644, 645, false)
def mi_X1_passHour : ax_Mi := (yX1_passHour, cX1_passHour, 6, none, 1, 4, 99, 650, 68, 649, 13, false)
def mi_X1_serve : ax_Mi := (yX1_serve, cX1_serve, 8, some .boolean, 1, 3, 72, 656, 68, 655, 14, false)
def mi_X1_longestWait : ax_Mi := (yX1_longestWait, cX1_longestWait, 3, some .int, 1, 0, 0, 660, 68, 659, 15, false)
def mi_X1_waitingIn : ax_Mi := (yX1_waitingIn, cX1_waitingIn, 4, some .int, 1, 0, 0, 678, 68, 677, 17, false)
def mi_X1_roam : ax_Mi := (yX1_roam, cX1_roam, 5, none, 1, 1, 23, 674, 68, 673, 16, false)
def mi_X1_tire : ax_Mi := (yX1_tire, cX1_tire, 3, none, 1, 0, 0, 683, 68, 682, 18, false)
def mi_X2_add : ax_Mi := (yX2_add, cX2_add, 2, some .int, 2, 0, 0, 822, 70, 820, 821, false)
def mi_X2_clear : ax_Mi := (yX2_clear, cX2_clear, 2, some .int, 2, 0, 0, 830, 70, 828, 829, false)
def mi_X2_arrange : ax_Mi := (yX2_arrange, cX2_arrange, 1, none, 2, 4, 92, 838, 70, 836, 837, false)
def mi_X2_asksTogether : ax_Mi := (yX2_asksTogether, cX2_asksTogether, 1, some .int, 2, 1, 20, 877, 70, 875, 876, false)
def mi_X2_hourOf : ax_Mi := (yX2_hourOf, cX2_hourOf, 2, some .int, 2, 1, 20, 881, 70, 879, 880, false)
def mi_X2_everyFleet : ax_Mi := (yX2_everyFleet, cX2_everyFleet, 1, some .int, 2, 0, 0, 866, 70, 865, 29, false)
def mi_X2_lowestBit : ax_Mi := (yX2_lowestBit, cX2_lowestBit, 1, some .int, 2, 0, 0, 854, 70, 853, 0, true)
def mi_X2_placeAll : ax_Mi := (yX2_placeAll, cX2_placeAll, 3, none, 2, 3, 70, 842, 70, 841, 25, false)
def mi_X2_takersOf : ax_Mi := (yX2_takersOf, cX2_takersOf, 4, some .int, 2, 0, 0, 858, 70, 857, 27, false)
def mi_X2_rateHour : ax_Mi := (yX2_rateHour, cX2_rateHour, 6, none, 2, 2, 45, 847, 70, 846, 26, false)
def mi_X2_placeHour : ax_Mi := (yX2_placeHour, cX2_placeHour, 7, none, 2, 1, 21, 862, 70, 861, 28, false)
def mi_X3_placeOf : ax_Mi := (yX3_placeOf, cX3_placeOf, 3, some .int, 3, 0, 0, 889, 71, 887, 888, false)
def mi_X3_append : ax_Mi := (yX3_append, cX3_append, 2, some .int, 3, 0, 0, 893, 71, 891, 892, false)
def mi_X3_removeAt : ax_Mi := (yX3_removeAt, cX3_removeAt, 3, none, 3, 0, 0, 901, 71, 899, 900, false)
def mi_X4_has : ax_Mi := (yX4_has, cX4_has, 2, some .boolean, 4, 1, 22, 776, 69, 774, 775, false)
def mi_X4_add : ax_Mi := (yX4_add, cX4_add, 4, some .int, 4, 0, 0, 752, 69, 750, 751, false)
def mi_X4_debt : ax_Mi := (yX4_debt, cX4_debt, 4, some .int, 4, 0, 0, 760, 69, 758, 759, false)
def mi_X4_divide : ax_Mi := (yX4_divide, cX4_divide, 6, none, 4, 2, 49, 785, 69, 783, 784, false)
def mi_X4_settle : ax_Mi := (yX4_settle, cX4_settle, 3, none, 4, 0, 0, 814, 69, 812, 813, false)
def mi_X4_isOf : ax_Mi := (yX4_isOf, cX4_isOf, 4, some .boolean, 4, 0, 0, 793, 69, 792, 22, false)
def mi_X4_rankDebt : ax_Mi := (yX4_rankDebt, cX4_rankDebt, 5, some .int, 4, 1, 23, 789, 69, 788, 21, false)
def mi_X4_payRank : ax_Mi := (yX4_payRank, cX4_payRank, 4, none, 4, 1, 23, 797, 69, 796, 23, false)
def mi_X4_shareRank : ax_Mi := (yX4_shareRank, cX4_shareRank, 7, none, 4, 1, 23, 801, 69, 800, 24, false)
def mi_X5_add : ax_Mi := (yX5_add, cX5_add, 4, none, 5, 0, 0, 589, 65, 587, 588, false)
def mi_X5_copy : ax_Mi := (yX5_copy, cX5_copy, 3, none, 5, 0, 0, 593, 65, 591, 592, false)
def mi_X5_price : ax_Mi := (yX5_price, cX5_price, 8, some .int, 5, 2, 45, 605, 65, 603, 604, false)
def mi_X5_timesDue : ax_Mi := (yX5_timesDue, cX5_timesDue, 6, some .int, 5, 1, 20, 611, 65, 610, 12, false)
def mi_X6_has : ax_Mi := (yX6_has, cX6_has, 2, some .boolean, 6, 1, 22, 426, 62, 424, 425, false)
def mi_X6_add : ax_Mi := (yX6_add, cX6_add, 5, some .int, 6, 0, 0, 410, 62, 408, 409, false)
def mi_X6_replaceRent : ax_Mi := (yX6_replaceRent, cX6_replaceRent, 5, some .int, 6, 0, 0, 743, 62, 741, 742, false)
def mi_X6_mayStand : ax_Mi := (yX6_mayStand, cX6_mayStand, 3, some .boolean, 6, 0, 0, 634, 62, 632, 633, false)
def mi_X6_restingWard : ax_Mi := (yX6_restingWard, cX6_restingWard, 3, some .int, 6, 1, 22, 669, 62, 667, 668, false)
def mi_X6_hoursDue : ax_Mi := (yX6_hoursDue, cX6_hoursDue, 3, some .int, 6, 1, 21, 448, 62, 446, 447, false)
def mi_X6_worth : ax_Mi := (yX6_worth, cX6_worth, 8, some .int, 6, 1, 21, 735, 62, 733, 734, false)
def mi_X7_has : ax_Mi := (yX7_has, cX7_has, 2, some .boolean, 7, 1, 22, 723, 67, 721, 722, false)
def mi_X7_detail : ax_Mi := (yX7_detail, cX7_detail, 3, some .int, 7, 0, 0, 710, 67, 708, 709, false)
def mi_X7_keep : ax_Mi := (yX7_keep, cX7_keep, 7, none, 7, 0, 0, 665, 67, 663, 664, false)
def mi_X7_search : ax_Mi := (yX7_search, cX7_search, 8, some .int, 7, 2, 45, 706, 67, 704, 705, false)
def mi_X7_fits : ax_Mi := (yX7_fits, cX7_fits, 4, some .boolean, 7, 1, 22, 715, 67, 714, 19, false)
def mi_X8_hasDriver : ax_Mi := (yX8_hasDriver, cX8_hasDriver, 2, some .boolean, 8, 1, 22, 431, 63, 429, 430, false)
def mi_X8_addDriver : ax_Mi := (yX8_addDriver, cX8_addDriver, 2, some .int, 8, 0, 0, 418, 63, 416, 417, false)
def mi_X8_placeOfDriver : ax_Mi := (yX8_placeOfDriver, cX8_placeOfDriver, 3, some .int, 8, 0, 0, 440, 63, 439, 0, false)
def mi_X8_assign : ax_Mi := (yX8_assign, cX8_assign, 5, some .int, 8, 1, 22, 436, 63, 434, 435, false)
def mi_X8_fillFree : ax_Mi := (yX8_fillFree, cX8_fillFree, 4, some .int, 8, 3, 70, 463, 63, 461, 462, false)
def mi_X8_listFreePlaces : ax_Mi := (yX8_listFreePlaces, cX8_listFreePlaces, 3, none, 8, 0, 0, 467, 63, 466, 1, false)
def mi_X8_listFreeDrivers : ax_Mi := (yX8_listFreeDrivers, cX8_listFreeDrivers, 2, none, 8, 1, 22, 471, 63, 470, 2, false)
def mi_X8_fillPlace : ax_Mi := (yX8_fillPlace, cX8_fillPlace, 7, some .int, 8, 2, 44, 475, 63, 474, 3, false)
def mi_X8_mostWorths : ax_Mi := (yX8_mostWorths, cX8_mostWorths, 4, some .int, 8, 1, 21, 479, 63, 478, 4, false)
def mi_X9_append : ax_Mi := (yX9_append, cX9_append, 5, some .int, 9, 0, 0, 490, 64, 488, 489, false)
def mi_X9_read : ax_Mi := (yX9_read, cX9_read, 2, some .int, 9, 8, 175, 498, 64, 496, 497, false)
def mi_X9_readClauses : ax_Mi := (yX9_readClauses, cX9_readClauses, 2, some .boolean, 9, 7, 154, 502, 64, 501, 5, false)
def mi_X9_readClause : ax_Mi := (yX9_readClause, cX9_readClause, 4, some .boolean, 9, 6, 131, 506, 64, 505, 6, false)
def mi_X9_readWord : ax_Mi := (yX9_readWord, cX9_readWord, 5, some .int, 9, 5, 107, 510, 64, 509, 7, false)
def mi_X9_wordOf : ax_Mi := (yX9_wordOf, cX9_wordOf, 1, some (.object "java/lang/String"), 9, 0, 0, 513, 64, 512, 0, true)
def mi_X9_sameBytes : ax_Mi := (yX9_sameBytes, cX9_sameBytes, 3, some .int, 9, 4, 85, 523, 64, 522, 8, false)
def mi_X9_readByte : ax_Mi := (yX9_readByte, cX9_readByte, 2, some .boolean, 9, 0, 0, 581, 64, 580, 10, false)
def mi_X9_readDigit : ax_Mi := (yX9_readDigit, cX9_readDigit, 2, some .int, 9, 1, 22, 576, 64, 575, 9, false)
def mi_X9_readNumber : ax_Mi := (yX9_readNumber, cX9_readNumber, 4, some .int, 9, 2, 43, 585, 64, 584, 11, false)
def mi_X10_plate : ax_Mi := (yX10_plate, cX10_plate, 5, some .int, 10, 2, 43, 400, 61, 398, 399, false)
def mi_X10_driver : ax_Mi := (yX10_driver, cX10_driver, 2, some .int, 10, 1, 22, 414, 61, 412, 413, false)
def mi_X10_drive : ax_Mi := (yX10_drive, cX10_drive, 4, some .int, 10, 2, 46, 422, 61, 420, 421, false)
def mi_X10_about : ax_Mi := (yX10_about, cX10_about, 3, some .int, 10, 2, 43, 444, 61, 442, 443, false)
def mi_X10_driven : ax_Mi := (yX10_driven, cX10_driven, 3, some .int, 10, 2, 43, 455, 61, 453, 454, false)
def mi_X10_fill : ax_Mi := (yX10_fill, cX10_fill, 1, some .int, 10, 4, 93, 459, 61, 457, 458, false)
def mi_X10_feed : ax_Mi := (yX10_feed, cX10_feed, 4, some .int, 10, 1, 24, 486, 61, 484, 485, false)
def mi_X10_law : ax_Mi := (yX10_law, cX10_law, 2, some .int, 10, 9, 196, 494, 61, 492, 493, false)
def mi_X10_fare : ax_Mi := (yX10_fare, cX10_fare, 5, some .int, 10, 3, 72, 598, 61, 596, 597, false)
def mi_X10_ask : ax_Mi := (yX10_ask, cX10_ask, 4, some .int, 10, 2, 46, 618, 61, 616, 617, false)
def mi_X10_stand : ax_Mi := (yX10_stand, cX10_stand, 3, some .int, 10, 2, 43, 630, 61, 628, 629, false)
def mi_X10_step : ax_Mi := (yX10_step, cX10_step, 3, some .int, 10, 6, 146, 642, 61, 640, 641, false)
def mi_X10_tried : ax_Mi := (yX10_tried, cX10_tried, 5, some .int, 10, 6, 146, 687, 61, 685, 686, false)
def mi_X10_found : ax_Mi := (yX10_found, cX10_found, 6, some .int, 10, 3, 72, 702, 61, 700, 701, false)
def mi_X10_rode : ax_Mi := (yX10_rode, cX10_rode, 3, some .int, 10, 2, 43, 719, 61, 717, 718, false)
def mi_X10_value : ax_Mi := (yX10_value, cX10_value, 4, some .int, 10, 2, 48, 728, 61, 726, 727, false)
def mi_X10_rent : ax_Mi := (yX10_rent, cX10_rent, 4, some .int, 10, 2, 43, 739, 61, 737, 738, false)
def mi_X10_loan : ax_Mi := (yX10_loan, cX10_loan, 4, some .int, 10, 2, 43, 747, 61, 745, 746, false)
def mi_X10_owes : ax_Mi := (yX10_owes, cX10_owes, 2, some .int, 10, 2, 43, 756, 61, 754, 755, false)
def mi_X10_fails : ax_Mi := (yX10_fails, cX10_fails, 5, some .int, 10, 3, 71, 764, 61, 762, 763, false)
def mi_X10_part : ax_Mi := (yX10_part, cX10_part, 3, some .int, 10, 3, 74, 772, 61, 770, 771, false)
def mi_X10_over : ax_Mi := (yX10_over, cX10_over, 3, some .int, 10, 2, 43, 805, 61, 803, 804, false)
def mi_X10_rescue : ax_Mi := (yX10_rescue, cX10_rescue, 6, some .int, 10, 3, 74, 810, 61, 808, 809, false)
def mi_X10_swap : ax_Mi := (yX10_swap, cX10_swap, 2, some .int, 10, 1, 22, 818, 61, 816, 817, false)
def mi_X10_unswap : ax_Mi := (yX10_unswap, cX10_unswap, 1, some .int, 10, 1, 21, 826, 61, 824, 825, false)
def mi_X10_spread : ax_Mi := (yX10_spread, cX10_spread, 2, some .int, 10, 5, 112, 834, 61, 832, 833, false)
def mi_X10_join : ax_Mi := (yX10_join, cX10_join, 2, some .int, 10, 2, 43, 885, 61, 883, 884, false)
def mi_X10_call : ax_Mi := (yX10_call, cX10_call, 4, some .int, 10, 1, 22, 897, 61, 895, 896, false)
def mi_X10_leave : ax_Mi := (yX10_leave, cX10_leave, 3, some .int, 10, 2, 43, 905, 61, 903, 904, false)
def mi_X10_count : ax_Mi := (yX10_count, cX10_count, 2, some .int, 10, 0, 0, 909, 61, 907, 908, false)
def mi_X10_within : ax_Mi := (yX10_within, cX10_within, 3, some .boolean, 10, 0, 0, 403, 61, 402, 0, true)
def mi_X10_isWard : ax_Mi := (yX10_isWard, cX10_isWard, 1, some .boolean, 10, 1, 22, 601, 61, 600, 0, true)
def mi_X10_isRent : ax_Mi := (yX10_isRent, cX10_isRent, 2, some .boolean, 10, 1, 22, 406, 61, 405, 0, true)
def mi_X10_isTerm : ax_Mi := (yX10_isTerm, cX10_isTerm, 2, some .boolean, 10, 1, 22, 731, 61, 730, 0, true)
def mi_X10_isPartable : ax_Mi := (yX10_isPartable, cX10_isPartable, 1, some .boolean, 10, 1, 22, 780, 61, 779, 0, true)
def mi_X10_isFailing : ax_Mi := (yX10_isFailing, cX10_isFailing, 4, some .boolean, 10, 2, 48, 768, 61, 767, 20, false)
def mi_X11_isIn : ax_Mi := (yX11_isIn, cX11_isIn, 6, some .boolean, 11, 0, 0, 1080, 72, 1079, 0, true)
def mi_X11_isPlate : ax_Mi := (yX11_isPlate, cX11_isPlate, 2, some .boolean, 11, 0, 0, 1095, 72, 1094, 30, false)
def mi_X11_isDriver : ax_Mi := (yX11_isDriver, cX11_isDriver, 2, some .boolean, 11, 0, 0, 1099, 72, 1098, 31, false)
def mi_X11_isWard : ax_Mi := (yX11_isWard, cX11_isWard, 1, some .boolean, 11, 0, 0, 1176, 72, 1175, 0, true)
def mi_X11_plate : ax_Mi := (yX11_plate, cX11_plate, 6, some .int, 11, 1, 25, 1076, 72, 1074, 1075, false)
def mi_X11_driver : ax_Mi := (yX11_driver, cX11_driver, 2, some .int, 11, 1, 25, 1086, 72, 1084, 1085, false)
def mi_X11_frees : ax_Mi := (yX11_frees, cX11_frees, 3, none, 11, 0, 0, 1111, 72, 1110, 34, false)
def mi_X11_driverOf : ax_Mi := (yX11_driverOf, cX11_driverOf, 3, some .int, 11, 0, 0, 1103, 72, 1102, 32, false)
def mi_X11_gives : ax_Mi := (yX11_gives, cX11_gives, 4, none, 11, 1, 22, 1107, 72, 1106, 33, false)
def mi_X11_drive : ax_Mi := (yX11_drive, cX11_drive, 5, some .int, 11, 2, 45, 1091, 72, 1089, 1090, false)
def mi_X11_about : ax_Mi := (yX11_about, cX11_about, 3, some .int, 11, 1, 21, 1115, 72, 1113, 1114, false)
def mi_X11_driven : ax_Mi := (yX11_driven, cX11_driven, 3, some .int, 11, 1, 21, 1119, 72, 1117, 1118, false)
def mi_X11_drives : ax_Mi := (yX11_drives, cX11_drives, 4, some .boolean, 11, 0, 0, 1127, 72, 1126, 35, false)
def mi_X11_worthOf : ax_Mi := (yX11_worthOf, cX11_worthOf, 3, some .int, 11, 0, 0, 1131, 72, 1130, 36, false)
def mi_X11_fill : ax_Mi := (yX11_fill, cX11_fill, 7, some .int, 11, 2, 45, 1123, 72, 1121, 1122, false)
def mi_X11_feed : ax_Mi := (yX11_feed, cX11_feed, 5, some .int, 11, 1, 25, 1135, 72, 1133, 1134, false)
def mi_X11_sign : ax_Mi := (yX11_sign, cX11_sign, 1, some .int, 11, 0, 0, 1160, 72, 1159, 40, false)
def mi_X11_signOf : ax_Mi := (yX11_signOf, cX11_signOf, 2, some .int, 11, 0, 0, 1156, 72, 1155, 0, true)
def mi_X11_word : ax_Mi := (yX11_word, cX11_word, 5, some .int, 11, 1, 21, 1153, 72, 1152, 39, false)
def mi_X11_isDigit : ax_Mi := (yX11_isDigit, cX11_isDigit, 1, some .boolean, 11, 0, 0, 1169, 72, 1168, 0, true)
def mi_X11_takes : ax_Mi := (yX11_takes, cX11_takes, 2, some .boolean, 11, 1, 20, 1164, 72, 1163, 41, false)
def mi_X11_clause : ax_Mi := (yX11_clause, cX11_clause, 5, some .boolean, 11, 2, 45, 1149, 72, 1148, 38, false)
def mi_X11_parses : ax_Mi := (yX11_parses, cX11_parses, 2, some .int, 11, 3, 69, 1145, 72, 1144, 37, false)
def mi_X11_law : ax_Mi := (yX11_law, cX11_law, 3, some .int, 11, 4, 90, 1141, 72, 1139, 1140, false)
def mi_X11_fareOf : ax_Mi := (yX11_fareOf, cX11_fareOf, 9, some .int, 11, 0, 0, 1182, 72, 1181, 42, false)
def mi_X11_fare : ax_Mi := (yX11_fare, cX11_fare, 5, some .int, 11, 1, 28, 1173, 72, 1171, 1172, false)
def mi_X11_ask : ax_Mi := (yX11_ask, cX11_ask, 5, some .int, 11, 1, 25, 1187, 72, 1185, 1186, false)
def mi_X11_mayStand : ax_Mi := (yX11_mayStand, cX11_mayStand, 3, some .boolean, 11, 0, 0, 1196, 72, 1195, 43, false)
def mi_X11_stand : ax_Mi := (yX11_stand, cX11_stand, 4, some .int, 11, 1, 22, 1192, 72, 1190, 1191, false)
def mi_X11_waiting : ax_Mi := (yX11_waiting, cX11_waiting, 2, some .int, 11, 0, 0, 1215, 72, 1214, 46, false)
def mi_X11_runs : ax_Mi := (yX11_runs, cX11_runs, 2, some .int, 11, 1, 25, 1209, 72, 1208, 45, false)
def mi_X11_takesOne : ax_Mi := (yX11_takesOne, cX11_takesOne, 8, none, 11, 1, 28, 1219, 72, 1218, 47, false)
def mi_X11_roams : ax_Mi := (yX11_roams, cX11_roams, 6, none, 11, 1, 22, 1223, 72, 1222, 48, false)
def mi_X11_goesBy : ax_Mi := (yX11_goesBy, cX11_goesBy, 4, none, 11, 2, 55, 1205, 72, 1204, 44, false)
def mi_X11_step : ax_Mi := (yX11_step, cX11_step, 4, some .int, 11, 3, 78, 1200, 72, 1198, 1199, false)
def mi_X11_tookAll : ax_Mi := (yX11_tookAll, cX11_tookAll, 3, some .int, 11, 0, 0, 1232, 72, 1231, 49, false)
def mi_X11_tried : ax_Mi := (yX11_tried, cX11_tried, 11, some .int, 11, 3, 78, 1227, 72, 1225, 1226, false)
def mi_X11_found : ax_Mi := (yX11_found, cX11_found, 8, some .int, 11, 1, 25, 1236, 72, 1234, 1235, false)
def mi_X11_rode : ax_Mi := (yX11_rode, cX11_rode, 3, some .int, 11, 1, 25, 1240, 72, 1238, 1239, false)
def mi_X11_areTerms : ax_Mi := (yX11_areTerms, cX11_areTerms, 2, some .boolean, 11, 1, 25, 1247, 72, 1246, 0, true)
def mi_X11_worth : ax_Mi := (yX11_worth, cX11_worth, 9, some .int, 11, 0, 0, 1252, 72, 1251, 50, false)
def mi_X11_value : ax_Mi := (yX11_value, cX11_value, 4, some .int, 11, 2, 46, 1244, 72, 1242, 1243, false)
def mi_X11_rent : ax_Mi := (yX11_rent, cX11_rent, 5, some .int, 11, 1, 25, 1257, 72, 1255, 1256, false)
def mi_X11_loan : ax_Mi := (yX11_loan, cX11_loan, 4, some .int, 11, 1, 25, 1261, 72, 1259, 1260, false)
def mi_X11_owed : ax_Mi := (yX11_owed, cX11_owed, 4, some .int, 11, 0, 0, 1270, 72, 1269, 51, false)
def mi_X11_owes : ax_Mi := (yX11_owes, cX11_owes, 2, some .int, 11, 1, 23, 1266, 72, 1264, 1265, false)
def mi_X11_fails : ax_Mi := (yX11_fails, cX11_fails, 5, some .int, 11, 2, 46, 1274, 72, 1272, 1273, false)
def mi_X11_parts : ax_Mi := (yX11_parts, cX11_parts, 12, none, 11, 0, 0, 1283, 72, 1282, 52, false)
def mi_X11_part : ax_Mi := (yX11_part, cX11_part, 3, some .int, 11, 1, 31, 1278, 72, 1276, 1277, false)
def mi_X11_over : ax_Mi := (yX11_over, cX11_over, 4, some .int, 11, 1, 25, 1287, 72, 1285, 1286, false)
def mi_X11_rescue : ax_Mi := (yX11_rescue, cX11_rescue, 8, some .int, 11, 2, 46, 1291, 72, 1289, 1290, false)
def mi_X11_swap : ax_Mi := (yX11_swap, cX11_swap, 2, some .int, 11, 1, 25, 1296, 72, 1294, 1295, false)
def mi_X11_unswap : ax_Mi := (yX11_unswap, cX11_unswap, 2, some .int, 11, 0, 0, 1300, 72, 1298, 1299, false)
def mi_X11_asksAt : ax_Mi := (yX11_asksAt, cX11_asksAt, 4, some .int, 11, 0, 0, 1320, 72, 1319, 56, false)
def mi_X11_looks : ax_Mi := (yX11_looks, cX11_looks, 4, none, 11, 1, 23, 1316, 72, 1315, 55, false)
def mi_X11_hourFrom : ax_Mi := (yX11_hourFrom, cX11_hourFrom, 4, some .int, 11, 0, 0, 1312, 72, 1311, 54, false)
def mi_X11_goesOn : ax_Mi := (yX11_goesOn, cX11_goesOn, 2, some .boolean, 11, 1, 23, 1324, 72, 1323, 57, false)
def mi_X11_spreads : ax_Mi := (yX11_spreads, cX11_spreads, 2, none, 11, 2, 46, 1308, 72, 1307, 53, false)
def mi_X11_spread : ax_Mi := (yX11_spread, cX11_spread, 2, some .int, 11, 3, 67, 1304, 72, 1302, 1303, false)
def mi_X11_placeOf : ax_Mi := (yX11_placeOf, cX11_placeOf, 3, some .int, 11, 0, 0, 1332, 72, 1331, 58, false)
def mi_X11_goesFrom : ax_Mi := (yX11_goesFrom, cX11_goesFrom, 3, none, 11, 0, 0, 1340, 72, 1339, 59, false)
def mi_X11_join : ax_Mi := (yX11_join, cX11_join, 2, some .int, 11, 1, 22, 1328, 72, 1326, 1327, false)
def mi_X11_call : ax_Mi := (yX11_call, cX11_call, 4, some .int, 11, 1, 25, 1336, 72, 1334, 1335, false)
def mi_X11_leave : ax_Mi := (yX11_leave, cX11_leave, 3, some .int, 11, 1, 22, 1344, 72, 1342, 1343, false)
def mi_X11_count : ax_Mi := (yX11_count, cX11_count, 2, some .int, 11, 0, 0, 1348, 72, 1346, 1347, false)
def mi_J6_bitCount_0f7a4 : ax_Mi := (yJ6_bitCount_0f7a4, cJ6_bitCount_0f7a4, 1, some .int, 13, 0, 0, 869, 79, 868, 0, true)
def mi_J9_abs_0f7a4 : ax_Mi := (yJ9_abs_0f7a4, cJ9_abs_0f7a4, 1, some .int, 14, 0, 0, 614, 73, 613, 0, true)
def mi_J9_max_7cf53 : ax_Mi := (yJ9_max_7cf53, cJ9_max_7cf53, 2, some .int, 14, 0, 0, 451, 73, 450, 0, true)
def mi_J9_min_7cf53 : ax_Mi := (yJ9_min_7cf53, cJ9_min_7cf53, 2, some .int, 14, 0, 0, 482, 73, 481, 0, true)
def ax_mis : List ax_Mi := [mi_L_law, mi_X0_at, mi_X0_replace, mi_X0_ofAllWards, mi_X1_copy, mi_X1_clearSums, mi_X1_put, mi_X1_passHours, mi_X1_passHour, mi_X1_serve, mi_X1_longestWait, mi_X1_waitingIn, mi_X1_roam, mi_X1_tire, mi_X2_add, mi_X2_clear] ++ ([mi_X2_arrange, mi_X2_asksTogether, mi_X2_hourOf, mi_X2_everyFleet, mi_X2_lowestBit, mi_X2_placeAll, mi_X2_takersOf, mi_X2_rateHour, mi_X2_placeHour, mi_X3_placeOf, mi_X3_append, mi_X3_removeAt, mi_X4_has, mi_X4_add, mi_X4_debt, mi_X4_divide] ++ ([mi_X4_settle, mi_X4_isOf, mi_X4_rankDebt, mi_X4_payRank, mi_X4_shareRank, mi_X5_add, mi_X5_copy, mi_X5_price, mi_X5_timesDue, mi_X6_has, mi_X6_add, mi_X6_replaceRent, mi_X6_mayStand, mi_X6_restingWard, mi_X6_hoursDue, mi_X6_worth] ++ ([mi_X7_has, mi_X7_detail, mi_X7_keep, mi_X7_search, mi_X7_fits, mi_X8_hasDriver, mi_X8_addDriver, mi_X8_placeOfDriver, mi_X8_assign, mi_X8_fillFree, mi_X8_listFreePlaces, mi_X8_listFreeDrivers, mi_X8_fillPlace, mi_X8_mostWorths, mi_X9_append, mi_X9_read] ++ ([mi_X9_readClauses, mi_X9_readClause, mi_X9_readWord, mi_X9_wordOf, mi_X9_sameBytes, mi_X9_readByte, mi_X9_readDigit, mi_X9_readNumber, mi_X10_plate, mi_X10_driver, mi_X10_drive, mi_X10_about, mi_X10_driven, mi_X10_fill, mi_X10_feed, mi_X10_law] ++ ([mi_X10_fare, mi_X10_ask, mi_X10_stand, mi_X10_step, mi_X10_tried, mi_X10_found, mi_X10_rode, mi_X10_value, mi_X10_rent, mi_X10_loan, mi_X10_owes, mi_X10_fails, mi_X10_part, mi_X10_over, mi_X10_rescue, mi_X10_swap] ++ ([mi_X10_unswap, mi_X10_spread, mi_X10_join, mi_X10_call, mi_X10_leave, mi_X10_count, mi_X10_within, mi_X10_isWard, mi_X10_isRent, mi_X10_isTerm, mi_X10_isPartable, mi_X10_isFailing, mi_X11_isIn, mi_X11_isPlate, mi_X11_isDriver, mi_X11_isWard] ++ ([mi_X11_plate, mi_X11_driver, mi_X11_frees, mi_X11_driverOf, mi_X11_gives, mi_X11_drive, mi_X11_about, mi_X11_driven, mi_X11_drives, mi_X11_worthOf, mi_X11_fill, mi_X11_feed, mi_X11_sign, mi_X11_signOf, mi_X11_word, mi_X11_isDigit] ++ ([mi_X11_takes, mi_X11_clause, mi_X11_parses, mi_X11_law, mi_X11_fareOf, mi_X11_fare, mi_X11_ask, mi_X11_mayStand, mi_X11_stand, mi_X11_waiting, mi_X11_runs, mi_X11_takesOne, mi_X11_roams, mi_X11_goesBy, mi_X11_step, mi_X11_tookAll] ++ ([mi_X11_tried, mi_X11_found, mi_X11_rode, mi_X11_areTerms, mi_X11_worth, mi_X11_value, mi_X11_rent, mi_X11_loan, mi_X11_owed, mi_X11_owes, mi_X11_fails, mi_X11_parts, mi_X11_part, mi_X11_over, mi_X11_rescue, mi_X11_swap] ++ ([mi_X11_unswap, mi_X11_asksAt, mi_X11_looks, mi_X11_hourFrom, mi_X11_goesOn, mi_X11_spreads, mi_X11_spread, mi_X11_placeOf, mi_X11_goesFrom, mi_X11_join, mi_X11_call, mi_X11_leave, mi_X11_count, mi_J6_bitCount_0f7a4, mi_J9_abs_0f7a4, mi_J9_max_7cf53] ++ ([mi_J9_min_7cf53])))))))))))
/-- field links: class, index, class of the object, field, nest, place of the word -/
def ax_ft : List (Nat × Nat × Nat × Nat × Bool × Nat) := [(0, 9, 0, 0, false, 207), (1, 11, 1, 5, false, 236), (1, 15, 1, 6, false, 238), (1, 18, 1, 7, false, 240), (1, 21, 1, 8, false, 242), (1, 24, 1, 9, false, 244), (1, 27, 1, 10, false, 246), (1, 30, 1, 11, false, 247), (1, 33, 1, 12, false, 248), (1, 37, 1, 0, false, 231), (1, 41, 1, 1, false, 232), (1, 45, 1, 2, false, 233), (1, 49, 1, 3, false, 234), (1, 53, 1, 4, false, 235), (1, 63, 1, 13, false, 249), (1, 67, 1, 14, false, 251), (1, 70, 1, 15, false, 253), (1, 73, 1, 16, false, 255), (1, 76, 1, 17, false, 257), (1, 93, 6, 4, true, 102), (1, 98, 8, 1, true, 125), (2, 9, 2, 1, false, 328), (2, 13, 2, 3, false, 331), (2, 16, 2, 4, false, 332), (2, 19, 2, 0, false, 327), (2, 23, 2, 2, false, 329), (2, 27, 2, 5, false, 333), (3, 9, 3, 0, false, 354), (3, 15, 3, 1, false, 356), (4, 9, 4, 0, false, 302), (4, 13, 4, 1, false, 304), (4, 16, 4, 2, false, 305), (4, 19, 4, 3, false, 306), (4, 22, 4, 4, false, 308), (5, 9, 5, 0, false, 169), (5, 13, 5, 1, false, 170), (5, 16, 5, 2, false, 171), (5, 19, 5, 3, false, 172), (6, 9, 6, 0, false, 94), (6, 15, 6, 1, false, 96), (6, 18, 6, 2, false, 98), (6, 21, 6, 3, false, 99), (6, 24, 6, 4, false, 100), (7, 11, 7, 0, false, 217), (7, 15, 7, 1, false, 218), (8, 9, 8, 0, false, 121), (8, 15, 8, 1, false, 123), (8, 18, 8, 3, false, 128), (8, 21, 8, 4, false, 129), (8, 24, 8, 5, false, 130), (8, 28, 8, 8, false, 133), (8, 31, 8, 9, false, 134), (8, 34, 8, 2, false, 126), (8, 53, 8, 6, false, 131), (8, 59, 8, 7, false, 132), (9, 11, 9, 0, false, 184), (9, 18, 9, 1, false, 185), (9, 22, 9, 2, false, 187), (9, 26, 9, 3, false, 189), (9, 29, 5, 3, true, 173), (10, 10, 10, 0, false, 363), (10, 19, 10, 1, false, 364), (10, 26, 10, 2, false, 365), (10, 33, 10, 3, false, 366), (10, 40, 10, 4, false, 367), (10, 47, 10, 5, false, 368), (10, 56, 10, 6, false, 369), (10, 60, 10, 7, false, 370), (10, 66, 10, 8, false, 371), (10, 75, 10, 9, false, 372), (10, 82, 10, 10, false, 373), (10, 94, 6, 4, true, 101), (10, 102, 8, 2, true, 127), (10, 120, 6, 0, true, 95), (10, 124, 6, 1, true, 97), (10, 127, 8, 1, true, 124), (10, 130, 1, 6, true, 239), (10, 133, 1, 7, true, 241), (10, 136, 1, 5, true, 237), (10, 142, 8, 0, true, 122), (10, 145, 1, 8, true, 243), (10, 148, 1, 9, true, 245), (10, 154, 9, 2, true, 188), (10, 163, 9, 1, true, 186), (10, 170, 5, 3, true, 174), (10, 187, 1, 13, true, 250), (10, 190, 1, 14, true, 252), (10, 203, 1, 15, true, 254), (10, 206, 1, 16, true, 256), (10, 209, 1, 17, true, 258), (10, 230, 4, 4, true, 309), (10, 243, 4, 0, true, 303), (10, 250, 4, 3, true, 307), (10, 261, 2, 2, true, 330), (10, 270, 2, 5, true, 334), (10, 284, 3, 1, true, 357), (10, 285, 3, 0, true, 355), (10, 291, 7, 1, true, 219), (11, 7, 11, 0, false, 916), (11, 13, 11, 1, false, 917), (11, 16, 11, 2, false, 918), (11, 19, 11, 3, false, 919), (11, 22, 11, 4, false, 920), (11, 25, 11, 5, false, 921), (11, 28, 11, 6, false, 922), (11, 31, 11, 9, false, 925), (11, 34, 11, 10, false, 926), (11, 37, 11, 16, false, 932), (11, 40, 11, 17, false, 933), (11, 43, 11, 18, false, 934), (11, 46, 11, 19, false, 935), (11, 49, 11, 20, false, 936), (11, 52, 11, 21, false, 937), (11, 55, 11, 22, false, 938), (11, 58, 11, 23, false, 939), (11, 61, 11, 24, false, 940), (11, 64, 11, 27, false, 943), (11, 67, 11, 28, false, 944), (11, 70, 11, 29, false, 945), (11, 73, 11, 30, false, 946), (11, 76, 11, 31, false, 947), (11, 79, 11, 32, false, 948), (11, 82, 11, 33, false, 949), (11, 85, 11, 37, false, 953), (11, 89, 11, 38, false, 954), (11, 92, 11, 39, false, 955), (11, 95, 11, 40, false, 956), (11, 98, 11, 41, false, 957), (11, 101, 11, 43, false, 959), (11, 104, 11, 44, false, 960), (11, 107, 11, 45, false, 961), (11, 110, 11, 46, false, 962), (11, 113, 11, 50, false, 966), (11, 116, 11, 7, false, 923), (11, 120, 11, 8, false, 924), (11, 154, 11, 25, false, 941), (11, 157, 11, 26, false, 942), (11, 167, 11, 34, false, 950), (11, 172, 11, 36, false, 952), (11, 199, 11, 35, false, 951), (11, 220, 11, 14, false, 930), (11, 227, 11, 11, false, 927), (11, 230, 11, 15, false, 931), (11, 244, 11, 13, false, 929), (11, 250, 11, 12, false, 928), (11, 277, 11, 42, false, 958), (11, 291, 11, 47, false, 963), (11, 297, 11, 48, false, 964), (11, 300, 11, 49, false, 965), (11, 316, 11, 51, false, 967)]
/-- method links: class, index, method, nest, place of the word -/
def ax_mt : List (Nat × Nat × Nat × Bool × Nat) := [(0, 15, 1, false, 623), (1, 57, 999, false, 692), (1, 79, 8, false, 647), (1, 83, 1, false, 651), (1, 89, 102, true, 652), (1, 103, 9, false, 653), (1, 106, 12, false, 671), (1, 109, 13, false, 680), (1, 112, 10, false, 657), (1, 116, 39, false, 661), (1, 122, 50, false, 662), (1, 128, 45, false, 666), (1, 131, 11, false, 675), (1, 134, 44, false, 679), (2, 30, 21, false, 839), (2, 34, 19, false, 863), (2, 39, 20, false, 852), (2, 43, 23, false, 844), (2, 46, 22, false, 855), (2, 49, 24, false, 859), (2, 53, 3, false, 848), (2, 58, 173, false, 867), (2, 63, 176, false, 873), (4, 26, 102, true, 777), (4, 32, 34, false, 786), (4, 36, 35, false, 794), (4, 40, 36, false, 798), (4, 44, 33, false, 790), (5, 24, 176, false, 607), (5, 30, 40, false, 608), (5, 34, 174, false, 612), (6, 28, 102, true, 427), (6, 32, 44, false, 670), (6, 36, 175, false, 449), (7, 19, 102, true, 711), (7, 23, 49, false, 707), (7, 27, 52, false, 712), (8, 38, 102, true, 432), (8, 42, 55, false, 437), (8, 46, 58, false, 464), (8, 50, 59, false, 468), (8, 56, 60, false, 472), (8, 62, 61, false, 476), (8, 66, 176, false, 480), (9, 30, 64, false, 499), (9, 34, 65, false, 503), (9, 37, 69, false, 578), (9, 41, 66, false, 507), (9, 45, 70, false, 573), (9, 49, 71, false, 582), (9, 52, 37, false, 586), (9, 56, 67, false, 511), (9, 60, 68, false, 520), (9, 64, 997, false, 524), (9, 69, 175, false, 572), (9, 87, 998, false, 534), (9, 91, 102, true, 577), (10, 86, 102, false, 401), (10, 90, 104, false, 404), (10, 98, 42, false, 407), (10, 105, 54, false, 415), (10, 109, 41, false, 423), (10, 113, 53, false, 428), (10, 116, 56, false, 433), (10, 139, 46, false, 445), (10, 151, 57, false, 460), (10, 155, 62, false, 487), (10, 159, 63, false, 495), (10, 166, 38, false, 590), (10, 171, 103, false, 599), (10, 174, 39, false, 602), (10, 177, 2, false, 619), (10, 181, 44, false, 631), (10, 184, 6, false, 635), (10, 193, 7, false, 643), (10, 197, 4, false, 688), (10, 200, 5, false, 695), (10, 212, 51, false, 703), (10, 216, 48, false, 720), (10, 217, 49, false, 724), (10, 220, 105, false, 729), (10, 223, 47, false, 732), (10, 226, 43, false, 740), (10, 231, 29, false, 749), (10, 233, 30, false, 757), (10, 236, 107, false, 765), (10, 239, 28, false, 773), (10, 240, 106, false, 778), (10, 246, 31, false, 782), (10, 253, 175, false, 806), (10, 258, 32, false, 811), (10, 262, 14, false, 819), (10, 264, 15, false, 827), (10, 267, 16, false, 835), (10, 273, 17, false, 874), (10, 276, 18, false, 878), (10, 279, 25, false, 886), (10, 282, 26, false, 890), (10, 288, 27, false, 898), (11, 125, 108, false, 1078), (11, 135, 114, false, 1108), (11, 139, 109, false, 1092), (11, 143, 110, false, 1096), (11, 146, 115, false, 1100), (11, 150, 116, false, 1104), (11, 159, 120, false, 1124), (11, 162, 121, false, 1128), (11, 175, 125, false, 1154), (11, 178, 124, false, 1157), (11, 182, 126, false, 1150), (11, 184, 128, false, 1161), (11, 190, 127, false, 1167), (11, 193, 129, false, 1146), (11, 196, 130, false, 1142), (11, 203, 111, false, 1174), (11, 210, 132, false, 1179), (11, 216, 135, false, 1193), (11, 233, 137, false, 1212), (11, 237, 138, false, 1206), (11, 240, 139, false, 1216), (11, 247, 140, false, 1220), (11, 255, 141, false, 1202), (11, 261, 143, false, 1229), (11, 268, 147, false, 1245), (11, 271, 148, false, 1249), (11, 280, 152, false, 1267), (11, 285, 155, false, 1280), (11, 294, 161, false, 1317), (11, 303, 163, false, 1309), (11, 306, 162, false, 1313), (11, 309, 164, false, 1321), (11, 313, 165, false, 1305), (11, 319, 167, false, 1329), (11, 322, 168, false, 1337), (12, 13, 72, false, 397), (12, 17, 112, false, 1073), (12, 18, 73, false, 411), (12, 22, 113, false, 1083), (12, 23, 74, false, 419), (12, 27, 117, false, 1088), (12, 28, 75, false, 441), (12, 32, 118, false, 1112), (12, 33, 76, false, 452), (12, 36, 119, false, 1116), (12, 37, 77, false, 456), (12, 41, 122, false, 1120), (12, 44, 78, false, 483), (12, 48, 123, false, 1132), (12, 49, 79, false, 491), (12, 52, 131, false, 1138), (12, 53, 80, false, 595), (12, 56, 133, false, 1170), (12, 57, 81, false, 615), (12, 60, 134, false, 1184), (12, 61, 82, false, 627), (12, 64, 136, false, 1189), (12, 65, 83, false, 639), (12, 68, 142, false, 1197), (12, 69, 84, false, 684), (12, 72, 144, false, 1224), (12, 73, 85, false, 699), (12, 77, 145, false, 1233), (12, 78, 86, false, 716), (12, 81, 146, false, 1237), (12, 82, 87, false, 725), (12, 85, 149, false, 1241), (12, 86, 88, false, 736), (12, 89, 150, false, 1254), (12, 90, 89, false, 744), (12, 93, 151, false, 1258), (12, 94, 90, false, 753), (12, 97, 153, false, 1263), (12, 98, 91, false, 761), (12, 101, 154, false, 1271), (12, 102, 92, false, 769), (12, 105, 156, false, 1275), (12, 106, 93, false, 802), (12, 109, 157, false, 1284), (12, 110, 94, false, 807), (12, 113, 158, false, 1288), (12, 114, 95, false, 815), (12, 117, 159, false, 1293), (12, 118, 96, false, 823), (12, 121, 160, false, 1297), (12, 122, 97, false, 831), (12, 125, 166, false, 1301), (12, 126, 98, false, 882), (12, 129, 169, false, 1325), (12, 130, 99, false, 894), (12, 133, 170, false, 1333), (12, 134, 100, false, 902), (12, 137, 171, false, 1341), (12, 138, 101, false, 906), (12, 141, 172, false, 1345)]
/-- constants -/
def ax_ci : List (Nat × Nat × Int32 × Nat) := [(2, 38, 1073741824, 843), (5, 23, 99999, 606), (10, 229, 99999, 748), (10, 292, 999999, 781), (11, 202, 99999, 1183), (13, 265, 1431655765, 870), (13, 266, 858993459, 871), (13, 267, 252645135, 872)]
def ax_cj : List (Nat × Nat × Int64 × Nat) := [(11, 123, 3, 1077), (11, 129, 5, 1081), (11, 131, 9999, 1082), (11, 133, 2, 1087), (11, 165, 8, 1136), (11, 170, 255, 1137), (11, 186, 48, 1165), (11, 188, 52, 1166), (11, 206, 23, 1177), (11, 208, 9, 1178), (11, 214, 20, 1188), (11, 223, 4, 1210), (11, 225, 15, 1211), (11, 253, 24, 1201), (11, 259, 40, 1228), (11, 264, 500, 1248), (11, 266, 1000, 1253), (11, 275, 99999, 1262), (11, 283, 999999, 1279), (11, 289, 100, 1292), (12, 42, 4294967295, 1349)]
end
section
/-! what a program decides of the tables, once for all methods -/
def ax_m0 : ax_Mi := (yL_law, code, 4, some .boolean, 12, 0, 0, 0, 0, 0, 0, true)
def ax_m (k : Nat) : ax_Mi := ax_mis.getD k ax_m0
def ax_tb (k : Nat) : List (List ax_Rw) := ax_tbs.getD k []
def ax_T (ci : Nat) : u_T := (vwCl.getD ci (RX0, TX0, 1)).2.1
def ax_cnm (oc : Nat) : String := ax_cn.getD oc ""
def ax_gw (w : Cond) : Bool := goodWord w || (match w with
  | .fieldLinkNest .. => true
  | .methodLinkNest .. => true
  | _ => false)
def lw_w : List Cond := lw_tbl.filter ax_gw
theorem lw_w_in {w : Cond} (h : w ∈ lw_tbl) (hg : ax_gw w = true) : w ∈ lw_w := List.mem_filter.mpr ⟨h, hg⟩
def ax_len : Instr → Nat
  | .bipush _ => 2
  | .sipush _ => 3
  | .ldc _ => 2
  | .ldc_w _ => 3
  | .ldc2_w _ => 3
  | .iload _ => 2
  | .lload _ => 2
  | .aload _ => 2
  | .istore _ => 2
  | .lstore _ => 2
  | .astore _ => 2
  | .iinc .. => 3
  | .goto _ => 3
  | .ifCond .. => 3
  | .if_icmp .. => 3
  | .ifnull _ => 3
  | .getfield _ => 3
  | .putfield _ => 3
  | .invokevirtual _ => 3
  | .invokestatic _ => 3
  | .invokespecial _ => 3
  | .new _ => 3
  | _ => 1
def ax_swi : Instr → Bool
  | .tableswitch .. => true
  | .lookupswitch .. => true
  | _ => false
def ax_dok (cc : ByteArray) (r : ax_Rw) : Bool := match decode cc r.1 with
  | .ok (i, n) => decide (i = r.2.1) && (ax_swi i || Nat.beq n (ax_len i))
  | _ => false
def ax_cok (oc' st' : Nat × Bool) (fr lo b : Nat) (sw : List (Int32 × Nat)) (m' : Option ax_Mi) : Bool := match m' with
  | some (y, _, mL, _, oc, fr', lo', p0, _, _, _, st) => Nat.blt 0 p0 && (st == st'.2) && Nat.beq oc oc'.1 && Nat.ble (fr' + 1) fr && Nat.ble (8 + (mL + 11) + lo') lo && (match sw with
    | [(_, n), _] => Nat.beq n mL
    | _ => false) && decide ((parseMethodDescriptor y.desc).map (fun d => d.parameters.length) = some b)
  | none => false
def ax_mok (oc x a : Nat) : Bool := ax_mt.any fun q => Nat.beq q.1 oc && Nat.beq q.2.1 x && Nat.beq q.2.2.1 a
def ax_fok (oc x a b : Nat) : Bool := ax_ft.any fun q => Nat.beq q.1 oc && Nat.beq q.2.1 x && Nat.beq q.2.2.1 a && Nat.beq q.2.2.2.1 b
def ax_iok (oc x : Nat) (v : Int32) : Bool := ax_ci.any fun q => Nat.beq q.1 oc && Nat.beq q.2.1 x && decide (q.2.2.1 = v)
def ax_jok (oc x : Nat) (v : Int64) : Bool := ax_cj.any fun q => Nat.beq q.1 oc && Nat.beq q.2.1 x && decide (q.2.2.1 = v)
def ax_pok (m : ax_Mi) (r : ax_Rw) : Bool :=
  match m, r with
  | (_, _, _, rt, oc, fr, lo, _), (pc, i, a, b, c, v, z, sw) =>
  match i with
  | .iconst n => decide (Int32.ofInt n = v)
  | .bipush n => decide ((Int8.ofInt n).toInt32 = v)
  | .sipush n => decide ((Int16.ofInt n).toInt32 = v)
  | .lconst n => decide (Int64.ofNat (n : Nat) = z)
  | .ldc x => cond (Nat.beq b 0) (ax_iok oc x v) (decide (oc = 9 ∧ a < 6 ∧ x = 75 + 2 * a))
  | .ldc_w x => ax_iok oc x v
  | .ldc2_w x => ax_jok oc x z
  | .iload_n n => Nat.beq n a
  | .lload_n n => Nat.beq n a
  | .aload_n n => Nat.beq n a
  | .istore_n n => Nat.beq n a
  | .lstore_n n => Nat.beq n a
  | .astore_n n => Nat.beq n a
  | .iload n => Nat.beq n a
  | .lload n => Nat.beq n a
  | .aload n => Nat.beq n a
  | .istore n => Nat.beq n a
  | .lstore n => Nat.beq n a
  | .astore n => Nat.beq n a
  | .iinc n d => Nat.beq n a && decide (Int32.ofInt d = v)
  | .goto o => decide ((pc : Int) + o = (a : Int))
  | .ifCond _ o => decide ((pc : Int) + o = (a : Int))
  | .if_icmp _ o => decide ((pc : Int) + o = (a : Int))
  | .ifnull o => decide ((pc : Int) + o = (a : Int))
  | .tableswitch d lo hi offs => decide ((pc : Int) + d = (a : Int) ∧ offs.toList.map (fun o => (pc : Int) + o) = sw.map (fun q => (q.2 : Int)) ∧ sw.map (fun q => q.1.toInt) = (List.range sw.length).map (fun j : Nat => lo + (j : Int)) ∧ hi = lo + (sw.length : Int) - 1)
  | .lookupswitch d ps => decide ((pc : Int) + d = (a : Int) ∧ ps.toList.map (fun q => (q.1, (pc : Int) + q.2)) = sw.map (fun q => (q.1.toInt, (q.2 : Int))) ∧ (ps.toList.zip (ps.toList.drop 1)).all (fun (a, next) => a.1 < next.1) = true)
  | .getfield x => ax_fok oc x a b
  | .putfield x => ax_fok oc x a b && decide ((ax_T a b).2.2.2 = false ∧ (ax_T a b).2.2.1 = "I")
  | .invokevirtual x => ax_mok oc x a && (match a with
    | 997 => Nat.beq b 0 && Nat.ble 2 fr && Nat.ble 40 lo
    | 998 => Nat.beq b 1 && Nat.ble 4 fr && Nat.ble 85 lo
    | a => ax_cok (c, true) (0, false) fr lo b sw ax_mis[a]?)
  | .invokestatic x => ax_mok oc x a && (match a with
    | 999 => Nat.beq b 5 && Nat.ble 1 fr && Nat.ble 26 lo
    | a => ax_cok (c, true) (0, true) fr lo b sw ax_mis[a]?)
  | .ireturn => decide ((b = 0 ∧ rt = some .int) ∨ (b = 1 ∧ rt = some .boolean))
  | .areturn => decide (rt = some (.object "java/lang/String"))
  | .return_ => decide (rt = none)
  | _ => true
def ax_rok (m : ax_Mi) (r : ax_Rw) : Bool := ax_dok m.2.1 r && ax_pok m r
def ax_chk (m : ax_Mi) (t : List (List ax_Rw)) : Bool := t.all fun rs => rs.all (ax_rok m)
def ax_fw (q : Nat × Nat × Nat × Nat × Bool × Nat) : Cond := match q with
  | (oc, x, a, b, nest, _) => cond nest (.fieldLinkNest (ax_cnm oc) x (ax_T a b).1 (ax_T a b).2.1 (ax_T a b).2.2.1 "PlateHire") (.fieldLink (ax_cnm oc) x (ax_T a b).1 (ax_T a b).2.1 (ax_T a b).2.2.1)
theorem ax_ft_ok : ax_ft.all (fun q => decide (lw_tbl[q.2.2.2.2.2]? = some (ax_fw q)) && Nat.blt q.2.2.1 12 && Nat.blt q.2.2.2.1 (vwCl.getD q.2.2.1 (RX0, TX0, 1)).2.2) = true := by decide +kernel
def ax_nm (a : Nat) : MethodName := match a with
  | 997 => yJ0_length_8abf5
  | 998 => yJ0_charAt_5068e
  | 999 => arraycopyName
  | a => (ax_m a).1
def ax_mw (q : Nat × Nat × Nat × Bool × Nat) : Cond := match q with
  | (oc, x, a, nest, _) => cond nest (.methodLinkNest (ax_cnm oc) x (ax_nm a) "PlateHire") (.methodLink (ax_cnm oc) x (ax_nm a))
theorem ax_mt_ok : ax_mt.all (fun q => decide (lw_tbl[q.2.2.2.2]? = some (ax_mw q))) = true := by decide +kernel
theorem ax_ci_ok : ax_ci.all (fun q => decide (lw_tbl[q.2.2.2]? = some (.constant (ax_cnm q.1) q.2.1 q.2.2.1))) = true := by decide +kernel
theorem ax_cj_ok : ax_cj.all (fun q => decide (lw_tbl[q.2.2.2]? = some (.constantLong (ax_cnm q.1) q.2.1 q.2.2.1))) = true := by decide +kernel
def ax_miok (m : ax_Mi) : Bool := match m with
  | (y, _, _, _, oc, _, _, _, p1, p2, p3, st) => decide (lw_tbl[p1]? = some (.initialized y.cls)) && cond st (decide (lw_tbl[p2]? = some (.static y))) (decide (lw_tbl[p2]? = some (.instanceMethod y)) && decide (lw_tbl[p3]? = some (.selects y.cls y y))) && decide (y.cls = ax_cnm oc) && plainFor y && decide (y.cls ≠ "java/lang/invoke/MethodHandle" ∧ y.cls ≠ "java/lang/invoke/VarHandle")
theorem ax_mi_ok : (ax_mis.drop 1).all ax_miok = true := by decide +kernel
def ax_mwf (m : ax_Mi) : Prop := m.2.2.2.2.2.2.2.1 = 0 ∨ Cond.code m.1 m.2.1 m.2.2.1 m.2.2.2.1 ∈ lw_tbl
end
section
/-! each method's rows are its code's, and its links the tables'. Written by wip/whole/gen/gen_prog.py -/
theorem ck_L_law_0 : (tb_L_law_0).all (ax_rok mi_L_law) = true := by decide +kernel
theorem ck_L_law_1 : (tb_L_law_1).all (ax_rok mi_L_law) = true := by decide +kernel
theorem ck_L_law_2 : (tb_L_law_2).all (ax_rok mi_L_law) = true := by decide +kernel
theorem ck_L_law_3 : (tb_L_law_3).all (ax_rok mi_L_law) = true := by decide +kernel
theorem ck_L_law_4 : (tb_L_law_4).all (ax_rok mi_L_law) = true := by decide +kernel
theorem ck_L_law_5 : (tb_L_law_5).all (ax_rok mi_L_law) = true := by decide +kernel
theorem ck_L_law_6 : (tb_L_law_6).all (ax_rok mi_L_law) = true := by decide +kernel
theorem ck_L_law_7 : (tb_L_law_7).all (ax_rok mi_L_law) = true := by decide +kernel
theorem ck_L_law_8 : (tb_L_law_8).all (ax_rok mi_L_law) = true := by decide +kernel
theorem ck_L_law_9 : (tb_L_law_9).all (ax_rok mi_L_law) = true := by decide +kernel
theorem ck_L_law_10 : (tb_L_law_10).all (ax_rok mi_L_law) = true := by decide +kernel
theorem ck_L_law_11 : (tb_L_law_11).all (ax_rok mi_L_law) = true := by decide +kernel
theorem ck_L_law_12 : (tb_L_law_12).all (ax_rok mi_L_law) = true := by decide +kernel
theorem ck_L_law_13 : (tb_L_law_13).all (ax_rok mi_L_law) = true := by decide +kernel
theorem ck_L_law_14 : (tb_L_law_14).all (ax_rok mi_L_law) = true := by decide +kernel
theorem ck_L_law_15 : (tb_L_law_15).all (ax_rok mi_L_law) = true := by decide +kernel
theorem ck_L_law_16 : (tb_L_law_16).all (ax_rok mi_L_law) = true := by decide +kernel
theorem ck_L_law_17 : (tb_L_law_17).all (ax_rok mi_L_law) = true := by decide +kernel
theorem ck_L_law_18 : (tb_L_law_18).all (ax_rok mi_L_law) = true := by decide +kernel
theorem ck_L_law_19 : (tb_L_law_19).all (ax_rok mi_L_law) = true := by decide +kernel
theorem ck_L_law_20 : (tb_L_law_20).all (ax_rok mi_L_law) = true := by decide +kernel
theorem ck_L_law_21 : (tb_L_law_21).all (ax_rok mi_L_law) = true := by decide +kernel
theorem ck_L_law_22 : (tb_L_law_22).all (ax_rok mi_L_law) = true := by decide +kernel
theorem ck_L_law_23 : (tb_L_law_23).all (ax_rok mi_L_law) = true := by decide +kernel
theorem ck_L_law_24 : (tb_L_law_24).all (ax_rok mi_L_law) = true := by decide +kernel
theorem ck_L_law_25 : (tb_L_law_25).all (ax_rok mi_L_law) = true := by decide +kernel
theorem ck_L_law_26 : (tb_L_law_26).all (ax_rok mi_L_law) = true := by decide +kernel
theorem ck_L_law_27 : (tb_L_law_27).all (ax_rok mi_L_law) = true := by decide +kernel
theorem ck_L_law_28 : (tb_L_law_28).all (ax_rok mi_L_law) = true := by decide +kernel
theorem ck_L_law_29 : (tb_L_law_29).all (ax_rok mi_L_law) = true := by decide +kernel
theorem ck_L_law_30 : (tb_L_law_30).all (ax_rok mi_L_law) = true := by decide +kernel
theorem ck_L_law_31 : (tb_L_law_31).all (ax_rok mi_L_law) = true := by decide +kernel
theorem ck_L_law_32 : (tb_L_law_32).all (ax_rok mi_L_law) = true := by decide +kernel
theorem ck_L_law_33 : (tb_L_law_33).all (ax_rok mi_L_law) = true := by decide +kernel
theorem ck_L_law_34 : (tb_L_law_34).all (ax_rok mi_L_law) = true := by decide +kernel
theorem ck_L_law_35 : (tb_L_law_35).all (ax_rok mi_L_law) = true := by decide +kernel
theorem ck_L_law_36 : (tb_L_law_36).all (ax_rok mi_L_law) = true := by decide +kernel
theorem ck_L_law_37 : (tb_L_law_37).all (ax_rok mi_L_law) = true := by decide +kernel
theorem ck_L_law : ax_chk mi_L_law tb_L_law = true := by simp only [ax_chk, tb_L_law, List.all_cons, List.all_nil, Bool.and_true, ck_L_law_0, ck_L_law_1, ck_L_law_2, ck_L_law_3, ck_L_law_4, ck_L_law_5, ck_L_law_6, ck_L_law_7, ck_L_law_8, ck_L_law_9, ck_L_law_10, ck_L_law_11, ck_L_law_12, ck_L_law_13, ck_L_law_14, ck_L_law_15, ck_L_law_16, ck_L_law_17, ck_L_law_18, ck_L_law_19, ck_L_law_20, ck_L_law_21, ck_L_law_22, ck_L_law_23, ck_L_law_24, ck_L_law_25, ck_L_law_26, ck_L_law_27, ck_L_law_28, ck_L_law_29, ck_L_law_30, ck_L_law_31, ck_L_law_32, ck_L_law_33, ck_L_law_34, ck_L_law_35, ck_L_law_36, ck_L_law_37]
theorem ck_X0_at : ax_chk mi_X0_at tb_X0_at = true := by decide +kernel
theorem ck_X0_replace : ax_chk mi_X0_replace tb_X0_replace = true := by decide +kernel
theorem ck_X0_ofAllWards : ax_chk mi_X0_ofAllWards tb_X0_ofAllWards = true := by decide +kernel
theorem ck_X1_copy : ax_chk mi_X1_copy tb_X1_copy = true := by decide +kernel
theorem ck_X1_clearSums : ax_chk mi_X1_clearSums tb_X1_clearSums = true := by decide +kernel
theorem ck_X1_put : ax_chk mi_X1_put tb_X1_put = true := by decide +kernel
theorem ck_X1_passHours : ax_chk mi_X1_passHours tb_X1_passHours = true := by decide +kernel
theorem ck_X1_passHour_0 : (tb_X1_passHour_0).all (ax_rok mi_X1_passHour) = true := by decide +kernel
theorem ck_X1_passHour_1 : (tb_X1_passHour_1).all (ax_rok mi_X1_passHour) = true := by decide +kernel
theorem ck_X1_passHour_2 : (tb_X1_passHour_2).all (ax_rok mi_X1_passHour) = true := by decide +kernel
theorem ck_X1_passHour_3 : (tb_X1_passHour_3).all (ax_rok mi_X1_passHour) = true := by decide +kernel
theorem ck_X1_passHour_4 : (tb_X1_passHour_4).all (ax_rok mi_X1_passHour) = true := by decide +kernel
theorem ck_X1_passHour_5 : (tb_X1_passHour_5).all (ax_rok mi_X1_passHour) = true := by decide +kernel
theorem ck_X1_passHour_6 : (tb_X1_passHour_6).all (ax_rok mi_X1_passHour) = true := by decide +kernel
theorem ck_X1_passHour : ax_chk mi_X1_passHour tb_X1_passHour = true := by simp only [ax_chk, tb_X1_passHour, List.all_cons, List.all_nil, Bool.and_true, ck_X1_passHour_0, ck_X1_passHour_1, ck_X1_passHour_2, ck_X1_passHour_3, ck_X1_passHour_4, ck_X1_passHour_5, ck_X1_passHour_6]
theorem ck_X1_serve_0 : (tb_X1_serve_0).all (ax_rok mi_X1_serve) = true := by decide +kernel
theorem ck_X1_serve_1 : (tb_X1_serve_1).all (ax_rok mi_X1_serve) = true := by decide +kernel
theorem ck_X1_serve_2 : (tb_X1_serve_2).all (ax_rok mi_X1_serve) = true := by decide +kernel
theorem ck_X1_serve_3 : (tb_X1_serve_3).all (ax_rok mi_X1_serve) = true := by decide +kernel
theorem ck_X1_serve_4 : (tb_X1_serve_4).all (ax_rok mi_X1_serve) = true := by decide +kernel
theorem ck_X1_serve_5 : (tb_X1_serve_5).all (ax_rok mi_X1_serve) = true := by decide +kernel
theorem ck_X1_serve_6 : (tb_X1_serve_6).all (ax_rok mi_X1_serve) = true := by decide +kernel
theorem ck_X1_serve : ax_chk mi_X1_serve tb_X1_serve = true := by simp only [ax_chk, tb_X1_serve, List.all_cons, List.all_nil, Bool.and_true, ck_X1_serve_0, ck_X1_serve_1, ck_X1_serve_2, ck_X1_serve_3, ck_X1_serve_4, ck_X1_serve_5, ck_X1_serve_6]
theorem ck_X1_longestWait : ax_chk mi_X1_longestWait tb_X1_longestWait = true := by decide +kernel
theorem ck_X1_waitingIn : ax_chk mi_X1_waitingIn tb_X1_waitingIn = true := by decide +kernel
theorem ck_X1_roam : ax_chk mi_X1_roam tb_X1_roam = true := by decide +kernel
theorem ck_X1_tire : ax_chk mi_X1_tire tb_X1_tire = true := by decide +kernel
theorem ck_X2_add : ax_chk mi_X2_add tb_X2_add = true := by decide +kernel
theorem ck_X2_clear : ax_chk mi_X2_clear tb_X2_clear = true := by decide +kernel
theorem ck_X2_arrange : ax_chk mi_X2_arrange tb_X2_arrange = true := by decide +kernel
theorem ck_X2_asksTogether : ax_chk mi_X2_asksTogether tb_X2_asksTogether = true := by decide +kernel
theorem ck_X2_hourOf : ax_chk mi_X2_hourOf tb_X2_hourOf = true := by decide +kernel
theorem ck_X2_everyFleet : ax_chk mi_X2_everyFleet tb_X2_everyFleet = true := by decide +kernel
theorem ck_X2_lowestBit : ax_chk mi_X2_lowestBit tb_X2_lowestBit = true := by decide +kernel
theorem ck_X2_placeAll : ax_chk mi_X2_placeAll tb_X2_placeAll = true := by decide +kernel
theorem ck_X2_takersOf : ax_chk mi_X2_takersOf tb_X2_takersOf = true := by decide +kernel
theorem ck_X2_rateHour : ax_chk mi_X2_rateHour tb_X2_rateHour = true := by decide +kernel
theorem ck_X2_placeHour : ax_chk mi_X2_placeHour tb_X2_placeHour = true := by decide +kernel
theorem ck_X3_placeOf : ax_chk mi_X3_placeOf tb_X3_placeOf = true := by decide +kernel
theorem ck_X3_append : ax_chk mi_X3_append tb_X3_append = true := by decide +kernel
theorem ck_X3_removeAt : ax_chk mi_X3_removeAt tb_X3_removeAt = true := by decide +kernel
theorem ck_X4_has : ax_chk mi_X4_has tb_X4_has = true := by decide +kernel
theorem ck_X4_add : ax_chk mi_X4_add tb_X4_add = true := by decide +kernel
theorem ck_X4_debt : ax_chk mi_X4_debt tb_X4_debt = true := by decide +kernel
theorem ck_X4_divide : ax_chk mi_X4_divide tb_X4_divide = true := by decide +kernel
theorem ck_X4_settle : ax_chk mi_X4_settle tb_X4_settle = true := by decide +kernel
theorem ck_X4_isOf : ax_chk mi_X4_isOf tb_X4_isOf = true := by decide +kernel
theorem ck_X4_rankDebt : ax_chk mi_X4_rankDebt tb_X4_rankDebt = true := by decide +kernel
theorem ck_X4_payRank : ax_chk mi_X4_payRank tb_X4_payRank = true := by decide +kernel
theorem ck_X4_shareRank : ax_chk mi_X4_shareRank tb_X4_shareRank = true := by decide +kernel
theorem ck_X5_add : ax_chk mi_X5_add tb_X5_add = true := by decide +kernel
theorem ck_X5_copy : ax_chk mi_X5_copy tb_X5_copy = true := by decide +kernel
theorem ck_X5_price : ax_chk mi_X5_price tb_X5_price = true := by decide +kernel
theorem ck_X5_timesDue : ax_chk mi_X5_timesDue tb_X5_timesDue = true := by decide +kernel
theorem ck_X6_has : ax_chk mi_X6_has tb_X6_has = true := by decide +kernel
theorem ck_X6_add : ax_chk mi_X6_add tb_X6_add = true := by decide +kernel
theorem ck_X6_replaceRent : ax_chk mi_X6_replaceRent tb_X6_replaceRent = true := by decide +kernel
theorem ck_X6_mayStand : ax_chk mi_X6_mayStand tb_X6_mayStand = true := by decide +kernel
theorem ck_X6_restingWard : ax_chk mi_X6_restingWard tb_X6_restingWard = true := by decide +kernel
theorem ck_X6_hoursDue : ax_chk mi_X6_hoursDue tb_X6_hoursDue = true := by decide +kernel
theorem ck_X6_worth : ax_chk mi_X6_worth tb_X6_worth = true := by decide +kernel
theorem ck_X7_has : ax_chk mi_X7_has tb_X7_has = true := by decide +kernel
theorem ck_X7_detail : ax_chk mi_X7_detail tb_X7_detail = true := by decide +kernel
theorem ck_X7_keep : ax_chk mi_X7_keep tb_X7_keep = true := by decide +kernel
theorem ck_X7_search : ax_chk mi_X7_search tb_X7_search = true := by decide +kernel
theorem ck_X7_fits : ax_chk mi_X7_fits tb_X7_fits = true := by decide +kernel
theorem ck_X8_hasDriver : ax_chk mi_X8_hasDriver tb_X8_hasDriver = true := by decide +kernel
theorem ck_X8_addDriver : ax_chk mi_X8_addDriver tb_X8_addDriver = true := by decide +kernel
theorem ck_X8_placeOfDriver : ax_chk mi_X8_placeOfDriver tb_X8_placeOfDriver = true := by decide +kernel
theorem ck_X8_assign : ax_chk mi_X8_assign tb_X8_assign = true := by decide +kernel
theorem ck_X8_fillFree : ax_chk mi_X8_fillFree tb_X8_fillFree = true := by decide +kernel
theorem ck_X8_listFreePlaces : ax_chk mi_X8_listFreePlaces tb_X8_listFreePlaces = true := by decide +kernel
theorem ck_X8_listFreeDrivers : ax_chk mi_X8_listFreeDrivers tb_X8_listFreeDrivers = true := by decide +kernel
theorem ck_X8_fillPlace : ax_chk mi_X8_fillPlace tb_X8_fillPlace = true := by decide +kernel
theorem ck_X8_mostWorths : ax_chk mi_X8_mostWorths tb_X8_mostWorths = true := by decide +kernel
theorem ck_X9_append : ax_chk mi_X9_append tb_X9_append = true := by decide +kernel
theorem ck_X9_read : ax_chk mi_X9_read tb_X9_read = true := by decide +kernel
theorem ck_X9_readClauses : ax_chk mi_X9_readClauses tb_X9_readClauses = true := by decide +kernel
theorem ck_X9_readClause : ax_chk mi_X9_readClause tb_X9_readClause = true := by decide +kernel
theorem ck_X9_readWord : ax_chk mi_X9_readWord tb_X9_readWord = true := by decide +kernel
theorem ck_X9_wordOf : ax_chk mi_X9_wordOf tb_X9_wordOf = true := by decide +kernel
theorem ck_X9_sameBytes : ax_chk mi_X9_sameBytes tb_X9_sameBytes = true := by decide +kernel
theorem ck_X9_readByte : ax_chk mi_X9_readByte tb_X9_readByte = true := by decide +kernel
theorem ck_X9_readDigit : ax_chk mi_X9_readDigit tb_X9_readDigit = true := by decide +kernel
theorem ck_X9_readNumber : ax_chk mi_X9_readNumber tb_X9_readNumber = true := by decide +kernel
theorem ck_X10_plate : ax_chk mi_X10_plate tb_X10_plate = true := by decide +kernel
theorem ck_X10_driver : ax_chk mi_X10_driver tb_X10_driver = true := by decide +kernel
theorem ck_X10_drive : ax_chk mi_X10_drive tb_X10_drive = true := by decide +kernel
theorem ck_X10_about : ax_chk mi_X10_about tb_X10_about = true := by decide +kernel
theorem ck_X10_driven : ax_chk mi_X10_driven tb_X10_driven = true := by decide +kernel
theorem ck_X10_fill : ax_chk mi_X10_fill tb_X10_fill = true := by decide +kernel
theorem ck_X10_feed : ax_chk mi_X10_feed tb_X10_feed = true := by decide +kernel
theorem ck_X10_law : ax_chk mi_X10_law tb_X10_law = true := by decide +kernel
theorem ck_X10_fare : ax_chk mi_X10_fare tb_X10_fare = true := by decide +kernel
theorem ck_X10_ask : ax_chk mi_X10_ask tb_X10_ask = true := by decide +kernel
theorem ck_X10_stand : ax_chk mi_X10_stand tb_X10_stand = true := by decide +kernel
theorem ck_X10_step : ax_chk mi_X10_step tb_X10_step = true := by decide +kernel
theorem ck_X10_tried : ax_chk mi_X10_tried tb_X10_tried = true := by decide +kernel
theorem ck_X10_found : ax_chk mi_X10_found tb_X10_found = true := by decide +kernel
theorem ck_X10_rode : ax_chk mi_X10_rode tb_X10_rode = true := by decide +kernel
theorem ck_X10_value : ax_chk mi_X10_value tb_X10_value = true := by decide +kernel
theorem ck_X10_rent : ax_chk mi_X10_rent tb_X10_rent = true := by decide +kernel
theorem ck_X10_loan : ax_chk mi_X10_loan tb_X10_loan = true := by decide +kernel
theorem ck_X10_owes : ax_chk mi_X10_owes tb_X10_owes = true := by decide +kernel
theorem ck_X10_fails : ax_chk mi_X10_fails tb_X10_fails = true := by decide +kernel
theorem ck_X10_part : ax_chk mi_X10_part tb_X10_part = true := by decide +kernel
theorem ck_X10_over : ax_chk mi_X10_over tb_X10_over = true := by decide +kernel
theorem ck_X10_rescue : ax_chk mi_X10_rescue tb_X10_rescue = true := by decide +kernel
theorem ck_X10_swap : ax_chk mi_X10_swap tb_X10_swap = true := by decide +kernel
theorem ck_X10_unswap : ax_chk mi_X10_unswap tb_X10_unswap = true := by decide +kernel
theorem ck_X10_spread : ax_chk mi_X10_spread tb_X10_spread = true := by decide +kernel
theorem ck_X10_join : ax_chk mi_X10_join tb_X10_join = true := by decide +kernel
theorem ck_X10_call : ax_chk mi_X10_call tb_X10_call = true := by decide +kernel
theorem ck_X10_leave : ax_chk mi_X10_leave tb_X10_leave = true := by decide +kernel
theorem ck_X10_count : ax_chk mi_X10_count tb_X10_count = true := by decide +kernel
theorem ck_X10_within : ax_chk mi_X10_within tb_X10_within = true := by decide +kernel
theorem ck_X10_isWard : ax_chk mi_X10_isWard tb_X10_isWard = true := by decide +kernel
theorem ck_X10_isRent : ax_chk mi_X10_isRent tb_X10_isRent = true := by decide +kernel
theorem ck_X10_isTerm : ax_chk mi_X10_isTerm tb_X10_isTerm = true := by decide +kernel
theorem ck_X10_isPartable : ax_chk mi_X10_isPartable tb_X10_isPartable = true := by decide +kernel
theorem ck_X10_isFailing : ax_chk mi_X10_isFailing tb_X10_isFailing = true := by decide +kernel
theorem ck_X11_isIn : ax_chk mi_X11_isIn tb_X11_isIn = true := by decide +kernel
theorem ck_X11_isPlate : ax_chk mi_X11_isPlate tb_X11_isPlate = true := by decide +kernel
theorem ck_X11_isDriver : ax_chk mi_X11_isDriver tb_X11_isDriver = true := by decide +kernel
theorem ck_X11_isWard : ax_chk mi_X11_isWard tb_X11_isWard = true := by decide +kernel
theorem ck_X11_plate : ax_chk mi_X11_plate tb_X11_plate = true := by decide +kernel
theorem ck_X11_driver : ax_chk mi_X11_driver tb_X11_driver = true := by decide +kernel
theorem ck_X11_frees : ax_chk mi_X11_frees tb_X11_frees = true := by decide +kernel
theorem ck_X11_driverOf : ax_chk mi_X11_driverOf tb_X11_driverOf = true := by decide +kernel
theorem ck_X11_gives : ax_chk mi_X11_gives tb_X11_gives = true := by decide +kernel
theorem ck_X11_drive : ax_chk mi_X11_drive tb_X11_drive = true := by decide +kernel
theorem ck_X11_about : ax_chk mi_X11_about tb_X11_about = true := by decide +kernel
theorem ck_X11_driven : ax_chk mi_X11_driven tb_X11_driven = true := by decide +kernel
theorem ck_X11_drives : ax_chk mi_X11_drives tb_X11_drives = true := by decide +kernel
theorem ck_X11_worthOf : ax_chk mi_X11_worthOf tb_X11_worthOf = true := by decide +kernel
theorem ck_X11_fill_0 : (tb_X11_fill_0).all (ax_rok mi_X11_fill) = true := by decide +kernel
theorem ck_X11_fill_1 : (tb_X11_fill_1).all (ax_rok mi_X11_fill) = true := by decide +kernel
theorem ck_X11_fill_2 : (tb_X11_fill_2).all (ax_rok mi_X11_fill) = true := by decide +kernel
theorem ck_X11_fill_3 : (tb_X11_fill_3).all (ax_rok mi_X11_fill) = true := by decide +kernel
theorem ck_X11_fill_4 : (tb_X11_fill_4).all (ax_rok mi_X11_fill) = true := by decide +kernel
theorem ck_X11_fill_5 : (tb_X11_fill_5).all (ax_rok mi_X11_fill) = true := by decide +kernel
theorem ck_X11_fill_6 : (tb_X11_fill_6).all (ax_rok mi_X11_fill) = true := by decide +kernel
theorem ck_X11_fill_7 : (tb_X11_fill_7).all (ax_rok mi_X11_fill) = true := by decide +kernel
theorem ck_X11_fill_8 : (tb_X11_fill_8).all (ax_rok mi_X11_fill) = true := by decide +kernel
theorem ck_X11_fill_9 : (tb_X11_fill_9).all (ax_rok mi_X11_fill) = true := by decide +kernel
theorem ck_X11_fill_10 : (tb_X11_fill_10).all (ax_rok mi_X11_fill) = true := by decide +kernel
theorem ck_X11_fill_11 : (tb_X11_fill_11).all (ax_rok mi_X11_fill) = true := by decide +kernel
theorem ck_X11_fill_12 : (tb_X11_fill_12).all (ax_rok mi_X11_fill) = true := by decide +kernel
theorem ck_X11_fill_13 : (tb_X11_fill_13).all (ax_rok mi_X11_fill) = true := by decide +kernel
theorem ck_X11_fill : ax_chk mi_X11_fill tb_X11_fill = true := by simp only [ax_chk, tb_X11_fill, List.all_cons, List.all_nil, Bool.and_true, ck_X11_fill_0, ck_X11_fill_1, ck_X11_fill_2, ck_X11_fill_3, ck_X11_fill_4, ck_X11_fill_5, ck_X11_fill_6, ck_X11_fill_7, ck_X11_fill_8, ck_X11_fill_9, ck_X11_fill_10, ck_X11_fill_11, ck_X11_fill_12, ck_X11_fill_13]
theorem ck_X11_feed : ax_chk mi_X11_feed tb_X11_feed = true := by decide +kernel
theorem ck_X11_sign : ax_chk mi_X11_sign tb_X11_sign = true := by decide +kernel
theorem ck_X11_signOf_0 : (tb_X11_signOf_0).all (ax_rok mi_X11_signOf) = true := by decide +kernel
theorem ck_X11_signOf_1 : (tb_X11_signOf_1).all (ax_rok mi_X11_signOf) = true := by decide +kernel
theorem ck_X11_signOf_2 : (tb_X11_signOf_2).all (ax_rok mi_X11_signOf) = true := by decide +kernel
theorem ck_X11_signOf_3 : (tb_X11_signOf_3).all (ax_rok mi_X11_signOf) = true := by decide +kernel
theorem ck_X11_signOf_4 : (tb_X11_signOf_4).all (ax_rok mi_X11_signOf) = true := by decide +kernel
theorem ck_X11_signOf_5 : (tb_X11_signOf_5).all (ax_rok mi_X11_signOf) = true := by decide +kernel
theorem ck_X11_signOf_6 : (tb_X11_signOf_6).all (ax_rok mi_X11_signOf) = true := by decide +kernel
theorem ck_X11_signOf_7 : (tb_X11_signOf_7).all (ax_rok mi_X11_signOf) = true := by decide +kernel
theorem ck_X11_signOf_8 : (tb_X11_signOf_8).all (ax_rok mi_X11_signOf) = true := by decide +kernel
theorem ck_X11_signOf : ax_chk mi_X11_signOf tb_X11_signOf = true := by simp only [ax_chk, tb_X11_signOf, List.all_cons, List.all_nil, Bool.and_true, ck_X11_signOf_0, ck_X11_signOf_1, ck_X11_signOf_2, ck_X11_signOf_3, ck_X11_signOf_4, ck_X11_signOf_5, ck_X11_signOf_6, ck_X11_signOf_7, ck_X11_signOf_8]
theorem ck_X11_word : ax_chk mi_X11_word tb_X11_word = true := by decide +kernel
theorem ck_X11_isDigit : ax_chk mi_X11_isDigit tb_X11_isDigit = true := by decide +kernel
theorem ck_X11_takes : ax_chk mi_X11_takes tb_X11_takes = true := by decide +kernel
theorem ck_X11_clause : ax_chk mi_X11_clause tb_X11_clause = true := by decide +kernel
theorem ck_X11_parses : ax_chk mi_X11_parses tb_X11_parses = true := by decide +kernel
theorem ck_X11_law : ax_chk mi_X11_law tb_X11_law = true := by decide +kernel
theorem ck_X11_fareOf_0 : (tb_X11_fareOf_0).all (ax_rok mi_X11_fareOf) = true := by decide +kernel
theorem ck_X11_fareOf_1 : (tb_X11_fareOf_1).all (ax_rok mi_X11_fareOf) = true := by decide +kernel
theorem ck_X11_fareOf_2 : (tb_X11_fareOf_2).all (ax_rok mi_X11_fareOf) = true := by decide +kernel
theorem ck_X11_fareOf_3 : (tb_X11_fareOf_3).all (ax_rok mi_X11_fareOf) = true := by decide +kernel
theorem ck_X11_fareOf_4 : (tb_X11_fareOf_4).all (ax_rok mi_X11_fareOf) = true := by decide +kernel
theorem ck_X11_fareOf_5 : (tb_X11_fareOf_5).all (ax_rok mi_X11_fareOf) = true := by decide +kernel
theorem ck_X11_fareOf_6 : (tb_X11_fareOf_6).all (ax_rok mi_X11_fareOf) = true := by decide +kernel
theorem ck_X11_fareOf : ax_chk mi_X11_fareOf tb_X11_fareOf = true := by simp only [ax_chk, tb_X11_fareOf, List.all_cons, List.all_nil, Bool.and_true, ck_X11_fareOf_0, ck_X11_fareOf_1, ck_X11_fareOf_2, ck_X11_fareOf_3, ck_X11_fareOf_4, ck_X11_fareOf_5, ck_X11_fareOf_6]
theorem ck_X11_fare : ax_chk mi_X11_fare tb_X11_fare = true := by decide +kernel
theorem ck_X11_ask : ax_chk mi_X11_ask tb_X11_ask = true := by decide +kernel
theorem ck_X11_mayStand : ax_chk mi_X11_mayStand tb_X11_mayStand = true := by decide +kernel
theorem ck_X11_stand : ax_chk mi_X11_stand tb_X11_stand = true := by decide +kernel
theorem ck_X11_waiting : ax_chk mi_X11_waiting tb_X11_waiting = true := by decide +kernel
theorem ck_X11_runs : ax_chk mi_X11_runs tb_X11_runs = true := by decide +kernel
theorem ck_X11_takesOne_0 : (tb_X11_takesOne_0).all (ax_rok mi_X11_takesOne) = true := by decide +kernel
theorem ck_X11_takesOne_1 : (tb_X11_takesOne_1).all (ax_rok mi_X11_takesOne) = true := by decide +kernel
theorem ck_X11_takesOne_2 : (tb_X11_takesOne_2).all (ax_rok mi_X11_takesOne) = true := by decide +kernel
theorem ck_X11_takesOne_3 : (tb_X11_takesOne_3).all (ax_rok mi_X11_takesOne) = true := by decide +kernel
theorem ck_X11_takesOne_4 : (tb_X11_takesOne_4).all (ax_rok mi_X11_takesOne) = true := by decide +kernel
theorem ck_X11_takesOne_5 : (tb_X11_takesOne_5).all (ax_rok mi_X11_takesOne) = true := by decide +kernel
theorem ck_X11_takesOne_6 : (tb_X11_takesOne_6).all (ax_rok mi_X11_takesOne) = true := by decide +kernel
theorem ck_X11_takesOne_7 : (tb_X11_takesOne_7).all (ax_rok mi_X11_takesOne) = true := by decide +kernel
theorem ck_X11_takesOne : ax_chk mi_X11_takesOne tb_X11_takesOne = true := by simp only [ax_chk, tb_X11_takesOne, List.all_cons, List.all_nil, Bool.and_true, ck_X11_takesOne_0, ck_X11_takesOne_1, ck_X11_takesOne_2, ck_X11_takesOne_3, ck_X11_takesOne_4, ck_X11_takesOne_5, ck_X11_takesOne_6, ck_X11_takesOne_7]
theorem ck_X11_roams : ax_chk mi_X11_roams tb_X11_roams = true := by decide +kernel
theorem ck_X11_goesBy_0 : (tb_X11_goesBy_0).all (ax_rok mi_X11_goesBy) = true := by decide +kernel
theorem ck_X11_goesBy_1 : (tb_X11_goesBy_1).all (ax_rok mi_X11_goesBy) = true := by decide +kernel
theorem ck_X11_goesBy_2 : (tb_X11_goesBy_2).all (ax_rok mi_X11_goesBy) = true := by decide +kernel
theorem ck_X11_goesBy_3 : (tb_X11_goesBy_3).all (ax_rok mi_X11_goesBy) = true := by decide +kernel
theorem ck_X11_goesBy_4 : (tb_X11_goesBy_4).all (ax_rok mi_X11_goesBy) = true := by decide +kernel
theorem ck_X11_goesBy_5 : (tb_X11_goesBy_5).all (ax_rok mi_X11_goesBy) = true := by decide +kernel
theorem ck_X11_goesBy_6 : (tb_X11_goesBy_6).all (ax_rok mi_X11_goesBy) = true := by decide +kernel
theorem ck_X11_goesBy_7 : (tb_X11_goesBy_7).all (ax_rok mi_X11_goesBy) = true := by decide +kernel
theorem ck_X11_goesBy_8 : (tb_X11_goesBy_8).all (ax_rok mi_X11_goesBy) = true := by decide +kernel
theorem ck_X11_goesBy_9 : (tb_X11_goesBy_9).all (ax_rok mi_X11_goesBy) = true := by decide +kernel
theorem ck_X11_goesBy : ax_chk mi_X11_goesBy tb_X11_goesBy = true := by simp only [ax_chk, tb_X11_goesBy, List.all_cons, List.all_nil, Bool.and_true, ck_X11_goesBy_0, ck_X11_goesBy_1, ck_X11_goesBy_2, ck_X11_goesBy_3, ck_X11_goesBy_4, ck_X11_goesBy_5, ck_X11_goesBy_6, ck_X11_goesBy_7, ck_X11_goesBy_8, ck_X11_goesBy_9]
theorem ck_X11_step : ax_chk mi_X11_step tb_X11_step = true := by decide +kernel
theorem ck_X11_tookAll : ax_chk mi_X11_tookAll tb_X11_tookAll = true := by decide +kernel
theorem ck_X11_tried_0 : (tb_X11_tried_0).all (ax_rok mi_X11_tried) = true := by decide +kernel
theorem ck_X11_tried_1 : (tb_X11_tried_1).all (ax_rok mi_X11_tried) = true := by decide +kernel
theorem ck_X11_tried_2 : (tb_X11_tried_2).all (ax_rok mi_X11_tried) = true := by decide +kernel
theorem ck_X11_tried_3 : (tb_X11_tried_3).all (ax_rok mi_X11_tried) = true := by decide +kernel
theorem ck_X11_tried_4 : (tb_X11_tried_4).all (ax_rok mi_X11_tried) = true := by decide +kernel
theorem ck_X11_tried_5 : (tb_X11_tried_5).all (ax_rok mi_X11_tried) = true := by decide +kernel
theorem ck_X11_tried_6 : (tb_X11_tried_6).all (ax_rok mi_X11_tried) = true := by decide +kernel
theorem ck_X11_tried_7 : (tb_X11_tried_7).all (ax_rok mi_X11_tried) = true := by decide +kernel
theorem ck_X11_tried_8 : (tb_X11_tried_8).all (ax_rok mi_X11_tried) = true := by decide +kernel
theorem ck_X11_tried : ax_chk mi_X11_tried tb_X11_tried = true := by simp only [ax_chk, tb_X11_tried, List.all_cons, List.all_nil, Bool.and_true, ck_X11_tried_0, ck_X11_tried_1, ck_X11_tried_2, ck_X11_tried_3, ck_X11_tried_4, ck_X11_tried_5, ck_X11_tried_6, ck_X11_tried_7, ck_X11_tried_8]
theorem ck_X11_found : ax_chk mi_X11_found tb_X11_found = true := by decide +kernel
theorem ck_X11_rode : ax_chk mi_X11_rode tb_X11_rode = true := by decide +kernel
theorem ck_X11_areTerms : ax_chk mi_X11_areTerms tb_X11_areTerms = true := by decide +kernel
theorem ck_X11_worth : ax_chk mi_X11_worth tb_X11_worth = true := by decide +kernel
theorem ck_X11_value : ax_chk mi_X11_value tb_X11_value = true := by decide +kernel
theorem ck_X11_rent : ax_chk mi_X11_rent tb_X11_rent = true := by decide +kernel
theorem ck_X11_loan : ax_chk mi_X11_loan tb_X11_loan = true := by decide +kernel
theorem ck_X11_owed : ax_chk mi_X11_owed tb_X11_owed = true := by decide +kernel
theorem ck_X11_owes : ax_chk mi_X11_owes tb_X11_owes = true := by decide +kernel
theorem ck_X11_fails : ax_chk mi_X11_fails tb_X11_fails = true := by decide +kernel
theorem ck_X11_parts_0 : (tb_X11_parts_0).all (ax_rok mi_X11_parts) = true := by decide +kernel
theorem ck_X11_parts_1 : (tb_X11_parts_1).all (ax_rok mi_X11_parts) = true := by decide +kernel
theorem ck_X11_parts_2 : (tb_X11_parts_2).all (ax_rok mi_X11_parts) = true := by decide +kernel
theorem ck_X11_parts_3 : (tb_X11_parts_3).all (ax_rok mi_X11_parts) = true := by decide +kernel
theorem ck_X11_parts_4 : (tb_X11_parts_4).all (ax_rok mi_X11_parts) = true := by decide +kernel
theorem ck_X11_parts_5 : (tb_X11_parts_5).all (ax_rok mi_X11_parts) = true := by decide +kernel
theorem ck_X11_parts_6 : (tb_X11_parts_6).all (ax_rok mi_X11_parts) = true := by decide +kernel
theorem ck_X11_parts_7 : (tb_X11_parts_7).all (ax_rok mi_X11_parts) = true := by decide +kernel
theorem ck_X11_parts_8 : (tb_X11_parts_8).all (ax_rok mi_X11_parts) = true := by decide +kernel
theorem ck_X11_parts : ax_chk mi_X11_parts tb_X11_parts = true := by simp only [ax_chk, tb_X11_parts, List.all_cons, List.all_nil, Bool.and_true, ck_X11_parts_0, ck_X11_parts_1, ck_X11_parts_2, ck_X11_parts_3, ck_X11_parts_4, ck_X11_parts_5, ck_X11_parts_6, ck_X11_parts_7, ck_X11_parts_8]
theorem ck_X11_part : ax_chk mi_X11_part tb_X11_part = true := by decide +kernel
theorem ck_X11_over : ax_chk mi_X11_over tb_X11_over = true := by decide +kernel
theorem ck_X11_rescue : ax_chk mi_X11_rescue tb_X11_rescue = true := by decide +kernel
theorem ck_X11_swap : ax_chk mi_X11_swap tb_X11_swap = true := by decide +kernel
theorem ck_X11_unswap : ax_chk mi_X11_unswap tb_X11_unswap = true := by decide +kernel
theorem ck_X11_asksAt : ax_chk mi_X11_asksAt tb_X11_asksAt = true := by decide +kernel
theorem ck_X11_looks : ax_chk mi_X11_looks tb_X11_looks = true := by decide +kernel
theorem ck_X11_hourFrom : ax_chk mi_X11_hourFrom tb_X11_hourFrom = true := by decide +kernel
theorem ck_X11_goesOn : ax_chk mi_X11_goesOn tb_X11_goesOn = true := by decide +kernel
theorem ck_X11_spreads : ax_chk mi_X11_spreads tb_X11_spreads = true := by decide +kernel
theorem ck_X11_spread : ax_chk mi_X11_spread tb_X11_spread = true := by decide +kernel
theorem ck_X11_placeOf : ax_chk mi_X11_placeOf tb_X11_placeOf = true := by decide +kernel
theorem ck_X11_goesFrom : ax_chk mi_X11_goesFrom tb_X11_goesFrom = true := by decide +kernel
theorem ck_X11_join : ax_chk mi_X11_join tb_X11_join = true := by decide +kernel
theorem ck_X11_call : ax_chk mi_X11_call tb_X11_call = true := by decide +kernel
theorem ck_X11_leave : ax_chk mi_X11_leave tb_X11_leave = true := by decide +kernel
theorem ck_X11_count : ax_chk mi_X11_count tb_X11_count = true := by decide +kernel
theorem ck_J6_bitCount_0f7a4 : ax_chk mi_J6_bitCount_0f7a4 tb_J6_bitCount_0f7a4 = true := by decide +kernel
theorem ck_J9_abs_0f7a4 : ax_chk mi_J9_abs_0f7a4 tb_J9_abs_0f7a4 = true := by decide +kernel
theorem ck_J9_max_7cf53 : ax_chk mi_J9_max_7cf53 tb_J9_max_7cf53 = true := by decide +kernel
theorem ck_J9_min_7cf53 : ax_chk mi_J9_min_7cf53 tb_J9_min_7cf53 = true := by decide +kernel
end
section
/-! each method's code stands in the tables. Written by wip/whole/gen/gen_prog.py -/
theorem mw_L_law : ax_mwf mi_L_law := Or.inl rfl
theorem mw_X0_at : ax_mwf mi_X0_at := Or.inr (List.mem_append_right (k2_sels lw_privs) (show _ ∈ tables_1_1 ++ (tables_1_2 ++ (tables_1_3 ++ (tables_1_4 ++ (tables_1_5 ++ tables_1_6)))) from List.mem_append_right _ (List.mem_append_right _ (List.mem_append_left _ (List.mem_of_getElem? (i := 86) rfl)))))
theorem mw_X0_replace : ax_mwf mi_X0_replace := Or.inr (List.mem_append_right (k2_sels lw_privs) (show _ ∈ tables_1_1 ++ (tables_1_2 ++ (tables_1_3 ++ (tables_1_4 ++ (tables_1_5 ++ tables_1_6)))) from List.mem_append_right _ (List.mem_append_right _ (List.mem_append_left _ (List.mem_of_getElem? (i := 82) rfl)))))
theorem mw_X0_ofAllWards : ax_mwf mi_X0_ofAllWards := Or.inr (List.mem_append_right (k2_sels lw_privs) (show _ ∈ tables_1_1 ++ (tables_1_2 ++ (tables_1_3 ++ (tables_1_4 ++ (tables_1_5 ++ tables_1_6)))) from List.mem_append_right _ (List.mem_append_right _ (List.mem_append_right _ (List.mem_append_left _ (List.mem_of_getElem? (i := 71) rfl))))))
theorem mw_X1_copy : ax_mwf mi_X1_copy := Or.inr (List.mem_append_right (k2_sels lw_privs) (show _ ∈ tables_1_1 ++ (tables_1_2 ++ (tables_1_3 ++ (tables_1_4 ++ (tables_1_5 ++ tables_1_6)))) from List.mem_append_right _ (List.mem_append_right _ (List.mem_append_left _ (List.mem_of_getElem? (i := 151) rfl)))))
theorem mw_X1_clearSums : ax_mwf mi_X1_clearSums := Or.inr (List.mem_append_right (k2_sels lw_privs) (show _ ∈ tables_1_1 ++ (tables_1_2 ++ (tables_1_3 ++ (tables_1_4 ++ (tables_1_5 ++ tables_1_6)))) from List.mem_append_right _ (List.mem_append_right _ (List.mem_append_left _ (List.mem_of_getElem? (i := 158) rfl)))))
theorem mw_X1_put : ax_mwf mi_X1_put := Or.inr (List.mem_append_right (k2_sels lw_privs) (show _ ∈ tables_1_1 ++ (tables_1_2 ++ (tables_1_3 ++ (tables_1_4 ++ (tables_1_5 ++ tables_1_6)))) from List.mem_append_right _ (List.mem_append_right _ (List.mem_append_left _ (List.mem_of_getElem? (i := 98) rfl)))))
theorem mw_X1_passHours : ax_mwf mi_X1_passHours := Or.inr (List.mem_append_right (k2_sels lw_privs) (show _ ∈ tables_1_1 ++ (tables_1_2 ++ (tables_1_3 ++ (tables_1_4 ++ (tables_1_5 ++ tables_1_6)))) from List.mem_append_right _ (List.mem_append_right _ (List.mem_append_left _ (List.mem_of_getElem? (i := 106) rfl)))))
theorem mw_X1_passHour : ax_mwf mi_X1_passHour := Or.inr (List.mem_append_right (k2_sels lw_privs) (show _ ∈ tables_1_1 ++ (tables_1_2 ++ (tables_1_3 ++ (tables_1_4 ++ (tables_1_5 ++ tables_1_6)))) from List.mem_append_right _ (List.mem_append_right _ (List.mem_append_left _ (List.mem_of_getElem? (i := 110) rfl)))))
theorem mw_X1_serve : ax_mwf mi_X1_serve := Or.inr (List.mem_append_right (k2_sels lw_privs) (show _ ∈ tables_1_1 ++ (tables_1_2 ++ (tables_1_3 ++ (tables_1_4 ++ (tables_1_5 ++ tables_1_6)))) from List.mem_append_right _ (List.mem_append_right _ (List.mem_append_left _ (List.mem_of_getElem? (i := 116) rfl)))))
theorem mw_X1_longestWait : ax_mwf mi_X1_longestWait := Or.inr (List.mem_append_right (k2_sels lw_privs) (show _ ∈ tables_1_1 ++ (tables_1_2 ++ (tables_1_3 ++ (tables_1_4 ++ (tables_1_5 ++ tables_1_6)))) from List.mem_append_right _ (List.mem_append_right _ (List.mem_append_left _ (List.mem_of_getElem? (i := 120) rfl)))))
theorem mw_X1_waitingIn : ax_mwf mi_X1_waitingIn := Or.inr (List.mem_append_right (k2_sels lw_privs) (show _ ∈ tables_1_1 ++ (tables_1_2 ++ (tables_1_3 ++ (tables_1_4 ++ (tables_1_5 ++ tables_1_6)))) from List.mem_append_right _ (List.mem_append_right _ (List.mem_append_left _ (List.mem_of_getElem? (i := 138) rfl)))))
theorem mw_X1_roam : ax_mwf mi_X1_roam := Or.inr (List.mem_append_right (k2_sels lw_privs) (show _ ∈ tables_1_1 ++ (tables_1_2 ++ (tables_1_3 ++ (tables_1_4 ++ (tables_1_5 ++ tables_1_6)))) from List.mem_append_right _ (List.mem_append_right _ (List.mem_append_left _ (List.mem_of_getElem? (i := 134) rfl)))))
theorem mw_X1_tire : ax_mwf mi_X1_tire := Or.inr (List.mem_append_right (k2_sels lw_privs) (show _ ∈ tables_1_1 ++ (tables_1_2 ++ (tables_1_3 ++ (tables_1_4 ++ (tables_1_5 ++ tables_1_6)))) from List.mem_append_right _ (List.mem_append_right _ (List.mem_append_left _ (List.mem_of_getElem? (i := 143) rfl)))))
theorem mw_X2_add : ax_mwf mi_X2_add := Or.inr (List.mem_append_right (k2_sels lw_privs) (show _ ∈ tables_1_1 ++ (tables_1_2 ++ (tables_1_3 ++ (tables_1_4 ++ (tables_1_5 ++ tables_1_6)))) from List.mem_append_right _ (List.mem_append_right _ (List.mem_append_right _ (List.mem_append_left _ (List.mem_of_getElem? (i := 42) rfl))))))
theorem mw_X2_clear : ax_mwf mi_X2_clear := Or.inr (List.mem_append_right (k2_sels lw_privs) (show _ ∈ tables_1_1 ++ (tables_1_2 ++ (tables_1_3 ++ (tables_1_4 ++ (tables_1_5 ++ tables_1_6)))) from List.mem_append_right _ (List.mem_append_right _ (List.mem_append_right _ (List.mem_append_left _ (List.mem_of_getElem? (i := 50) rfl))))))
theorem mw_X2_arrange : ax_mwf mi_X2_arrange := Or.inr (List.mem_append_right (k2_sels lw_privs) (show _ ∈ tables_1_1 ++ (tables_1_2 ++ (tables_1_3 ++ (tables_1_4 ++ (tables_1_5 ++ tables_1_6)))) from List.mem_append_right _ (List.mem_append_right _ (List.mem_append_right _ (List.mem_append_left _ (List.mem_of_getElem? (i := 58) rfl))))))
theorem mw_X2_asksTogether : ax_mwf mi_X2_asksTogether := Or.inr (List.mem_append_right (k2_sels lw_privs) (show _ ∈ tables_1_1 ++ (tables_1_2 ++ (tables_1_3 ++ (tables_1_4 ++ (tables_1_5 ++ tables_1_6)))) from List.mem_append_right _ (List.mem_append_right _ (List.mem_append_right _ (List.mem_append_left _ (List.mem_of_getElem? (i := 97) rfl))))))
theorem mw_X2_hourOf : ax_mwf mi_X2_hourOf := Or.inr (List.mem_append_right (k2_sels lw_privs) (show _ ∈ tables_1_1 ++ (tables_1_2 ++ (tables_1_3 ++ (tables_1_4 ++ (tables_1_5 ++ tables_1_6)))) from List.mem_append_right _ (List.mem_append_right _ (List.mem_append_right _ (List.mem_append_left _ (List.mem_of_getElem? (i := 101) rfl))))))
theorem mw_X2_everyFleet : ax_mwf mi_X2_everyFleet := Or.inr (List.mem_append_right (k2_sels lw_privs) (show _ ∈ tables_1_1 ++ (tables_1_2 ++ (tables_1_3 ++ (tables_1_4 ++ (tables_1_5 ++ tables_1_6)))) from List.mem_append_right _ (List.mem_append_right _ (List.mem_append_right _ (List.mem_append_left _ (List.mem_of_getElem? (i := 86) rfl))))))
theorem mw_X2_lowestBit : ax_mwf mi_X2_lowestBit := Or.inr (List.mem_append_right (k2_sels lw_privs) (show _ ∈ tables_1_1 ++ (tables_1_2 ++ (tables_1_3 ++ (tables_1_4 ++ (tables_1_5 ++ tables_1_6)))) from List.mem_append_right _ (List.mem_append_right _ (List.mem_append_right _ (List.mem_append_left _ (List.mem_of_getElem? (i := 74) rfl))))))
theorem mw_X2_placeAll : ax_mwf mi_X2_placeAll := Or.inr (List.mem_append_right (k2_sels lw_privs) (show _ ∈ tables_1_1 ++ (tables_1_2 ++ (tables_1_3 ++ (tables_1_4 ++ (tables_1_5 ++ tables_1_6)))) from List.mem_append_right _ (List.mem_append_right _ (List.mem_append_right _ (List.mem_append_left _ (List.mem_of_getElem? (i := 62) rfl))))))
theorem mw_X2_takersOf : ax_mwf mi_X2_takersOf := Or.inr (List.mem_append_right (k2_sels lw_privs) (show _ ∈ tables_1_1 ++ (tables_1_2 ++ (tables_1_3 ++ (tables_1_4 ++ (tables_1_5 ++ tables_1_6)))) from List.mem_append_right _ (List.mem_append_right _ (List.mem_append_right _ (List.mem_append_left _ (List.mem_of_getElem? (i := 78) rfl))))))
theorem mw_X2_rateHour : ax_mwf mi_X2_rateHour := Or.inr (List.mem_append_right (k2_sels lw_privs) (show _ ∈ tables_1_1 ++ (tables_1_2 ++ (tables_1_3 ++ (tables_1_4 ++ (tables_1_5 ++ tables_1_6)))) from List.mem_append_right _ (List.mem_append_right _ (List.mem_append_right _ (List.mem_append_left _ (List.mem_of_getElem? (i := 67) rfl))))))
theorem mw_X2_placeHour : ax_mwf mi_X2_placeHour := Or.inr (List.mem_append_right (k2_sels lw_privs) (show _ ∈ tables_1_1 ++ (tables_1_2 ++ (tables_1_3 ++ (tables_1_4 ++ (tables_1_5 ++ tables_1_6)))) from List.mem_append_right _ (List.mem_append_right _ (List.mem_append_right _ (List.mem_append_left _ (List.mem_of_getElem? (i := 82) rfl))))))
theorem mw_X3_placeOf : ax_mwf mi_X3_placeOf := Or.inr (List.mem_append_right (k2_sels lw_privs) (show _ ∈ tables_1_1 ++ (tables_1_2 ++ (tables_1_3 ++ (tables_1_4 ++ (tables_1_5 ++ tables_1_6)))) from List.mem_append_right _ (List.mem_append_right _ (List.mem_append_right _ (List.mem_append_left _ (List.mem_of_getElem? (i := 109) rfl))))))
theorem mw_X3_append : ax_mwf mi_X3_append := Or.inr (List.mem_append_right (k2_sels lw_privs) (show _ ∈ tables_1_1 ++ (tables_1_2 ++ (tables_1_3 ++ (tables_1_4 ++ (tables_1_5 ++ tables_1_6)))) from List.mem_append_right _ (List.mem_append_right _ (List.mem_append_right _ (List.mem_append_left _ (List.mem_of_getElem? (i := 113) rfl))))))
theorem mw_X3_removeAt : ax_mwf mi_X3_removeAt := Or.inr (List.mem_append_right (k2_sels lw_privs) (show _ ∈ tables_1_1 ++ (tables_1_2 ++ (tables_1_3 ++ (tables_1_4 ++ (tables_1_5 ++ tables_1_6)))) from List.mem_append_right _ (List.mem_append_right _ (List.mem_append_right _ (List.mem_append_left _ (List.mem_of_getElem? (i := 121) rfl))))))
theorem mw_X4_has : ax_mwf mi_X4_has := Or.inr (List.mem_append_right (k2_sels lw_privs) (show _ ∈ tables_1_1 ++ (tables_1_2 ++ (tables_1_3 ++ (tables_1_4 ++ (tables_1_5 ++ tables_1_6)))) from List.mem_append_right _ (List.mem_append_right _ (List.mem_append_left _ (List.mem_of_getElem? (i := 236) rfl)))))
theorem mw_X4_add : ax_mwf mi_X4_add := Or.inr (List.mem_append_right (k2_sels lw_privs) (show _ ∈ tables_1_1 ++ (tables_1_2 ++ (tables_1_3 ++ (tables_1_4 ++ (tables_1_5 ++ tables_1_6)))) from List.mem_append_right _ (List.mem_append_right _ (List.mem_append_left _ (List.mem_of_getElem? (i := 212) rfl)))))
theorem mw_X4_debt : ax_mwf mi_X4_debt := Or.inr (List.mem_append_right (k2_sels lw_privs) (show _ ∈ tables_1_1 ++ (tables_1_2 ++ (tables_1_3 ++ (tables_1_4 ++ (tables_1_5 ++ tables_1_6)))) from List.mem_append_right _ (List.mem_append_right _ (List.mem_append_left _ (List.mem_of_getElem? (i := 220) rfl)))))
theorem mw_X4_divide : ax_mwf mi_X4_divide := Or.inr (List.mem_append_right (k2_sels lw_privs) (show _ ∈ tables_1_1 ++ (tables_1_2 ++ (tables_1_3 ++ (tables_1_4 ++ (tables_1_5 ++ tables_1_6)))) from List.mem_append_right _ (List.mem_append_right _ (List.mem_append_right _ (List.mem_append_left _ (List.mem_of_getElem? (i := 5) rfl))))))
theorem mw_X4_settle : ax_mwf mi_X4_settle := Or.inr (List.mem_append_right (k2_sels lw_privs) (show _ ∈ tables_1_1 ++ (tables_1_2 ++ (tables_1_3 ++ (tables_1_4 ++ (tables_1_5 ++ tables_1_6)))) from List.mem_append_right _ (List.mem_append_right _ (List.mem_append_right _ (List.mem_append_left _ (List.mem_of_getElem? (i := 34) rfl))))))
theorem mw_X4_isOf : ax_mwf mi_X4_isOf := Or.inr (List.mem_append_right (k2_sels lw_privs) (show _ ∈ tables_1_1 ++ (tables_1_2 ++ (tables_1_3 ++ (tables_1_4 ++ (tables_1_5 ++ tables_1_6)))) from List.mem_append_right _ (List.mem_append_right _ (List.mem_append_right _ (List.mem_append_left _ (List.mem_of_getElem? (i := 13) rfl))))))
theorem mw_X4_rankDebt : ax_mwf mi_X4_rankDebt := Or.inr (List.mem_append_right (k2_sels lw_privs) (show _ ∈ tables_1_1 ++ (tables_1_2 ++ (tables_1_3 ++ (tables_1_4 ++ (tables_1_5 ++ tables_1_6)))) from List.mem_append_right _ (List.mem_append_right _ (List.mem_append_right _ (List.mem_append_left _ (List.mem_of_getElem? (i := 9) rfl))))))
theorem mw_X4_payRank : ax_mwf mi_X4_payRank := Or.inr (List.mem_append_right (k2_sels lw_privs) (show _ ∈ tables_1_1 ++ (tables_1_2 ++ (tables_1_3 ++ (tables_1_4 ++ (tables_1_5 ++ tables_1_6)))) from List.mem_append_right _ (List.mem_append_right _ (List.mem_append_right _ (List.mem_append_left _ (List.mem_of_getElem? (i := 17) rfl))))))
theorem mw_X4_shareRank : ax_mwf mi_X4_shareRank := Or.inr (List.mem_append_right (k2_sels lw_privs) (show _ ∈ tables_1_1 ++ (tables_1_2 ++ (tables_1_3 ++ (tables_1_4 ++ (tables_1_5 ++ tables_1_6)))) from List.mem_append_right _ (List.mem_append_right _ (List.mem_append_right _ (List.mem_append_left _ (List.mem_of_getElem? (i := 21) rfl))))))
theorem mw_X5_add : ax_mwf mi_X5_add := Or.inr (List.mem_append_right (k2_sels lw_privs) (show _ ∈ tables_1_1 ++ (tables_1_2 ++ (tables_1_3 ++ (tables_1_4 ++ (tables_1_5 ++ tables_1_6)))) from List.mem_append_right _ (List.mem_append_right _ (List.mem_append_left _ (List.mem_of_getElem? (i := 49) rfl)))))
theorem mw_X5_copy : ax_mwf mi_X5_copy := Or.inr (List.mem_append_right (k2_sels lw_privs) (show _ ∈ tables_1_1 ++ (tables_1_2 ++ (tables_1_3 ++ (tables_1_4 ++ (tables_1_5 ++ tables_1_6)))) from List.mem_append_right _ (List.mem_append_right _ (List.mem_append_left _ (List.mem_of_getElem? (i := 53) rfl)))))
theorem mw_X5_price : ax_mwf mi_X5_price := Or.inr (List.mem_append_right (k2_sels lw_privs) (show _ ∈ tables_1_1 ++ (tables_1_2 ++ (tables_1_3 ++ (tables_1_4 ++ (tables_1_5 ++ tables_1_6)))) from List.mem_append_right _ (List.mem_append_right _ (List.mem_append_left _ (List.mem_of_getElem? (i := 65) rfl)))))
theorem mw_X5_timesDue : ax_mwf mi_X5_timesDue := Or.inr (List.mem_append_right (k2_sels lw_privs) (show _ ∈ tables_1_1 ++ (tables_1_2 ++ (tables_1_3 ++ (tables_1_4 ++ (tables_1_5 ++ tables_1_6)))) from List.mem_append_right _ (List.mem_append_right _ (List.mem_append_left _ (List.mem_of_getElem? (i := 71) rfl)))))
theorem mw_X6_has : ax_mwf mi_X6_has := Or.inr (List.mem_append_right (k2_sels lw_privs) (show _ ∈ tables_1_1 ++ (tables_1_2 ++ (tables_1_3 ++ (tables_1_4 ++ (tables_1_5 ++ tables_1_6)))) from List.mem_append_right _ (List.mem_append_left _ (List.mem_of_getElem? (i := 126) rfl))))
theorem mw_X6_add : ax_mwf mi_X6_add := Or.inr (List.mem_append_right (k2_sels lw_privs) (show _ ∈ tables_1_1 ++ (tables_1_2 ++ (tables_1_3 ++ (tables_1_4 ++ (tables_1_5 ++ tables_1_6)))) from List.mem_append_right _ (List.mem_append_left _ (List.mem_of_getElem? (i := 110) rfl))))
theorem mw_X6_replaceRent : ax_mwf mi_X6_replaceRent := Or.inr (List.mem_append_right (k2_sels lw_privs) (show _ ∈ tables_1_1 ++ (tables_1_2 ++ (tables_1_3 ++ (tables_1_4 ++ (tables_1_5 ++ tables_1_6)))) from List.mem_append_right _ (List.mem_append_right _ (List.mem_append_left _ (List.mem_of_getElem? (i := 203) rfl)))))
theorem mw_X6_mayStand : ax_mwf mi_X6_mayStand := Or.inr (List.mem_append_right (k2_sels lw_privs) (show _ ∈ tables_1_1 ++ (tables_1_2 ++ (tables_1_3 ++ (tables_1_4 ++ (tables_1_5 ++ tables_1_6)))) from List.mem_append_right _ (List.mem_append_right _ (List.mem_append_left _ (List.mem_of_getElem? (i := 94) rfl)))))
theorem mw_X6_restingWard : ax_mwf mi_X6_restingWard := Or.inr (List.mem_append_right (k2_sels lw_privs) (show _ ∈ tables_1_1 ++ (tables_1_2 ++ (tables_1_3 ++ (tables_1_4 ++ (tables_1_5 ++ tables_1_6)))) from List.mem_append_right _ (List.mem_append_right _ (List.mem_append_left _ (List.mem_of_getElem? (i := 129) rfl)))))
theorem mw_X6_hoursDue : ax_mwf mi_X6_hoursDue := Or.inr (List.mem_append_right (k2_sels lw_privs) (show _ ∈ tables_1_1 ++ (tables_1_2 ++ (tables_1_3 ++ (tables_1_4 ++ (tables_1_5 ++ tables_1_6)))) from List.mem_append_right _ (List.mem_append_left _ (List.mem_of_getElem? (i := 148) rfl))))
theorem mw_X6_worth : ax_mwf mi_X6_worth := Or.inr (List.mem_append_right (k2_sels lw_privs) (show _ ∈ tables_1_1 ++ (tables_1_2 ++ (tables_1_3 ++ (tables_1_4 ++ (tables_1_5 ++ tables_1_6)))) from List.mem_append_right _ (List.mem_append_right _ (List.mem_append_left _ (List.mem_of_getElem? (i := 195) rfl)))))
theorem mw_X7_has : ax_mwf mi_X7_has := Or.inr (List.mem_append_right (k2_sels lw_privs) (show _ ∈ tables_1_1 ++ (tables_1_2 ++ (tables_1_3 ++ (tables_1_4 ++ (tables_1_5 ++ tables_1_6)))) from List.mem_append_right _ (List.mem_append_right _ (List.mem_append_left _ (List.mem_of_getElem? (i := 183) rfl)))))
theorem mw_X7_detail : ax_mwf mi_X7_detail := Or.inr (List.mem_append_right (k2_sels lw_privs) (show _ ∈ tables_1_1 ++ (tables_1_2 ++ (tables_1_3 ++ (tables_1_4 ++ (tables_1_5 ++ tables_1_6)))) from List.mem_append_right _ (List.mem_append_right _ (List.mem_append_left _ (List.mem_of_getElem? (i := 170) rfl)))))
theorem mw_X7_keep : ax_mwf mi_X7_keep := Or.inr (List.mem_append_right (k2_sels lw_privs) (show _ ∈ tables_1_1 ++ (tables_1_2 ++ (tables_1_3 ++ (tables_1_4 ++ (tables_1_5 ++ tables_1_6)))) from List.mem_append_right _ (List.mem_append_right _ (List.mem_append_left _ (List.mem_of_getElem? (i := 125) rfl)))))
theorem mw_X7_search : ax_mwf mi_X7_search := Or.inr (List.mem_append_right (k2_sels lw_privs) (show _ ∈ tables_1_1 ++ (tables_1_2 ++ (tables_1_3 ++ (tables_1_4 ++ (tables_1_5 ++ tables_1_6)))) from List.mem_append_right _ (List.mem_append_right _ (List.mem_append_left _ (List.mem_of_getElem? (i := 166) rfl)))))
theorem mw_X7_fits : ax_mwf mi_X7_fits := Or.inr (List.mem_append_right (k2_sels lw_privs) (show _ ∈ tables_1_1 ++ (tables_1_2 ++ (tables_1_3 ++ (tables_1_4 ++ (tables_1_5 ++ tables_1_6)))) from List.mem_append_right _ (List.mem_append_right _ (List.mem_append_left _ (List.mem_of_getElem? (i := 175) rfl)))))
theorem mw_X8_hasDriver : ax_mwf mi_X8_hasDriver := Or.inr (List.mem_append_right (k2_sels lw_privs) (show _ ∈ tables_1_1 ++ (tables_1_2 ++ (tables_1_3 ++ (tables_1_4 ++ (tables_1_5 ++ tables_1_6)))) from List.mem_append_right _ (List.mem_append_left _ (List.mem_of_getElem? (i := 131) rfl))))
theorem mw_X8_addDriver : ax_mwf mi_X8_addDriver := Or.inr (List.mem_append_right (k2_sels lw_privs) (show _ ∈ tables_1_1 ++ (tables_1_2 ++ (tables_1_3 ++ (tables_1_4 ++ (tables_1_5 ++ tables_1_6)))) from List.mem_append_right _ (List.mem_append_left _ (List.mem_of_getElem? (i := 118) rfl))))
theorem mw_X8_placeOfDriver : ax_mwf mi_X8_placeOfDriver := Or.inr (List.mem_append_right (k2_sels lw_privs) (show _ ∈ tables_1_1 ++ (tables_1_2 ++ (tables_1_3 ++ (tables_1_4 ++ (tables_1_5 ++ tables_1_6)))) from List.mem_append_right _ (List.mem_append_left _ (List.mem_of_getElem? (i := 140) rfl))))
theorem mw_X8_assign : ax_mwf mi_X8_assign := Or.inr (List.mem_append_right (k2_sels lw_privs) (show _ ∈ tables_1_1 ++ (tables_1_2 ++ (tables_1_3 ++ (tables_1_4 ++ (tables_1_5 ++ tables_1_6)))) from List.mem_append_right _ (List.mem_append_left _ (List.mem_of_getElem? (i := 136) rfl))))
theorem mw_X8_fillFree : ax_mwf mi_X8_fillFree := Or.inr (List.mem_append_right (k2_sels lw_privs) (show _ ∈ tables_1_1 ++ (tables_1_2 ++ (tables_1_3 ++ (tables_1_4 ++ (tables_1_5 ++ tables_1_6)))) from List.mem_append_right _ (List.mem_append_left _ (List.mem_of_getElem? (i := 163) rfl))))
theorem mw_X8_listFreePlaces : ax_mwf mi_X8_listFreePlaces := Or.inr (List.mem_append_right (k2_sels lw_privs) (show _ ∈ tables_1_1 ++ (tables_1_2 ++ (tables_1_3 ++ (tables_1_4 ++ (tables_1_5 ++ tables_1_6)))) from List.mem_append_right _ (List.mem_append_left _ (List.mem_of_getElem? (i := 167) rfl))))
theorem mw_X8_listFreeDrivers : ax_mwf mi_X8_listFreeDrivers := Or.inr (List.mem_append_right (k2_sels lw_privs) (show _ ∈ tables_1_1 ++ (tables_1_2 ++ (tables_1_3 ++ (tables_1_4 ++ (tables_1_5 ++ tables_1_6)))) from List.mem_append_right _ (List.mem_append_left _ (List.mem_of_getElem? (i := 171) rfl))))
theorem mw_X8_fillPlace : ax_mwf mi_X8_fillPlace := Or.inr (List.mem_append_right (k2_sels lw_privs) (show _ ∈ tables_1_1 ++ (tables_1_2 ++ (tables_1_3 ++ (tables_1_4 ++ (tables_1_5 ++ tables_1_6)))) from List.mem_append_right _ (List.mem_append_left _ (List.mem_of_getElem? (i := 175) rfl))))
theorem mw_X8_mostWorths : ax_mwf mi_X8_mostWorths := Or.inr (List.mem_append_right (k2_sels lw_privs) (show _ ∈ tables_1_1 ++ (tables_1_2 ++ (tables_1_3 ++ (tables_1_4 ++ (tables_1_5 ++ tables_1_6)))) from List.mem_append_right _ (List.mem_append_left _ (List.mem_of_getElem? (i := 179) rfl))))
theorem mw_X9_append : ax_mwf mi_X9_append := Or.inr (List.mem_append_right (k2_sels lw_privs) (show _ ∈ tables_1_1 ++ (tables_1_2 ++ (tables_1_3 ++ (tables_1_4 ++ (tables_1_5 ++ tables_1_6)))) from List.mem_append_right _ (List.mem_append_left _ (List.mem_of_getElem? (i := 190) rfl))))
theorem mw_X9_read : ax_mwf mi_X9_read := Or.inr (List.mem_append_right (k2_sels lw_privs) (show _ ∈ tables_1_1 ++ (tables_1_2 ++ (tables_1_3 ++ (tables_1_4 ++ (tables_1_5 ++ tables_1_6)))) from List.mem_append_right _ (List.mem_append_left _ (List.mem_of_getElem? (i := 198) rfl))))
theorem mw_X9_readClauses : ax_mwf mi_X9_readClauses := Or.inr (List.mem_append_right (k2_sels lw_privs) (show _ ∈ tables_1_1 ++ (tables_1_2 ++ (tables_1_3 ++ (tables_1_4 ++ (tables_1_5 ++ tables_1_6)))) from List.mem_append_right _ (List.mem_append_left _ (List.mem_of_getElem? (i := 202) rfl))))
theorem mw_X9_readClause : ax_mwf mi_X9_readClause := Or.inr (List.mem_append_right (k2_sels lw_privs) (show _ ∈ tables_1_1 ++ (tables_1_2 ++ (tables_1_3 ++ (tables_1_4 ++ (tables_1_5 ++ tables_1_6)))) from List.mem_append_right _ (List.mem_append_left _ (List.mem_of_getElem? (i := 206) rfl))))
theorem mw_X9_readWord : ax_mwf mi_X9_readWord := Or.inr (List.mem_append_right (k2_sels lw_privs) (show _ ∈ tables_1_1 ++ (tables_1_2 ++ (tables_1_3 ++ (tables_1_4 ++ (tables_1_5 ++ tables_1_6)))) from List.mem_append_right _ (List.mem_append_left _ (List.mem_of_getElem? (i := 210) rfl))))
theorem mw_X9_wordOf : ax_mwf mi_X9_wordOf := Or.inr (List.mem_append_right (k2_sels lw_privs) (show _ ∈ tables_1_1 ++ (tables_1_2 ++ (tables_1_3 ++ (tables_1_4 ++ (tables_1_5 ++ tables_1_6)))) from List.mem_append_right _ (List.mem_append_left _ (List.mem_of_getElem? (i := 213) rfl))))
theorem mw_X9_sameBytes : ax_mwf mi_X9_sameBytes := Or.inr (List.mem_append_right (k2_sels lw_privs) (show _ ∈ tables_1_1 ++ (tables_1_2 ++ (tables_1_3 ++ (tables_1_4 ++ (tables_1_5 ++ tables_1_6)))) from List.mem_append_right _ (List.mem_append_left _ (List.mem_of_getElem? (i := 223) rfl))))
theorem mw_X9_readByte : ax_mwf mi_X9_readByte := Or.inr (List.mem_append_right (k2_sels lw_privs) (show _ ∈ tables_1_1 ++ (tables_1_2 ++ (tables_1_3 ++ (tables_1_4 ++ (tables_1_5 ++ tables_1_6)))) from List.mem_append_right _ (List.mem_append_right _ (List.mem_append_left _ (List.mem_of_getElem? (i := 41) rfl)))))
theorem mw_X9_readDigit : ax_mwf mi_X9_readDigit := Or.inr (List.mem_append_right (k2_sels lw_privs) (show _ ∈ tables_1_1 ++ (tables_1_2 ++ (tables_1_3 ++ (tables_1_4 ++ (tables_1_5 ++ tables_1_6)))) from List.mem_append_right _ (List.mem_append_right _ (List.mem_append_left _ (List.mem_of_getElem? (i := 36) rfl)))))
theorem mw_X9_readNumber : ax_mwf mi_X9_readNumber := Or.inr (List.mem_append_right (k2_sels lw_privs) (show _ ∈ tables_1_1 ++ (tables_1_2 ++ (tables_1_3 ++ (tables_1_4 ++ (tables_1_5 ++ tables_1_6)))) from List.mem_append_right _ (List.mem_append_right _ (List.mem_append_left _ (List.mem_of_getElem? (i := 45) rfl)))))
theorem mw_X10_plate : ax_mwf mi_X10_plate := Or.inr (List.mem_append_right (k2_sels lw_privs) (show _ ∈ tables_1_1 ++ (tables_1_2 ++ (tables_1_3 ++ (tables_1_4 ++ (tables_1_5 ++ tables_1_6)))) from List.mem_append_right _ (List.mem_append_left _ (List.mem_of_getElem? (i := 100) rfl))))
theorem mw_X10_driver : ax_mwf mi_X10_driver := Or.inr (List.mem_append_right (k2_sels lw_privs) (show _ ∈ tables_1_1 ++ (tables_1_2 ++ (tables_1_3 ++ (tables_1_4 ++ (tables_1_5 ++ tables_1_6)))) from List.mem_append_right _ (List.mem_append_left _ (List.mem_of_getElem? (i := 114) rfl))))
theorem mw_X10_drive : ax_mwf mi_X10_drive := Or.inr (List.mem_append_right (k2_sels lw_privs) (show _ ∈ tables_1_1 ++ (tables_1_2 ++ (tables_1_3 ++ (tables_1_4 ++ (tables_1_5 ++ tables_1_6)))) from List.mem_append_right _ (List.mem_append_left _ (List.mem_of_getElem? (i := 122) rfl))))
theorem mw_X10_about : ax_mwf mi_X10_about := Or.inr (List.mem_append_right (k2_sels lw_privs) (show _ ∈ tables_1_1 ++ (tables_1_2 ++ (tables_1_3 ++ (tables_1_4 ++ (tables_1_5 ++ tables_1_6)))) from List.mem_append_right _ (List.mem_append_left _ (List.mem_of_getElem? (i := 144) rfl))))
theorem mw_X10_driven : ax_mwf mi_X10_driven := Or.inr (List.mem_append_right (k2_sels lw_privs) (show _ ∈ tables_1_1 ++ (tables_1_2 ++ (tables_1_3 ++ (tables_1_4 ++ (tables_1_5 ++ tables_1_6)))) from List.mem_append_right _ (List.mem_append_left _ (List.mem_of_getElem? (i := 155) rfl))))
theorem mw_X10_fill : ax_mwf mi_X10_fill := Or.inr (List.mem_append_right (k2_sels lw_privs) (show _ ∈ tables_1_1 ++ (tables_1_2 ++ (tables_1_3 ++ (tables_1_4 ++ (tables_1_5 ++ tables_1_6)))) from List.mem_append_right _ (List.mem_append_left _ (List.mem_of_getElem? (i := 159) rfl))))
theorem mw_X10_feed : ax_mwf mi_X10_feed := Or.inr (List.mem_append_right (k2_sels lw_privs) (show _ ∈ tables_1_1 ++ (tables_1_2 ++ (tables_1_3 ++ (tables_1_4 ++ (tables_1_5 ++ tables_1_6)))) from List.mem_append_right _ (List.mem_append_left _ (List.mem_of_getElem? (i := 186) rfl))))
theorem mw_X10_law : ax_mwf mi_X10_law := Or.inr (List.mem_append_right (k2_sels lw_privs) (show _ ∈ tables_1_1 ++ (tables_1_2 ++ (tables_1_3 ++ (tables_1_4 ++ (tables_1_5 ++ tables_1_6)))) from List.mem_append_right _ (List.mem_append_left _ (List.mem_of_getElem? (i := 194) rfl))))
theorem mw_X10_fare : ax_mwf mi_X10_fare := Or.inr (List.mem_append_right (k2_sels lw_privs) (show _ ∈ tables_1_1 ++ (tables_1_2 ++ (tables_1_3 ++ (tables_1_4 ++ (tables_1_5 ++ tables_1_6)))) from List.mem_append_right _ (List.mem_append_right _ (List.mem_append_left _ (List.mem_of_getElem? (i := 58) rfl)))))
theorem mw_X10_ask : ax_mwf mi_X10_ask := Or.inr (List.mem_append_right (k2_sels lw_privs) (show _ ∈ tables_1_1 ++ (tables_1_2 ++ (tables_1_3 ++ (tables_1_4 ++ (tables_1_5 ++ tables_1_6)))) from List.mem_append_right _ (List.mem_append_right _ (List.mem_append_left _ (List.mem_of_getElem? (i := 78) rfl)))))
theorem mw_X10_stand : ax_mwf mi_X10_stand := Or.inr (List.mem_append_right (k2_sels lw_privs) (show _ ∈ tables_1_1 ++ (tables_1_2 ++ (tables_1_3 ++ (tables_1_4 ++ (tables_1_5 ++ tables_1_6)))) from List.mem_append_right _ (List.mem_append_right _ (List.mem_append_left _ (List.mem_of_getElem? (i := 90) rfl)))))
theorem mw_X10_step : ax_mwf mi_X10_step := Or.inr (List.mem_append_right (k2_sels lw_privs) (show _ ∈ tables_1_1 ++ (tables_1_2 ++ (tables_1_3 ++ (tables_1_4 ++ (tables_1_5 ++ tables_1_6)))) from List.mem_append_right _ (List.mem_append_right _ (List.mem_append_left _ (List.mem_of_getElem? (i := 102) rfl)))))
theorem mw_X10_tried : ax_mwf mi_X10_tried := Or.inr (List.mem_append_right (k2_sels lw_privs) (show _ ∈ tables_1_1 ++ (tables_1_2 ++ (tables_1_3 ++ (tables_1_4 ++ (tables_1_5 ++ tables_1_6)))) from List.mem_append_right _ (List.mem_append_right _ (List.mem_append_left _ (List.mem_of_getElem? (i := 147) rfl)))))
theorem mw_X10_found : ax_mwf mi_X10_found := Or.inr (List.mem_append_right (k2_sels lw_privs) (show _ ∈ tables_1_1 ++ (tables_1_2 ++ (tables_1_3 ++ (tables_1_4 ++ (tables_1_5 ++ tables_1_6)))) from List.mem_append_right _ (List.mem_append_right _ (List.mem_append_left _ (List.mem_of_getElem? (i := 162) rfl)))))
theorem mw_X10_rode : ax_mwf mi_X10_rode := Or.inr (List.mem_append_right (k2_sels lw_privs) (show _ ∈ tables_1_1 ++ (tables_1_2 ++ (tables_1_3 ++ (tables_1_4 ++ (tables_1_5 ++ tables_1_6)))) from List.mem_append_right _ (List.mem_append_right _ (List.mem_append_left _ (List.mem_of_getElem? (i := 179) rfl)))))
theorem mw_X10_value : ax_mwf mi_X10_value := Or.inr (List.mem_append_right (k2_sels lw_privs) (show _ ∈ tables_1_1 ++ (tables_1_2 ++ (tables_1_3 ++ (tables_1_4 ++ (tables_1_5 ++ tables_1_6)))) from List.mem_append_right _ (List.mem_append_right _ (List.mem_append_left _ (List.mem_of_getElem? (i := 188) rfl)))))
theorem mw_X10_rent : ax_mwf mi_X10_rent := Or.inr (List.mem_append_right (k2_sels lw_privs) (show _ ∈ tables_1_1 ++ (tables_1_2 ++ (tables_1_3 ++ (tables_1_4 ++ (tables_1_5 ++ tables_1_6)))) from List.mem_append_right _ (List.mem_append_right _ (List.mem_append_left _ (List.mem_of_getElem? (i := 199) rfl)))))
theorem mw_X10_loan : ax_mwf mi_X10_loan := Or.inr (List.mem_append_right (k2_sels lw_privs) (show _ ∈ tables_1_1 ++ (tables_1_2 ++ (tables_1_3 ++ (tables_1_4 ++ (tables_1_5 ++ tables_1_6)))) from List.mem_append_right _ (List.mem_append_right _ (List.mem_append_left _ (List.mem_of_getElem? (i := 207) rfl)))))
theorem mw_X10_owes : ax_mwf mi_X10_owes := Or.inr (List.mem_append_right (k2_sels lw_privs) (show _ ∈ tables_1_1 ++ (tables_1_2 ++ (tables_1_3 ++ (tables_1_4 ++ (tables_1_5 ++ tables_1_6)))) from List.mem_append_right _ (List.mem_append_right _ (List.mem_append_left _ (List.mem_of_getElem? (i := 216) rfl)))))
theorem mw_X10_fails : ax_mwf mi_X10_fails := Or.inr (List.mem_append_right (k2_sels lw_privs) (show _ ∈ tables_1_1 ++ (tables_1_2 ++ (tables_1_3 ++ (tables_1_4 ++ (tables_1_5 ++ tables_1_6)))) from List.mem_append_right _ (List.mem_append_right _ (List.mem_append_left _ (List.mem_of_getElem? (i := 224) rfl)))))
theorem mw_X10_part : ax_mwf mi_X10_part := Or.inr (List.mem_append_right (k2_sels lw_privs) (show _ ∈ tables_1_1 ++ (tables_1_2 ++ (tables_1_3 ++ (tables_1_4 ++ (tables_1_5 ++ tables_1_6)))) from List.mem_append_right _ (List.mem_append_right _ (List.mem_append_left _ (List.mem_of_getElem? (i := 232) rfl)))))
theorem mw_X10_over : ax_mwf mi_X10_over := Or.inr (List.mem_append_right (k2_sels lw_privs) (show _ ∈ tables_1_1 ++ (tables_1_2 ++ (tables_1_3 ++ (tables_1_4 ++ (tables_1_5 ++ tables_1_6)))) from List.mem_append_right _ (List.mem_append_right _ (List.mem_append_right _ (List.mem_append_left _ (List.mem_of_getElem? (i := 25) rfl))))))
theorem mw_X10_rescue : ax_mwf mi_X10_rescue := Or.inr (List.mem_append_right (k2_sels lw_privs) (show _ ∈ tables_1_1 ++ (tables_1_2 ++ (tables_1_3 ++ (tables_1_4 ++ (tables_1_5 ++ tables_1_6)))) from List.mem_append_right _ (List.mem_append_right _ (List.mem_append_right _ (List.mem_append_left _ (List.mem_of_getElem? (i := 30) rfl))))))
theorem mw_X10_swap : ax_mwf mi_X10_swap := Or.inr (List.mem_append_right (k2_sels lw_privs) (show _ ∈ tables_1_1 ++ (tables_1_2 ++ (tables_1_3 ++ (tables_1_4 ++ (tables_1_5 ++ tables_1_6)))) from List.mem_append_right _ (List.mem_append_right _ (List.mem_append_right _ (List.mem_append_left _ (List.mem_of_getElem? (i := 38) rfl))))))
theorem mw_X10_unswap : ax_mwf mi_X10_unswap := Or.inr (List.mem_append_right (k2_sels lw_privs) (show _ ∈ tables_1_1 ++ (tables_1_2 ++ (tables_1_3 ++ (tables_1_4 ++ (tables_1_5 ++ tables_1_6)))) from List.mem_append_right _ (List.mem_append_right _ (List.mem_append_right _ (List.mem_append_left _ (List.mem_of_getElem? (i := 46) rfl))))))
theorem mw_X10_spread : ax_mwf mi_X10_spread := Or.inr (List.mem_append_right (k2_sels lw_privs) (show _ ∈ tables_1_1 ++ (tables_1_2 ++ (tables_1_3 ++ (tables_1_4 ++ (tables_1_5 ++ tables_1_6)))) from List.mem_append_right _ (List.mem_append_right _ (List.mem_append_right _ (List.mem_append_left _ (List.mem_of_getElem? (i := 54) rfl))))))
theorem mw_X10_join : ax_mwf mi_X10_join := Or.inr (List.mem_append_right (k2_sels lw_privs) (show _ ∈ tables_1_1 ++ (tables_1_2 ++ (tables_1_3 ++ (tables_1_4 ++ (tables_1_5 ++ tables_1_6)))) from List.mem_append_right _ (List.mem_append_right _ (List.mem_append_right _ (List.mem_append_left _ (List.mem_of_getElem? (i := 105) rfl))))))
theorem mw_X10_call : ax_mwf mi_X10_call := Or.inr (List.mem_append_right (k2_sels lw_privs) (show _ ∈ tables_1_1 ++ (tables_1_2 ++ (tables_1_3 ++ (tables_1_4 ++ (tables_1_5 ++ tables_1_6)))) from List.mem_append_right _ (List.mem_append_right _ (List.mem_append_right _ (List.mem_append_left _ (List.mem_of_getElem? (i := 117) rfl))))))
theorem mw_X10_leave : ax_mwf mi_X10_leave := Or.inr (List.mem_append_right (k2_sels lw_privs) (show _ ∈ tables_1_1 ++ (tables_1_2 ++ (tables_1_3 ++ (tables_1_4 ++ (tables_1_5 ++ tables_1_6)))) from List.mem_append_right _ (List.mem_append_right _ (List.mem_append_right _ (List.mem_append_left _ (List.mem_of_getElem? (i := 125) rfl))))))
theorem mw_X10_count : ax_mwf mi_X10_count := Or.inr (List.mem_append_right (k2_sels lw_privs) (show _ ∈ tables_1_1 ++ (tables_1_2 ++ (tables_1_3 ++ (tables_1_4 ++ (tables_1_5 ++ tables_1_6)))) from List.mem_append_right _ (List.mem_append_right _ (List.mem_append_right _ (List.mem_append_left _ (List.mem_of_getElem? (i := 129) rfl))))))
theorem mw_X10_within : ax_mwf mi_X10_within := Or.inr (List.mem_append_right (k2_sels lw_privs) (show _ ∈ tables_1_1 ++ (tables_1_2 ++ (tables_1_3 ++ (tables_1_4 ++ (tables_1_5 ++ tables_1_6)))) from List.mem_append_right _ (List.mem_append_left _ (List.mem_of_getElem? (i := 103) rfl))))
theorem mw_X10_isWard : ax_mwf mi_X10_isWard := Or.inr (List.mem_append_right (k2_sels lw_privs) (show _ ∈ tables_1_1 ++ (tables_1_2 ++ (tables_1_3 ++ (tables_1_4 ++ (tables_1_5 ++ tables_1_6)))) from List.mem_append_right _ (List.mem_append_right _ (List.mem_append_left _ (List.mem_of_getElem? (i := 61) rfl)))))
theorem mw_X10_isRent : ax_mwf mi_X10_isRent := Or.inr (List.mem_append_right (k2_sels lw_privs) (show _ ∈ tables_1_1 ++ (tables_1_2 ++ (tables_1_3 ++ (tables_1_4 ++ (tables_1_5 ++ tables_1_6)))) from List.mem_append_right _ (List.mem_append_left _ (List.mem_of_getElem? (i := 106) rfl))))
theorem mw_X10_isTerm : ax_mwf mi_X10_isTerm := Or.inr (List.mem_append_right (k2_sels lw_privs) (show _ ∈ tables_1_1 ++ (tables_1_2 ++ (tables_1_3 ++ (tables_1_4 ++ (tables_1_5 ++ tables_1_6)))) from List.mem_append_right _ (List.mem_append_right _ (List.mem_append_left _ (List.mem_of_getElem? (i := 191) rfl)))))
theorem mw_X10_isPartable : ax_mwf mi_X10_isPartable := Or.inr (List.mem_append_right (k2_sels lw_privs) (show _ ∈ tables_1_1 ++ (tables_1_2 ++ (tables_1_3 ++ (tables_1_4 ++ (tables_1_5 ++ tables_1_6)))) from List.mem_append_right _ (List.mem_append_right _ (List.mem_append_right _ (List.mem_append_left _ (List.mem_of_getElem? (i := 0) rfl))))))
theorem mw_X10_isFailing : ax_mwf mi_X10_isFailing := Or.inr (List.mem_append_right (k2_sels lw_privs) (show _ ∈ tables_1_1 ++ (tables_1_2 ++ (tables_1_3 ++ (tables_1_4 ++ (tables_1_5 ++ tables_1_6)))) from List.mem_append_right _ (List.mem_append_right _ (List.mem_append_left _ (List.mem_of_getElem? (i := 228) rfl)))))
theorem mw_X11_isIn : ax_mwf mi_X11_isIn := Or.inr (List.mem_append_right (k2_sels lw_privs) (show _ ∈ tables_1_1 ++ (tables_1_2 ++ (tables_1_3 ++ (tables_1_4 ++ (tables_1_5 ++ tables_1_6)))) from List.mem_append_right _ (List.mem_append_right _ (List.mem_append_right _ (List.mem_append_right _ (List.mem_append_left _ (List.mem_of_getElem? (i := 60) rfl)))))))
theorem mw_X11_isPlate : ax_mwf mi_X11_isPlate := Or.inr (List.mem_append_right (k2_sels lw_privs) (show _ ∈ tables_1_1 ++ (tables_1_2 ++ (tables_1_3 ++ (tables_1_4 ++ (tables_1_5 ++ tables_1_6)))) from List.mem_append_right _ (List.mem_append_right _ (List.mem_append_right _ (List.mem_append_right _ (List.mem_append_left _ (List.mem_of_getElem? (i := 75) rfl)))))))
theorem mw_X11_isDriver : ax_mwf mi_X11_isDriver := Or.inr (List.mem_append_right (k2_sels lw_privs) (show _ ∈ tables_1_1 ++ (tables_1_2 ++ (tables_1_3 ++ (tables_1_4 ++ (tables_1_5 ++ tables_1_6)))) from List.mem_append_right _ (List.mem_append_right _ (List.mem_append_right _ (List.mem_append_right _ (List.mem_append_left _ (List.mem_of_getElem? (i := 79) rfl)))))))
theorem mw_X11_isWard : ax_mwf mi_X11_isWard := Or.inr (List.mem_append_right (k2_sels lw_privs) (show _ ∈ tables_1_1 ++ (tables_1_2 ++ (tables_1_3 ++ (tables_1_4 ++ (tables_1_5 ++ tables_1_6)))) from List.mem_append_right _ (List.mem_append_right _ (List.mem_append_right _ (List.mem_append_right _ (List.mem_append_left _ (List.mem_of_getElem? (i := 156) rfl)))))))
theorem mw_X11_plate : ax_mwf mi_X11_plate := Or.inr (List.mem_append_right (k2_sels lw_privs) (show _ ∈ tables_1_1 ++ (tables_1_2 ++ (tables_1_3 ++ (tables_1_4 ++ (tables_1_5 ++ tables_1_6)))) from List.mem_append_right _ (List.mem_append_right _ (List.mem_append_right _ (List.mem_append_right _ (List.mem_append_left _ (List.mem_of_getElem? (i := 56) rfl)))))))
theorem mw_X11_driver : ax_mwf mi_X11_driver := Or.inr (List.mem_append_right (k2_sels lw_privs) (show _ ∈ tables_1_1 ++ (tables_1_2 ++ (tables_1_3 ++ (tables_1_4 ++ (tables_1_5 ++ tables_1_6)))) from List.mem_append_right _ (List.mem_append_right _ (List.mem_append_right _ (List.mem_append_right _ (List.mem_append_left _ (List.mem_of_getElem? (i := 66) rfl)))))))
theorem mw_X11_frees : ax_mwf mi_X11_frees := Or.inr (List.mem_append_right (k2_sels lw_privs) (show _ ∈ tables_1_1 ++ (tables_1_2 ++ (tables_1_3 ++ (tables_1_4 ++ (tables_1_5 ++ tables_1_6)))) from List.mem_append_right _ (List.mem_append_right _ (List.mem_append_right _ (List.mem_append_right _ (List.mem_append_left _ (List.mem_of_getElem? (i := 91) rfl)))))))
theorem mw_X11_driverOf : ax_mwf mi_X11_driverOf := Or.inr (List.mem_append_right (k2_sels lw_privs) (show _ ∈ tables_1_1 ++ (tables_1_2 ++ (tables_1_3 ++ (tables_1_4 ++ (tables_1_5 ++ tables_1_6)))) from List.mem_append_right _ (List.mem_append_right _ (List.mem_append_right _ (List.mem_append_right _ (List.mem_append_left _ (List.mem_of_getElem? (i := 83) rfl)))))))
theorem mw_X11_gives : ax_mwf mi_X11_gives := Or.inr (List.mem_append_right (k2_sels lw_privs) (show _ ∈ tables_1_1 ++ (tables_1_2 ++ (tables_1_3 ++ (tables_1_4 ++ (tables_1_5 ++ tables_1_6)))) from List.mem_append_right _ (List.mem_append_right _ (List.mem_append_right _ (List.mem_append_right _ (List.mem_append_left _ (List.mem_of_getElem? (i := 87) rfl)))))))
theorem mw_X11_drive : ax_mwf mi_X11_drive := Or.inr (List.mem_append_right (k2_sels lw_privs) (show _ ∈ tables_1_1 ++ (tables_1_2 ++ (tables_1_3 ++ (tables_1_4 ++ (tables_1_5 ++ tables_1_6)))) from List.mem_append_right _ (List.mem_append_right _ (List.mem_append_right _ (List.mem_append_right _ (List.mem_append_left _ (List.mem_of_getElem? (i := 71) rfl)))))))
theorem mw_X11_about : ax_mwf mi_X11_about := Or.inr (List.mem_append_right (k2_sels lw_privs) (show _ ∈ tables_1_1 ++ (tables_1_2 ++ (tables_1_3 ++ (tables_1_4 ++ (tables_1_5 ++ tables_1_6)))) from List.mem_append_right _ (List.mem_append_right _ (List.mem_append_right _ (List.mem_append_right _ (List.mem_append_left _ (List.mem_of_getElem? (i := 95) rfl)))))))
theorem mw_X11_driven : ax_mwf mi_X11_driven := Or.inr (List.mem_append_right (k2_sels lw_privs) (show _ ∈ tables_1_1 ++ (tables_1_2 ++ (tables_1_3 ++ (tables_1_4 ++ (tables_1_5 ++ tables_1_6)))) from List.mem_append_right _ (List.mem_append_right _ (List.mem_append_right _ (List.mem_append_right _ (List.mem_append_left _ (List.mem_of_getElem? (i := 99) rfl)))))))
theorem mw_X11_drives : ax_mwf mi_X11_drives := Or.inr (List.mem_append_right (k2_sels lw_privs) (show _ ∈ tables_1_1 ++ (tables_1_2 ++ (tables_1_3 ++ (tables_1_4 ++ (tables_1_5 ++ tables_1_6)))) from List.mem_append_right _ (List.mem_append_right _ (List.mem_append_right _ (List.mem_append_right _ (List.mem_append_left _ (List.mem_of_getElem? (i := 107) rfl)))))))
theorem mw_X11_worthOf : ax_mwf mi_X11_worthOf := Or.inr (List.mem_append_right (k2_sels lw_privs) (show _ ∈ tables_1_1 ++ (tables_1_2 ++ (tables_1_3 ++ (tables_1_4 ++ (tables_1_5 ++ tables_1_6)))) from List.mem_append_right _ (List.mem_append_right _ (List.mem_append_right _ (List.mem_append_right _ (List.mem_append_left _ (List.mem_of_getElem? (i := 111) rfl)))))))
theorem mw_X11_fill : ax_mwf mi_X11_fill := Or.inr (List.mem_append_right (k2_sels lw_privs) (show _ ∈ tables_1_1 ++ (tables_1_2 ++ (tables_1_3 ++ (tables_1_4 ++ (tables_1_5 ++ tables_1_6)))) from List.mem_append_right _ (List.mem_append_right _ (List.mem_append_right _ (List.mem_append_right _ (List.mem_append_left _ (List.mem_of_getElem? (i := 103) rfl)))))))
theorem mw_X11_feed : ax_mwf mi_X11_feed := Or.inr (List.mem_append_right (k2_sels lw_privs) (show _ ∈ tables_1_1 ++ (tables_1_2 ++ (tables_1_3 ++ (tables_1_4 ++ (tables_1_5 ++ tables_1_6)))) from List.mem_append_right _ (List.mem_append_right _ (List.mem_append_right _ (List.mem_append_right _ (List.mem_append_left _ (List.mem_of_getElem? (i := 115) rfl)))))))
theorem mw_X11_sign : ax_mwf mi_X11_sign := Or.inr (List.mem_append_right (k2_sels lw_privs) (show _ ∈ tables_1_1 ++ (tables_1_2 ++ (tables_1_3 ++ (tables_1_4 ++ (tables_1_5 ++ tables_1_6)))) from List.mem_append_right _ (List.mem_append_right _ (List.mem_append_right _ (List.mem_append_right _ (List.mem_append_left _ (List.mem_of_getElem? (i := 140) rfl)))))))
theorem mw_X11_signOf : ax_mwf mi_X11_signOf := Or.inr (List.mem_append_right (k2_sels lw_privs) (show _ ∈ tables_1_1 ++ (tables_1_2 ++ (tables_1_3 ++ (tables_1_4 ++ (tables_1_5 ++ tables_1_6)))) from List.mem_append_right _ (List.mem_append_right _ (List.mem_append_right _ (List.mem_append_right _ (List.mem_append_left _ (List.mem_of_getElem? (i := 136) rfl)))))))
theorem mw_X11_word : ax_mwf mi_X11_word := Or.inr (List.mem_append_right (k2_sels lw_privs) (show _ ∈ tables_1_1 ++ (tables_1_2 ++ (tables_1_3 ++ (tables_1_4 ++ (tables_1_5 ++ tables_1_6)))) from List.mem_append_right _ (List.mem_append_right _ (List.mem_append_right _ (List.mem_append_right _ (List.mem_append_left _ (List.mem_of_getElem? (i := 133) rfl)))))))
theorem mw_X11_isDigit : ax_mwf mi_X11_isDigit := Or.inr (List.mem_append_right (k2_sels lw_privs) (show _ ∈ tables_1_1 ++ (tables_1_2 ++ (tables_1_3 ++ (tables_1_4 ++ (tables_1_5 ++ tables_1_6)))) from List.mem_append_right _ (List.mem_append_right _ (List.mem_append_right _ (List.mem_append_right _ (List.mem_append_left _ (List.mem_of_getElem? (i := 149) rfl)))))))
theorem mw_X11_takes : ax_mwf mi_X11_takes := Or.inr (List.mem_append_right (k2_sels lw_privs) (show _ ∈ tables_1_1 ++ (tables_1_2 ++ (tables_1_3 ++ (tables_1_4 ++ (tables_1_5 ++ tables_1_6)))) from List.mem_append_right _ (List.mem_append_right _ (List.mem_append_right _ (List.mem_append_right _ (List.mem_append_left _ (List.mem_of_getElem? (i := 144) rfl)))))))
theorem mw_X11_clause : ax_mwf mi_X11_clause := Or.inr (List.mem_append_right (k2_sels lw_privs) (show _ ∈ tables_1_1 ++ (tables_1_2 ++ (tables_1_3 ++ (tables_1_4 ++ (tables_1_5 ++ tables_1_6)))) from List.mem_append_right _ (List.mem_append_right _ (List.mem_append_right _ (List.mem_append_right _ (List.mem_append_left _ (List.mem_of_getElem? (i := 129) rfl)))))))
theorem mw_X11_parses : ax_mwf mi_X11_parses := Or.inr (List.mem_append_right (k2_sels lw_privs) (show _ ∈ tables_1_1 ++ (tables_1_2 ++ (tables_1_3 ++ (tables_1_4 ++ (tables_1_5 ++ tables_1_6)))) from List.mem_append_right _ (List.mem_append_right _ (List.mem_append_right _ (List.mem_append_right _ (List.mem_append_left _ (List.mem_of_getElem? (i := 125) rfl)))))))
theorem mw_X11_law : ax_mwf mi_X11_law := Or.inr (List.mem_append_right (k2_sels lw_privs) (show _ ∈ tables_1_1 ++ (tables_1_2 ++ (tables_1_3 ++ (tables_1_4 ++ (tables_1_5 ++ tables_1_6)))) from List.mem_append_right _ (List.mem_append_right _ (List.mem_append_right _ (List.mem_append_right _ (List.mem_append_left _ (List.mem_of_getElem? (i := 121) rfl)))))))
theorem mw_X11_fareOf : ax_mwf mi_X11_fareOf := Or.inr (List.mem_append_right (k2_sels lw_privs) (show _ ∈ tables_1_1 ++ (tables_1_2 ++ (tables_1_3 ++ (tables_1_4 ++ (tables_1_5 ++ tables_1_6)))) from List.mem_append_right _ (List.mem_append_right _ (List.mem_append_right _ (List.mem_append_right _ (List.mem_append_left _ (List.mem_of_getElem? (i := 162) rfl)))))))
theorem mw_X11_fare : ax_mwf mi_X11_fare := Or.inr (List.mem_append_right (k2_sels lw_privs) (show _ ∈ tables_1_1 ++ (tables_1_2 ++ (tables_1_3 ++ (tables_1_4 ++ (tables_1_5 ++ tables_1_6)))) from List.mem_append_right _ (List.mem_append_right _ (List.mem_append_right _ (List.mem_append_right _ (List.mem_append_left _ (List.mem_of_getElem? (i := 153) rfl)))))))
theorem mw_X11_ask : ax_mwf mi_X11_ask := Or.inr (List.mem_append_right (k2_sels lw_privs) (show _ ∈ tables_1_1 ++ (tables_1_2 ++ (tables_1_3 ++ (tables_1_4 ++ (tables_1_5 ++ tables_1_6)))) from List.mem_append_right _ (List.mem_append_right _ (List.mem_append_right _ (List.mem_append_right _ (List.mem_append_left _ (List.mem_of_getElem? (i := 167) rfl)))))))
theorem mw_X11_mayStand : ax_mwf mi_X11_mayStand := Or.inr (List.mem_append_right (k2_sels lw_privs) (show _ ∈ tables_1_1 ++ (tables_1_2 ++ (tables_1_3 ++ (tables_1_4 ++ (tables_1_5 ++ tables_1_6)))) from List.mem_append_right _ (List.mem_append_right _ (List.mem_append_right _ (List.mem_append_right _ (List.mem_append_left _ (List.mem_of_getElem? (i := 176) rfl)))))))
theorem mw_X11_stand : ax_mwf mi_X11_stand := Or.inr (List.mem_append_right (k2_sels lw_privs) (show _ ∈ tables_1_1 ++ (tables_1_2 ++ (tables_1_3 ++ (tables_1_4 ++ (tables_1_5 ++ tables_1_6)))) from List.mem_append_right _ (List.mem_append_right _ (List.mem_append_right _ (List.mem_append_right _ (List.mem_append_left _ (List.mem_of_getElem? (i := 172) rfl)))))))
theorem mw_X11_waiting : ax_mwf mi_X11_waiting := Or.inr (List.mem_append_right (k2_sels lw_privs) (show _ ∈ tables_1_1 ++ (tables_1_2 ++ (tables_1_3 ++ (tables_1_4 ++ (tables_1_5 ++ tables_1_6)))) from List.mem_append_right _ (List.mem_append_right _ (List.mem_append_right _ (List.mem_append_right _ (List.mem_append_left _ (List.mem_of_getElem? (i := 195) rfl)))))))
theorem mw_X11_runs : ax_mwf mi_X11_runs := Or.inr (List.mem_append_right (k2_sels lw_privs) (show _ ∈ tables_1_1 ++ (tables_1_2 ++ (tables_1_3 ++ (tables_1_4 ++ (tables_1_5 ++ tables_1_6)))) from List.mem_append_right _ (List.mem_append_right _ (List.mem_append_right _ (List.mem_append_right _ (List.mem_append_left _ (List.mem_of_getElem? (i := 189) rfl)))))))
theorem mw_X11_takesOne : ax_mwf mi_X11_takesOne := Or.inr (List.mem_append_right (k2_sels lw_privs) (show _ ∈ tables_1_1 ++ (tables_1_2 ++ (tables_1_3 ++ (tables_1_4 ++ (tables_1_5 ++ tables_1_6)))) from List.mem_append_right _ (List.mem_append_right _ (List.mem_append_right _ (List.mem_append_right _ (List.mem_append_left _ (List.mem_of_getElem? (i := 199) rfl)))))))
theorem mw_X11_roams : ax_mwf mi_X11_roams := Or.inr (List.mem_append_right (k2_sels lw_privs) (show _ ∈ tables_1_1 ++ (tables_1_2 ++ (tables_1_3 ++ (tables_1_4 ++ (tables_1_5 ++ tables_1_6)))) from List.mem_append_right _ (List.mem_append_right _ (List.mem_append_right _ (List.mem_append_right _ (List.mem_append_left _ (List.mem_of_getElem? (i := 203) rfl)))))))
theorem mw_X11_goesBy : ax_mwf mi_X11_goesBy := Or.inr (List.mem_append_right (k2_sels lw_privs) (show _ ∈ tables_1_1 ++ (tables_1_2 ++ (tables_1_3 ++ (tables_1_4 ++ (tables_1_5 ++ tables_1_6)))) from List.mem_append_right _ (List.mem_append_right _ (List.mem_append_right _ (List.mem_append_right _ (List.mem_append_left _ (List.mem_of_getElem? (i := 185) rfl)))))))
theorem mw_X11_step : ax_mwf mi_X11_step := Or.inr (List.mem_append_right (k2_sels lw_privs) (show _ ∈ tables_1_1 ++ (tables_1_2 ++ (tables_1_3 ++ (tables_1_4 ++ (tables_1_5 ++ tables_1_6)))) from List.mem_append_right _ (List.mem_append_right _ (List.mem_append_right _ (List.mem_append_right _ (List.mem_append_left _ (List.mem_of_getElem? (i := 180) rfl)))))))
theorem mw_X11_tookAll : ax_mwf mi_X11_tookAll := Or.inr (List.mem_append_right (k2_sels lw_privs) (show _ ∈ tables_1_1 ++ (tables_1_2 ++ (tables_1_3 ++ (tables_1_4 ++ (tables_1_5 ++ tables_1_6)))) from List.mem_append_right _ (List.mem_append_right _ (List.mem_append_right _ (List.mem_append_right _ (List.mem_append_left _ (List.mem_of_getElem? (i := 212) rfl)))))))
theorem mw_X11_tried : ax_mwf mi_X11_tried := Or.inr (List.mem_append_right (k2_sels lw_privs) (show _ ∈ tables_1_1 ++ (tables_1_2 ++ (tables_1_3 ++ (tables_1_4 ++ (tables_1_5 ++ tables_1_6)))) from List.mem_append_right _ (List.mem_append_right _ (List.mem_append_right _ (List.mem_append_right _ (List.mem_append_left _ (List.mem_of_getElem? (i := 207) rfl)))))))
theorem mw_X11_found : ax_mwf mi_X11_found := Or.inr (List.mem_append_right (k2_sels lw_privs) (show _ ∈ tables_1_1 ++ (tables_1_2 ++ (tables_1_3 ++ (tables_1_4 ++ (tables_1_5 ++ tables_1_6)))) from List.mem_append_right _ (List.mem_append_right _ (List.mem_append_right _ (List.mem_append_right _ (List.mem_append_left _ (List.mem_of_getElem? (i := 216) rfl)))))))
theorem mw_X11_rode : ax_mwf mi_X11_rode := Or.inr (List.mem_append_right (k2_sels lw_privs) (show _ ∈ tables_1_1 ++ (tables_1_2 ++ (tables_1_3 ++ (tables_1_4 ++ (tables_1_5 ++ tables_1_6)))) from List.mem_append_right _ (List.mem_append_right _ (List.mem_append_right _ (List.mem_append_right _ (List.mem_append_left _ (List.mem_of_getElem? (i := 220) rfl)))))))
theorem mw_X11_areTerms : ax_mwf mi_X11_areTerms := Or.inr (List.mem_append_right (k2_sels lw_privs) (show _ ∈ tables_1_1 ++ (tables_1_2 ++ (tables_1_3 ++ (tables_1_4 ++ (tables_1_5 ++ tables_1_6)))) from List.mem_append_right _ (List.mem_append_right _ (List.mem_append_right _ (List.mem_append_right _ (List.mem_append_left _ (List.mem_of_getElem? (i := 227) rfl)))))))
theorem mw_X11_worth : ax_mwf mi_X11_worth := Or.inr (List.mem_append_right (k2_sels lw_privs) (show _ ∈ tables_1_1 ++ (tables_1_2 ++ (tables_1_3 ++ (tables_1_4 ++ (tables_1_5 ++ tables_1_6)))) from List.mem_append_right _ (List.mem_append_right _ (List.mem_append_right _ (List.mem_append_right _ (List.mem_append_left _ (List.mem_of_getElem? (i := 232) rfl)))))))
theorem mw_X11_value : ax_mwf mi_X11_value := Or.inr (List.mem_append_right (k2_sels lw_privs) (show _ ∈ tables_1_1 ++ (tables_1_2 ++ (tables_1_3 ++ (tables_1_4 ++ (tables_1_5 ++ tables_1_6)))) from List.mem_append_right _ (List.mem_append_right _ (List.mem_append_right _ (List.mem_append_right _ (List.mem_append_left _ (List.mem_of_getElem? (i := 224) rfl)))))))
theorem mw_X11_rent : ax_mwf mi_X11_rent := Or.inr (List.mem_append_right (k2_sels lw_privs) (show _ ∈ tables_1_1 ++ (tables_1_2 ++ (tables_1_3 ++ (tables_1_4 ++ (tables_1_5 ++ tables_1_6)))) from List.mem_append_right _ (List.mem_append_right _ (List.mem_append_right _ (List.mem_append_right _ (List.mem_append_left _ (List.mem_of_getElem? (i := 237) rfl)))))))
theorem mw_X11_loan : ax_mwf mi_X11_loan := Or.inr (List.mem_append_right (k2_sels lw_privs) (show _ ∈ tables_1_1 ++ (tables_1_2 ++ (tables_1_3 ++ (tables_1_4 ++ (tables_1_5 ++ tables_1_6)))) from List.mem_append_right _ (List.mem_append_right _ (List.mem_append_right _ (List.mem_append_right _ (List.mem_append_right _ (List.mem_of_getElem? (i := 1) rfl)))))))
theorem mw_X11_owed : ax_mwf mi_X11_owed := Or.inr (List.mem_append_right (k2_sels lw_privs) (show _ ∈ tables_1_1 ++ (tables_1_2 ++ (tables_1_3 ++ (tables_1_4 ++ (tables_1_5 ++ tables_1_6)))) from List.mem_append_right _ (List.mem_append_right _ (List.mem_append_right _ (List.mem_append_right _ (List.mem_append_right _ (List.mem_of_getElem? (i := 10) rfl)))))))
theorem mw_X11_owes : ax_mwf mi_X11_owes := Or.inr (List.mem_append_right (k2_sels lw_privs) (show _ ∈ tables_1_1 ++ (tables_1_2 ++ (tables_1_3 ++ (tables_1_4 ++ (tables_1_5 ++ tables_1_6)))) from List.mem_append_right _ (List.mem_append_right _ (List.mem_append_right _ (List.mem_append_right _ (List.mem_append_right _ (List.mem_of_getElem? (i := 6) rfl)))))))
theorem mw_X11_fails : ax_mwf mi_X11_fails := Or.inr (List.mem_append_right (k2_sels lw_privs) (show _ ∈ tables_1_1 ++ (tables_1_2 ++ (tables_1_3 ++ (tables_1_4 ++ (tables_1_5 ++ tables_1_6)))) from List.mem_append_right _ (List.mem_append_right _ (List.mem_append_right _ (List.mem_append_right _ (List.mem_append_right _ (List.mem_of_getElem? (i := 14) rfl)))))))
theorem mw_X11_parts : ax_mwf mi_X11_parts := Or.inr (List.mem_append_right (k2_sels lw_privs) (show _ ∈ tables_1_1 ++ (tables_1_2 ++ (tables_1_3 ++ (tables_1_4 ++ (tables_1_5 ++ tables_1_6)))) from List.mem_append_right _ (List.mem_append_right _ (List.mem_append_right _ (List.mem_append_right _ (List.mem_append_right _ (List.mem_of_getElem? (i := 23) rfl)))))))
theorem mw_X11_part : ax_mwf mi_X11_part := Or.inr (List.mem_append_right (k2_sels lw_privs) (show _ ∈ tables_1_1 ++ (tables_1_2 ++ (tables_1_3 ++ (tables_1_4 ++ (tables_1_5 ++ tables_1_6)))) from List.mem_append_right _ (List.mem_append_right _ (List.mem_append_right _ (List.mem_append_right _ (List.mem_append_right _ (List.mem_of_getElem? (i := 18) rfl)))))))
theorem mw_X11_over : ax_mwf mi_X11_over := Or.inr (List.mem_append_right (k2_sels lw_privs) (show _ ∈ tables_1_1 ++ (tables_1_2 ++ (tables_1_3 ++ (tables_1_4 ++ (tables_1_5 ++ tables_1_6)))) from List.mem_append_right _ (List.mem_append_right _ (List.mem_append_right _ (List.mem_append_right _ (List.mem_append_right _ (List.mem_of_getElem? (i := 27) rfl)))))))
theorem mw_X11_rescue : ax_mwf mi_X11_rescue := Or.inr (List.mem_append_right (k2_sels lw_privs) (show _ ∈ tables_1_1 ++ (tables_1_2 ++ (tables_1_3 ++ (tables_1_4 ++ (tables_1_5 ++ tables_1_6)))) from List.mem_append_right _ (List.mem_append_right _ (List.mem_append_right _ (List.mem_append_right _ (List.mem_append_right _ (List.mem_of_getElem? (i := 31) rfl)))))))
theorem mw_X11_swap : ax_mwf mi_X11_swap := Or.inr (List.mem_append_right (k2_sels lw_privs) (show _ ∈ tables_1_1 ++ (tables_1_2 ++ (tables_1_3 ++ (tables_1_4 ++ (tables_1_5 ++ tables_1_6)))) from List.mem_append_right _ (List.mem_append_right _ (List.mem_append_right _ (List.mem_append_right _ (List.mem_append_right _ (List.mem_of_getElem? (i := 36) rfl)))))))
theorem mw_X11_unswap : ax_mwf mi_X11_unswap := Or.inr (List.mem_append_right (k2_sels lw_privs) (show _ ∈ tables_1_1 ++ (tables_1_2 ++ (tables_1_3 ++ (tables_1_4 ++ (tables_1_5 ++ tables_1_6)))) from List.mem_append_right _ (List.mem_append_right _ (List.mem_append_right _ (List.mem_append_right _ (List.mem_append_right _ (List.mem_of_getElem? (i := 40) rfl)))))))
theorem mw_X11_asksAt : ax_mwf mi_X11_asksAt := Or.inr (List.mem_append_right (k2_sels lw_privs) (show _ ∈ tables_1_1 ++ (tables_1_2 ++ (tables_1_3 ++ (tables_1_4 ++ (tables_1_5 ++ tables_1_6)))) from List.mem_append_right _ (List.mem_append_right _ (List.mem_append_right _ (List.mem_append_right _ (List.mem_append_right _ (List.mem_of_getElem? (i := 60) rfl)))))))
theorem mw_X11_looks : ax_mwf mi_X11_looks := Or.inr (List.mem_append_right (k2_sels lw_privs) (show _ ∈ tables_1_1 ++ (tables_1_2 ++ (tables_1_3 ++ (tables_1_4 ++ (tables_1_5 ++ tables_1_6)))) from List.mem_append_right _ (List.mem_append_right _ (List.mem_append_right _ (List.mem_append_right _ (List.mem_append_right _ (List.mem_of_getElem? (i := 56) rfl)))))))
theorem mw_X11_hourFrom : ax_mwf mi_X11_hourFrom := Or.inr (List.mem_append_right (k2_sels lw_privs) (show _ ∈ tables_1_1 ++ (tables_1_2 ++ (tables_1_3 ++ (tables_1_4 ++ (tables_1_5 ++ tables_1_6)))) from List.mem_append_right _ (List.mem_append_right _ (List.mem_append_right _ (List.mem_append_right _ (List.mem_append_right _ (List.mem_of_getElem? (i := 52) rfl)))))))
theorem mw_X11_goesOn : ax_mwf mi_X11_goesOn := Or.inr (List.mem_append_right (k2_sels lw_privs) (show _ ∈ tables_1_1 ++ (tables_1_2 ++ (tables_1_3 ++ (tables_1_4 ++ (tables_1_5 ++ tables_1_6)))) from List.mem_append_right _ (List.mem_append_right _ (List.mem_append_right _ (List.mem_append_right _ (List.mem_append_right _ (List.mem_of_getElem? (i := 64) rfl)))))))
theorem mw_X11_spreads : ax_mwf mi_X11_spreads := Or.inr (List.mem_append_right (k2_sels lw_privs) (show _ ∈ tables_1_1 ++ (tables_1_2 ++ (tables_1_3 ++ (tables_1_4 ++ (tables_1_5 ++ tables_1_6)))) from List.mem_append_right _ (List.mem_append_right _ (List.mem_append_right _ (List.mem_append_right _ (List.mem_append_right _ (List.mem_of_getElem? (i := 48) rfl)))))))
theorem mw_X11_spread : ax_mwf mi_X11_spread := Or.inr (List.mem_append_right (k2_sels lw_privs) (show _ ∈ tables_1_1 ++ (tables_1_2 ++ (tables_1_3 ++ (tables_1_4 ++ (tables_1_5 ++ tables_1_6)))) from List.mem_append_right _ (List.mem_append_right _ (List.mem_append_right _ (List.mem_append_right _ (List.mem_append_right _ (List.mem_of_getElem? (i := 44) rfl)))))))
theorem mw_X11_placeOf : ax_mwf mi_X11_placeOf := Or.inr (List.mem_append_right (k2_sels lw_privs) (show _ ∈ tables_1_1 ++ (tables_1_2 ++ (tables_1_3 ++ (tables_1_4 ++ (tables_1_5 ++ tables_1_6)))) from List.mem_append_right _ (List.mem_append_right _ (List.mem_append_right _ (List.mem_append_right _ (List.mem_append_right _ (List.mem_of_getElem? (i := 72) rfl)))))))
theorem mw_X11_goesFrom : ax_mwf mi_X11_goesFrom := Or.inr (List.mem_append_right (k2_sels lw_privs) (show _ ∈ tables_1_1 ++ (tables_1_2 ++ (tables_1_3 ++ (tables_1_4 ++ (tables_1_5 ++ tables_1_6)))) from List.mem_append_right _ (List.mem_append_right _ (List.mem_append_right _ (List.mem_append_right _ (List.mem_append_right _ (List.mem_of_getElem? (i := 80) rfl)))))))
theorem mw_X11_join : ax_mwf mi_X11_join := Or.inr (List.mem_append_right (k2_sels lw_privs) (show _ ∈ tables_1_1 ++ (tables_1_2 ++ (tables_1_3 ++ (tables_1_4 ++ (tables_1_5 ++ tables_1_6)))) from List.mem_append_right _ (List.mem_append_right _ (List.mem_append_right _ (List.mem_append_right _ (List.mem_append_right _ (List.mem_of_getElem? (i := 68) rfl)))))))
theorem mw_X11_call : ax_mwf mi_X11_call := Or.inr (List.mem_append_right (k2_sels lw_privs) (show _ ∈ tables_1_1 ++ (tables_1_2 ++ (tables_1_3 ++ (tables_1_4 ++ (tables_1_5 ++ tables_1_6)))) from List.mem_append_right _ (List.mem_append_right _ (List.mem_append_right _ (List.mem_append_right _ (List.mem_append_right _ (List.mem_of_getElem? (i := 76) rfl)))))))
theorem mw_X11_leave : ax_mwf mi_X11_leave := Or.inr (List.mem_append_right (k2_sels lw_privs) (show _ ∈ tables_1_1 ++ (tables_1_2 ++ (tables_1_3 ++ (tables_1_4 ++ (tables_1_5 ++ tables_1_6)))) from List.mem_append_right _ (List.mem_append_right _ (List.mem_append_right _ (List.mem_append_right _ (List.mem_append_right _ (List.mem_of_getElem? (i := 84) rfl)))))))
theorem mw_X11_count : ax_mwf mi_X11_count := Or.inr (List.mem_append_right (k2_sels lw_privs) (show _ ∈ tables_1_1 ++ (tables_1_2 ++ (tables_1_3 ++ (tables_1_4 ++ (tables_1_5 ++ tables_1_6)))) from List.mem_append_right _ (List.mem_append_right _ (List.mem_append_right _ (List.mem_append_right _ (List.mem_append_right _ (List.mem_of_getElem? (i := 88) rfl)))))))
theorem mw_J6_bitCount_0f7a4 : ax_mwf mi_J6_bitCount_0f7a4 := Or.inr (List.mem_append_right (k2_sels lw_privs) (show _ ∈ tables_1_1 ++ (tables_1_2 ++ (tables_1_3 ++ (tables_1_4 ++ (tables_1_5 ++ tables_1_6)))) from List.mem_append_right _ (List.mem_append_right _ (List.mem_append_right _ (List.mem_append_left _ (List.mem_of_getElem? (i := 89) rfl))))))
theorem mw_J9_abs_0f7a4 : ax_mwf mi_J9_abs_0f7a4 := Or.inr (List.mem_append_right (k2_sels lw_privs) (show _ ∈ tables_1_1 ++ (tables_1_2 ++ (tables_1_3 ++ (tables_1_4 ++ (tables_1_5 ++ tables_1_6)))) from List.mem_append_right _ (List.mem_append_right _ (List.mem_append_left _ (List.mem_of_getElem? (i := 74) rfl)))))
theorem mw_J9_max_7cf53 : ax_mwf mi_J9_max_7cf53 := Or.inr (List.mem_append_right (k2_sels lw_privs) (show _ ∈ tables_1_1 ++ (tables_1_2 ++ (tables_1_3 ++ (tables_1_4 ++ (tables_1_5 ++ tables_1_6)))) from List.mem_append_right _ (List.mem_append_left _ (List.mem_of_getElem? (i := 151) rfl))))
theorem mw_J9_min_7cf53 : ax_mwf mi_J9_min_7cf53 := Or.inr (List.mem_append_right (k2_sels lw_privs) (show _ ∈ tables_1_1 ++ (tables_1_2 ++ (tables_1_3 ++ (tables_1_4 ++ (tables_1_5 ++ tables_1_6)))) from List.mem_append_right _ (List.mem_append_left _ (List.mem_of_getElem? (i := 182) rfl))))
theorem mw_all_0 : ∀ m ∈ [mi_L_law, mi_X0_at, mi_X0_replace, mi_X0_ofAllWards, mi_X1_copy, mi_X1_clearSums, mi_X1_put, mi_X1_passHours, mi_X1_passHour, mi_X1_serve, mi_X1_longestWait, mi_X1_waitingIn, mi_X1_roam, mi_X1_tire, mi_X2_add, mi_X2_clear], ax_mwf m := List.forall_mem_cons.mpr ⟨mw_L_law, List.forall_mem_cons.mpr ⟨mw_X0_at, List.forall_mem_cons.mpr ⟨mw_X0_replace, List.forall_mem_cons.mpr ⟨mw_X0_ofAllWards, List.forall_mem_cons.mpr ⟨mw_X1_copy, List.forall_mem_cons.mpr ⟨mw_X1_clearSums, List.forall_mem_cons.mpr ⟨mw_X1_put, List.forall_mem_cons.mpr ⟨mw_X1_passHours, List.forall_mem_cons.mpr ⟨mw_X1_passHour, List.forall_mem_cons.mpr ⟨mw_X1_serve, List.forall_mem_cons.mpr ⟨mw_X1_longestWait, List.forall_mem_cons.mpr ⟨mw_X1_waitingIn, List.forall_mem_cons.mpr ⟨mw_X1_roam, List.forall_mem_cons.mpr ⟨mw_X1_tire, List.forall_mem_cons.mpr ⟨mw_X2_add, List.forall_mem_cons.mpr ⟨mw_X2_clear, fun _ h => absurd h List.not_mem_nil⟩⟩⟩⟩⟩⟩⟩⟩⟩⟩⟩⟩⟩⟩⟩⟩
theorem mw_all_1 : ∀ m ∈ [mi_X2_arrange, mi_X2_asksTogether, mi_X2_hourOf, mi_X2_everyFleet, mi_X2_lowestBit, mi_X2_placeAll, mi_X2_takersOf, mi_X2_rateHour, mi_X2_placeHour, mi_X3_placeOf, mi_X3_append, mi_X3_removeAt, mi_X4_has, mi_X4_add, mi_X4_debt, mi_X4_divide], ax_mwf m := List.forall_mem_cons.mpr ⟨mw_X2_arrange, List.forall_mem_cons.mpr ⟨mw_X2_asksTogether, List.forall_mem_cons.mpr ⟨mw_X2_hourOf, List.forall_mem_cons.mpr ⟨mw_X2_everyFleet, List.forall_mem_cons.mpr ⟨mw_X2_lowestBit, List.forall_mem_cons.mpr ⟨mw_X2_placeAll, List.forall_mem_cons.mpr ⟨mw_X2_takersOf, List.forall_mem_cons.mpr ⟨mw_X2_rateHour, List.forall_mem_cons.mpr ⟨mw_X2_placeHour, List.forall_mem_cons.mpr ⟨mw_X3_placeOf, List.forall_mem_cons.mpr ⟨mw_X3_append, List.forall_mem_cons.mpr ⟨mw_X3_removeAt, List.forall_mem_cons.mpr ⟨mw_X4_has, List.forall_mem_cons.mpr ⟨mw_X4_add, List.forall_mem_cons.mpr ⟨mw_X4_debt, List.forall_mem_cons.mpr ⟨mw_X4_divide, fun _ h => absurd h List.not_mem_nil⟩⟩⟩⟩⟩⟩⟩⟩⟩⟩⟩⟩⟩⟩⟩⟩
theorem mw_all_2 : ∀ m ∈ [mi_X4_settle, mi_X4_isOf, mi_X4_rankDebt, mi_X4_payRank, mi_X4_shareRank, mi_X5_add, mi_X5_copy, mi_X5_price, mi_X5_timesDue, mi_X6_has, mi_X6_add, mi_X6_replaceRent, mi_X6_mayStand, mi_X6_restingWard, mi_X6_hoursDue, mi_X6_worth], ax_mwf m := List.forall_mem_cons.mpr ⟨mw_X4_settle, List.forall_mem_cons.mpr ⟨mw_X4_isOf, List.forall_mem_cons.mpr ⟨mw_X4_rankDebt, List.forall_mem_cons.mpr ⟨mw_X4_payRank, List.forall_mem_cons.mpr ⟨mw_X4_shareRank, List.forall_mem_cons.mpr ⟨mw_X5_add, List.forall_mem_cons.mpr ⟨mw_X5_copy, List.forall_mem_cons.mpr ⟨mw_X5_price, List.forall_mem_cons.mpr ⟨mw_X5_timesDue, List.forall_mem_cons.mpr ⟨mw_X6_has, List.forall_mem_cons.mpr ⟨mw_X6_add, List.forall_mem_cons.mpr ⟨mw_X6_replaceRent, List.forall_mem_cons.mpr ⟨mw_X6_mayStand, List.forall_mem_cons.mpr ⟨mw_X6_restingWard, List.forall_mem_cons.mpr ⟨mw_X6_hoursDue, List.forall_mem_cons.mpr ⟨mw_X6_worth, fun _ h => absurd h List.not_mem_nil⟩⟩⟩⟩⟩⟩⟩⟩⟩⟩⟩⟩⟩⟩⟩⟩
theorem mw_all_3 : ∀ m ∈ [mi_X7_has, mi_X7_detail, mi_X7_keep, mi_X7_search, mi_X7_fits, mi_X8_hasDriver, mi_X8_addDriver, mi_X8_placeOfDriver, mi_X8_assign, mi_X8_fillFree, mi_X8_listFreePlaces, mi_X8_listFreeDrivers, mi_X8_fillPlace, mi_X8_mostWorths, mi_X9_append, mi_X9_read], ax_mwf m := List.forall_mem_cons.mpr ⟨mw_X7_has, List.forall_mem_cons.mpr ⟨mw_X7_detail, List.forall_mem_cons.mpr ⟨mw_X7_keep, List.forall_mem_cons.mpr ⟨mw_X7_search, List.forall_mem_cons.mpr ⟨mw_X7_fits, List.forall_mem_cons.mpr ⟨mw_X8_hasDriver, List.forall_mem_cons.mpr ⟨mw_X8_addDriver, List.forall_mem_cons.mpr ⟨mw_X8_placeOfDriver, List.forall_mem_cons.mpr ⟨mw_X8_assign, List.forall_mem_cons.mpr ⟨mw_X8_fillFree, List.forall_mem_cons.mpr ⟨mw_X8_listFreePlaces, List.forall_mem_cons.mpr ⟨mw_X8_listFreeDrivers, List.forall_mem_cons.mpr ⟨mw_X8_fillPlace, List.forall_mem_cons.mpr ⟨mw_X8_mostWorths, List.forall_mem_cons.mpr ⟨mw_X9_append, List.forall_mem_cons.mpr ⟨mw_X9_read, fun _ h => absurd h List.not_mem_nil⟩⟩⟩⟩⟩⟩⟩⟩⟩⟩⟩⟩⟩⟩⟩⟩
theorem mw_all_4 : ∀ m ∈ [mi_X9_readClauses, mi_X9_readClause, mi_X9_readWord, mi_X9_wordOf, mi_X9_sameBytes, mi_X9_readByte, mi_X9_readDigit, mi_X9_readNumber, mi_X10_plate, mi_X10_driver, mi_X10_drive, mi_X10_about, mi_X10_driven, mi_X10_fill, mi_X10_feed, mi_X10_law], ax_mwf m := List.forall_mem_cons.mpr ⟨mw_X9_readClauses, List.forall_mem_cons.mpr ⟨mw_X9_readClause, List.forall_mem_cons.mpr ⟨mw_X9_readWord, List.forall_mem_cons.mpr ⟨mw_X9_wordOf, List.forall_mem_cons.mpr ⟨mw_X9_sameBytes, List.forall_mem_cons.mpr ⟨mw_X9_readByte, List.forall_mem_cons.mpr ⟨mw_X9_readDigit, List.forall_mem_cons.mpr ⟨mw_X9_readNumber, List.forall_mem_cons.mpr ⟨mw_X10_plate, List.forall_mem_cons.mpr ⟨mw_X10_driver, List.forall_mem_cons.mpr ⟨mw_X10_drive, List.forall_mem_cons.mpr ⟨mw_X10_about, List.forall_mem_cons.mpr ⟨mw_X10_driven, List.forall_mem_cons.mpr ⟨mw_X10_fill, List.forall_mem_cons.mpr ⟨mw_X10_feed, List.forall_mem_cons.mpr ⟨mw_X10_law, fun _ h => absurd h List.not_mem_nil⟩⟩⟩⟩⟩⟩⟩⟩⟩⟩⟩⟩⟩⟩⟩⟩
theorem mw_all_5 : ∀ m ∈ [mi_X10_fare, mi_X10_ask, mi_X10_stand, mi_X10_step, mi_X10_tried, mi_X10_found, mi_X10_rode, mi_X10_value, mi_X10_rent, mi_X10_loan, mi_X10_owes, mi_X10_fails, mi_X10_part, mi_X10_over, mi_X10_rescue, mi_X10_swap], ax_mwf m := List.forall_mem_cons.mpr ⟨mw_X10_fare, List.forall_mem_cons.mpr ⟨mw_X10_ask, List.forall_mem_cons.mpr ⟨mw_X10_stand, List.forall_mem_cons.mpr ⟨mw_X10_step, List.forall_mem_cons.mpr ⟨mw_X10_tried, List.forall_mem_cons.mpr ⟨mw_X10_found, List.forall_mem_cons.mpr ⟨mw_X10_rode, List.forall_mem_cons.mpr ⟨mw_X10_value, List.forall_mem_cons.mpr ⟨mw_X10_rent, List.forall_mem_cons.mpr ⟨mw_X10_loan, List.forall_mem_cons.mpr ⟨mw_X10_owes, List.forall_mem_cons.mpr ⟨mw_X10_fails, List.forall_mem_cons.mpr ⟨mw_X10_part, List.forall_mem_cons.mpr ⟨mw_X10_over, List.forall_mem_cons.mpr ⟨mw_X10_rescue, List.forall_mem_cons.mpr ⟨mw_X10_swap, fun _ h => absurd h List.not_mem_nil⟩⟩⟩⟩⟩⟩⟩⟩⟩⟩⟩⟩⟩⟩⟩⟩
theorem mw_all_6 : ∀ m ∈ [mi_X10_unswap, mi_X10_spread, mi_X10_join, mi_X10_call, mi_X10_leave, mi_X10_count, mi_X10_within, mi_X10_isWard, mi_X10_isRent, mi_X10_isTerm, mi_X10_isPartable, mi_X10_isFailing, mi_X11_isIn, mi_X11_isPlate, mi_X11_isDriver, mi_X11_isWard], ax_mwf m := List.forall_mem_cons.mpr ⟨mw_X10_unswap, List.forall_mem_cons.mpr ⟨mw_X10_spread, List.forall_mem_cons.mpr ⟨mw_X10_join, List.forall_mem_cons.mpr ⟨mw_X10_call, List.forall_mem_cons.mpr ⟨mw_X10_leave, List.forall_mem_cons.mpr ⟨mw_X10_count, List.forall_mem_cons.mpr ⟨mw_X10_within, List.forall_mem_cons.mpr ⟨mw_X10_isWard, List.forall_mem_cons.mpr ⟨mw_X10_isRent, List.forall_mem_cons.mpr ⟨mw_X10_isTerm, List.forall_mem_cons.mpr ⟨mw_X10_isPartable, List.forall_mem_cons.mpr ⟨mw_X10_isFailing, List.forall_mem_cons.mpr ⟨mw_X11_isIn, List.forall_mem_cons.mpr ⟨mw_X11_isPlate, List.forall_mem_cons.mpr ⟨mw_X11_isDriver, List.forall_mem_cons.mpr ⟨mw_X11_isWard, fun _ h => absurd h List.not_mem_nil⟩⟩⟩⟩⟩⟩⟩⟩⟩⟩⟩⟩⟩⟩⟩⟩
theorem mw_all_7 : ∀ m ∈ [mi_X11_plate, mi_X11_driver, mi_X11_frees, mi_X11_driverOf, mi_X11_gives, mi_X11_drive, mi_X11_about, mi_X11_driven, mi_X11_drives, mi_X11_worthOf, mi_X11_fill, mi_X11_feed, mi_X11_sign, mi_X11_signOf, mi_X11_word, mi_X11_isDigit], ax_mwf m := List.forall_mem_cons.mpr ⟨mw_X11_plate, List.forall_mem_cons.mpr ⟨mw_X11_driver, List.forall_mem_cons.mpr ⟨mw_X11_frees, List.forall_mem_cons.mpr ⟨mw_X11_driverOf, List.forall_mem_cons.mpr ⟨mw_X11_gives, List.forall_mem_cons.mpr ⟨mw_X11_drive, List.forall_mem_cons.mpr ⟨mw_X11_about, List.forall_mem_cons.mpr ⟨mw_X11_driven, List.forall_mem_cons.mpr ⟨mw_X11_drives, List.forall_mem_cons.mpr ⟨mw_X11_worthOf, List.forall_mem_cons.mpr ⟨mw_X11_fill, List.forall_mem_cons.mpr ⟨mw_X11_feed, List.forall_mem_cons.mpr ⟨mw_X11_sign, List.forall_mem_cons.mpr ⟨mw_X11_signOf, List.forall_mem_cons.mpr ⟨mw_X11_word, List.forall_mem_cons.mpr ⟨mw_X11_isDigit, fun _ h => absurd h List.not_mem_nil⟩⟩⟩⟩⟩⟩⟩⟩⟩⟩⟩⟩⟩⟩⟩⟩
theorem mw_all_8 : ∀ m ∈ [mi_X11_takes, mi_X11_clause, mi_X11_parses, mi_X11_law, mi_X11_fareOf, mi_X11_fare, mi_X11_ask, mi_X11_mayStand, mi_X11_stand, mi_X11_waiting, mi_X11_runs, mi_X11_takesOne, mi_X11_roams, mi_X11_goesBy, mi_X11_step, mi_X11_tookAll], ax_mwf m := List.forall_mem_cons.mpr ⟨mw_X11_takes, List.forall_mem_cons.mpr ⟨mw_X11_clause, List.forall_mem_cons.mpr ⟨mw_X11_parses, List.forall_mem_cons.mpr ⟨mw_X11_law, List.forall_mem_cons.mpr ⟨mw_X11_fareOf, List.forall_mem_cons.mpr ⟨mw_X11_fare, List.forall_mem_cons.mpr ⟨mw_X11_ask, List.forall_mem_cons.mpr ⟨mw_X11_mayStand, List.forall_mem_cons.mpr ⟨mw_X11_stand, List.forall_mem_cons.mpr ⟨mw_X11_waiting, List.forall_mem_cons.mpr ⟨mw_X11_runs, List.forall_mem_cons.mpr ⟨mw_X11_takesOne, List.forall_mem_cons.mpr ⟨mw_X11_roams, List.forall_mem_cons.mpr ⟨mw_X11_goesBy, List.forall_mem_cons.mpr ⟨mw_X11_step, List.forall_mem_cons.mpr ⟨mw_X11_tookAll, fun _ h => absurd h List.not_mem_nil⟩⟩⟩⟩⟩⟩⟩⟩⟩⟩⟩⟩⟩⟩⟩⟩
theorem mw_all_9 : ∀ m ∈ [mi_X11_tried, mi_X11_found, mi_X11_rode, mi_X11_areTerms, mi_X11_worth, mi_X11_value, mi_X11_rent, mi_X11_loan, mi_X11_owed, mi_X11_owes, mi_X11_fails, mi_X11_parts, mi_X11_part, mi_X11_over, mi_X11_rescue, mi_X11_swap], ax_mwf m := List.forall_mem_cons.mpr ⟨mw_X11_tried, List.forall_mem_cons.mpr ⟨mw_X11_found, List.forall_mem_cons.mpr ⟨mw_X11_rode, List.forall_mem_cons.mpr ⟨mw_X11_areTerms, List.forall_mem_cons.mpr ⟨mw_X11_worth, List.forall_mem_cons.mpr ⟨mw_X11_value, List.forall_mem_cons.mpr ⟨mw_X11_rent, List.forall_mem_cons.mpr ⟨mw_X11_loan, List.forall_mem_cons.mpr ⟨mw_X11_owed, List.forall_mem_cons.mpr ⟨mw_X11_owes, List.forall_mem_cons.mpr ⟨mw_X11_fails, List.forall_mem_cons.mpr ⟨mw_X11_parts, List.forall_mem_cons.mpr ⟨mw_X11_part, List.forall_mem_cons.mpr ⟨mw_X11_over, List.forall_mem_cons.mpr ⟨mw_X11_rescue, List.forall_mem_cons.mpr ⟨mw_X11_swap, fun _ h => absurd h List.not_mem_nil⟩⟩⟩⟩⟩⟩⟩⟩⟩⟩⟩⟩⟩⟩⟩⟩
theorem mw_all_10 : ∀ m ∈ [mi_X11_unswap, mi_X11_asksAt, mi_X11_looks, mi_X11_hourFrom, mi_X11_goesOn, mi_X11_spreads, mi_X11_spread, mi_X11_placeOf, mi_X11_goesFrom, mi_X11_join, mi_X11_call, mi_X11_leave, mi_X11_count, mi_J6_bitCount_0f7a4, mi_J9_abs_0f7a4, mi_J9_max_7cf53], ax_mwf m := List.forall_mem_cons.mpr ⟨mw_X11_unswap, List.forall_mem_cons.mpr ⟨mw_X11_asksAt, List.forall_mem_cons.mpr ⟨mw_X11_looks, List.forall_mem_cons.mpr ⟨mw_X11_hourFrom, List.forall_mem_cons.mpr ⟨mw_X11_goesOn, List.forall_mem_cons.mpr ⟨mw_X11_spreads, List.forall_mem_cons.mpr ⟨mw_X11_spread, List.forall_mem_cons.mpr ⟨mw_X11_placeOf, List.forall_mem_cons.mpr ⟨mw_X11_goesFrom, List.forall_mem_cons.mpr ⟨mw_X11_join, List.forall_mem_cons.mpr ⟨mw_X11_call, List.forall_mem_cons.mpr ⟨mw_X11_leave, List.forall_mem_cons.mpr ⟨mw_X11_count, List.forall_mem_cons.mpr ⟨mw_J6_bitCount_0f7a4, List.forall_mem_cons.mpr ⟨mw_J9_abs_0f7a4, List.forall_mem_cons.mpr ⟨mw_J9_max_7cf53, fun _ h => absurd h List.not_mem_nil⟩⟩⟩⟩⟩⟩⟩⟩⟩⟩⟩⟩⟩⟩⟩⟩
theorem mw_all_11 : ∀ m ∈ [mi_J9_min_7cf53], ax_mwf m := List.forall_mem_cons.mpr ⟨mw_J9_min_7cf53, fun _ h => absurd h List.not_mem_nil⟩
theorem mw_all : ∀ m ∈ ax_mis, ax_mwf m := List.forall_mem_append.mpr ⟨mw_all_0, List.forall_mem_append.mpr ⟨mw_all_1, List.forall_mem_append.mpr ⟨mw_all_2, List.forall_mem_append.mpr ⟨mw_all_3, List.forall_mem_append.mpr ⟨mw_all_4, List.forall_mem_append.mpr ⟨mw_all_5, List.forall_mem_append.mpr ⟨mw_all_6, List.forall_mem_append.mpr ⟨mw_all_7, List.forall_mem_append.mpr ⟨mw_all_8, List.forall_mem_append.mpr ⟨mw_all_9, List.forall_mem_append.mpr ⟨mw_all_10, mw_all_11⟩⟩⟩⟩⟩⟩⟩⟩⟩⟩⟩
end
section
/-! abstract locals, values and words against the machine's -/
theorem ax_vm_cat (μ : Nat → Nat) (v : Value) : (ax_vm μ v).category = v.category := by cases v <;> rfl
def ax_lv (μ : Nat → Nat) (nL : Nat) (L : ax_Lc) (ls : Array Slot) : Prop := ls.size = nL ∧ L.length ≤ nL ∧ lv_wf ls ∧ ∀ i v, ax_ld L i = some v → ls[i]? = some (.val (ax_vm μ v))
def ax_ls (μ : Nat → Nat) : Nat → ax_Lc → List (Nat × Value)
  | _, [] => []
  | j, none :: L => ax_ls μ (j + 1) L
  | j, some v :: L => (j, ax_vm μ v) :: ax_ls μ (j + 1) L
theorem ax_ls_mem (μ : Nat → Nat) : ∀ (L : ax_Lc) (j : Nat) (q : Nat × Value), q ∈ ax_ls μ j L ↔ ∃ i v, q = (j + i, ax_vm μ v) ∧ ax_ld L i = some v
  | [], j, q => by simp [ax_ls, ax_ld]
  | none :: L, j, q => by
    rw [ax_ls, ax_ls_mem μ L (j + 1) q]
    constructor
    · rintro ⟨i, v, h1, h2⟩
      exact ⟨i + 1, v, by rw [h1, Nat.add_assoc, Nat.add_comm 1 i], h2⟩
    · rintro ⟨i, v, h1, h2⟩
      match i, h1, h2 with
      | 0, h1, h2 => cases h2
      | i + 1, h1, h2 => exact ⟨i, v, by rw [h1, Nat.add_assoc, Nat.add_comm 1 i], h2⟩
  | some w :: L, j, q => by
    rw [ax_ls, List.mem_cons, ax_ls_mem μ L (j + 1) q]
    constructor
    · rintro (h | ⟨i, v, h1, h2⟩)
      · exact ⟨0, w, h, rfl⟩
      · exact ⟨i + 1, v, by rw [h1, Nat.add_assoc, Nat.add_comm 1 i], h2⟩
    · rintro ⟨i, v, h1, h2⟩
      match i, h1, h2 with
      | 0, h1, h2 => cases h2; exact Or.inl h1
      | i + 1, h1, h2 => exact Or.inr ⟨i, v, by rw [h1, Nat.add_assoc, Nat.add_comm 1 i], h2⟩
theorem ax_lv_has {μ : Nat → Nat} {nL : Nat} {L : ax_Lc} {ls : Array Slot} (h : ax_lv μ nL L ls) : lv_has ls nL (ax_ls μ 0 L) := by
  refine ⟨h.1, h.2.2.1, fun q hq => ?_⟩
  obtain ⟨i, v, rfl, h2⟩ := (ax_ls_mem μ L 0 q).mp hq
  rw [Nat.zero_add]
  exact h.2.2.2 i v h2
theorem ax_sv_len : ∀ (L : ax_Lc) (i : Nat) (v : Value), (ax_sv L i v).length = L.length
  | [], _, _ => rfl
  | _ :: _, 0, _ => rfl
  | o :: L, i + 1, v => by simp only [ax_sv, List.length_cons, ax_sv_len L i v]
theorem ax_cl_len : ∀ (L : ax_Lc) (i : Nat), (ax_cl L i).length = L.length
  | [], _ => rfl
  | _ :: _, 0 => rfl
  | o :: L, i + 1 => by simp only [ax_cl, List.length_cons, ax_cl_len L i]
theorem ax_sv_ld : ∀ (L : ax_Lc) (i : Nat) (v : Value) (j : Nat) (w : Value), ax_ld (ax_sv L i v) j = some w → (j = i ∧ w = v) ∨ (j ≠ i ∧ ax_ld L j = some w ∧ (j + 1 = i → w.category ≠ 2))
  | [], _, _, _, _, h => by cases h
  | _ :: _, 0, v, 0, w, h => by cases h; exact Or.inl ⟨rfl, rfl⟩
  | _ :: L, 0, v, j + 1, w, h => Or.inr ⟨Nat.succ_ne_zero j, h, fun q => by omega⟩
  | o :: L, i + 1, v, 0, w, h => by
    have h : ax_dr o i = some w := h
    refine Or.inr ⟨fun q => by omega, ?_, fun q => ?_⟩
    · match i, o, h with
      | 0, some (.long _), h => cases h
      | 0, some (.double _), h => cases h
      | 0, none, h => exact h
      | 0, some (.int _), h => exact h
      | 0, some (.float _), h => exact h
      | 0, some .null, h => exact h
      | 0, some (.ref _), h => exact h
      | 0, some (.retAddr _), h => exact h
      | i + 1, o, h => exact h
    · have hi : i = 0 := by omega
      subst hi
      match o, h with
      | some (.int _), h => cases h; simp [Value.category]
      | some (.float _), h => cases h; simp [Value.category]
      | some .null, h => cases h; simp [Value.category]
      | some (.ref _), h => cases h; simp [Value.category]
      | some (.retAddr _), h => cases h; simp [Value.category]
  | o :: L, i + 1, v, j + 1, w, h => by
    rcases ax_sv_ld L i v j w h with ⟨h1, h2⟩ | ⟨h1, h2, h3⟩
    · exact Or.inl ⟨by omega, h2⟩
    · exact Or.inr ⟨by omega, h2, fun q => h3 (by omega)⟩
theorem ax_cl_ld : ∀ (L : ax_Lc) (i j : Nat) (w : Value), ax_ld (ax_cl L i) j = some w → j ≠ i ∧ ax_ld L j = some w
  | [], _, _, _, h => by cases h
  | _ :: _, 0, 0, w, h => by cases h
  | _ :: L, 0, j + 1, w, h => ⟨Nat.succ_ne_zero j, h⟩
  | o :: L, i + 1, 0, w, h => ⟨by omega, h⟩
  | o :: L, i + 1, j + 1, w, h => ⟨by have := (ax_cl_ld L i j w h).1; omega, (ax_cl_ld L i j w h).2⟩
theorem ax_mk_ld : ∀ (bs : List Bool) (L : ax_Lc) (j : Nat) (w : Value), ax_ld (ax_mk bs L) j = some w → ax_ld L j = some w
  | [], L, j, w, h => by unfold ax_mk at h; exact h
  | b :: bs, [], j, w, h => by cases h
  | b :: bs, o :: L, 0, w, h => by
    have h : cond b o none = some w := h
    cases b
    · cases h
    · exact h
  | b :: bs, o :: L, j + 1, w, h => ax_mk_ld bs L j w h
theorem ax_mk_len : ∀ (bs : List Bool) (L : ax_Lc), (ax_mk bs L).length = L.length
  | [], L => by unfold ax_mk; rfl
  | b :: bs, [] => rfl
  | b :: bs, o :: L => by simp only [ax_mk, List.length_cons, ax_mk_len bs L]
/-- fewer locals -/
theorem ax_lv.sub {μ : Nat → Nat} {nL : Nat} {L L' : ax_Lc} {ls : Array Slot} (h : ax_lv μ nL L ls) (hl : L'.length = L.length) (hs : ∀ j w, ax_ld L' j = some w → ax_ld L j = some w) : ax_lv μ nL L' ls :=
  ⟨h.1, by rw [hl]; exact h.2.1, h.2.2.1, fun i v hv => h.2.2.2 i v (hs i v hv)⟩
theorem ax_lv.sv {μ : Nat → Nat} {nL : Nat} {L : ax_Lc} {ls ls' : Array Slot} {i : Nat} {v : Value} (h : ax_lv μ nL L ls) (h' : lv_has ls' nL ((i, ax_vm μ v) :: (ax_ls μ 0 L).filter (fun q => !(q.1 == i) && !(q.1 + 1 == i && q.2.category == 2)))) : ax_lv μ nL (ax_sv L i v) ls' := by
  refine ⟨h'.1, by rw [ax_sv_len]; exact h.2.1, h'.2.1, fun j w hw => ?_⟩
  rcases ax_sv_ld L i v j w hw with ⟨rfl, rfl⟩ | ⟨h1, h2, h3⟩
  · exact h'.2.2 _ List.mem_cons_self
  · refine h'.2.2 (j, ax_vm μ w) (List.mem_cons_of_mem _ (List.mem_filter.mpr ⟨(ax_ls_mem μ L 0 _).mpr ⟨j, w, by rw [Nat.zero_add], h2⟩, ?_⟩))
    have e1 : (j == i) = false := by simpa using h1
    simp only [e1, Bool.not_false, Bool.true_and, Bool.not_eq_true', Bool.and_eq_false_iff, beq_eq_false_iff_ne]
    by_cases hj : j + 1 = i
    · exact Or.inr (by rw [ax_vm_cat]; exact h3 hj)
    · exact Or.inl hj
theorem ax_lv.sv2 {μ : Nat → Nat} {nL : Nat} {L : ax_Lc} {ls ls' : Array Slot} {i : Nat} {v : Value} (h : ax_lv μ nL L ls) (h' : lv_has ls' nL ((i, ax_vm μ v) :: (ax_ls μ 0 L).filter (fun q => !(q.1 == i) && (!(q.1 == i + 1) && !(q.1 + 1 == i && q.2.category == 2))))) : ax_lv μ nL (ax_cl (ax_sv L i v) (i + 1)) ls' := by
  refine ⟨h'.1, by rw [ax_cl_len, ax_sv_len]; exact h.2.1, h'.2.1, fun j w hw => ?_⟩
  obtain ⟨h0, hw⟩ := ax_cl_ld _ _ _ _ hw
  rcases ax_sv_ld L i v j w hw with ⟨rfl, rfl⟩ | ⟨h1, h2, h3⟩
  · exact h'.2.2 _ List.mem_cons_self
  · refine h'.2.2 (j, ax_vm μ w) (List.mem_cons_of_mem _ (List.mem_filter.mpr ⟨(ax_ls_mem μ L 0 _).mpr ⟨j, w, by rw [Nat.zero_add], h2⟩, ?_⟩))
    have e1 : (j == i) = false := by simpa using h1
    have e2 : (j == i + 1) = false := by simpa using h0
    simp only [e1, e2, Bool.not_false, Bool.true_and, Bool.not_eq_true', Bool.and_eq_false_iff, beq_eq_false_iff_ne]
    by_cases hj : j + 1 = i
    · exact Or.inr (by rw [ax_vm_cat]; exact h3 hj)
    · exact Or.inl hj
theorem ax_c2_cat (v : Value) : v.category = cond (ax_c2 v) 2 1 := by cases v <;> rfl
theorem ax_en_ld (μ : Nat → Nat) : ∀ (as : List Value) (n i0 j : Nat) (w : Value), ax_ld (ax_en n as) j = some w → (i0 + j, ax_vm μ w) ∈ lv_args i0 (as.map (ax_vm μ))
  | [], n, i0, j, w, h => by
    exfalso
    have : ∀ (n j : Nat), ax_ld (List.replicate n none) j = none := by
      intro n
      induction n with
      | zero => intro j; rfl
      | succ n ih =>
        intro j
        cases j with
        | zero => rfl
        | succ j => exact ih j
    have e : ax_en n [] = List.replicate n none := by unfold ax_en; rfl
    rw [e, this] at h
    cases h
  | v :: vs, 0, i0, j, w, h => by cases h
  | v :: vs, 1, i0, j, w, h => by
    match j, h with
    | 0, h => cases h; exact List.mem_cons_self
    | j + 1, h => cases h
  | v :: vs, n + 2, i0, j, w, h => by
    have h : ax_ld (cond (ax_c2 v) (some v :: none :: ax_en n vs) (some v :: ax_en (n + 1) vs)) j = some w := h
    show _ ∈ (i0, ax_vm μ v) :: lv_args (if (ax_vm μ v).category = 2 then i0 + 2 else i0 + 1) (vs.map (ax_vm μ))
    rw [ax_vm_cat, ax_c2_cat]
    cases hc : ax_c2 v with
    | true =>
      rw [hc] at h
      match j, h with
      | 0, h => cases h; exact List.mem_cons_self
      | 1, h => cases h
      | j + 2, h =>
        have := ax_en_ld μ vs n (i0 + 2) j w h
        rw [show i0 + (j + 2) = i0 + 2 + j by omega]
        exact List.mem_cons_of_mem _ this
    | false =>
      rw [hc] at h
      match j, h with
      | 0, h => cases h; exact List.mem_cons_self
      | j + 1, h =>
        have := ax_en_ld μ vs (n + 1) (i0 + 1) j w h
        rw [show i0 + (j + 1) = i0 + 1 + j by omega]
        exact List.mem_cons_of_mem _ this
theorem ax_en_len : ∀ (as : List Value) (n : Nat), (ax_en n as).length ≤ n
  | [], n => by unfold ax_en; simp
  | v :: vs, 0 => by simp [ax_en]
  | v :: vs, 1 => by simp [ax_en]
  | v :: vs, n + 2 => by
    show (cond (ax_c2 v) (some v :: none :: ax_en n vs) (some v :: ax_en (n + 1) vs)).length ≤ n + 2
    cases ax_c2 v with
    | true => have := ax_en_len vs n; simp only [cond_true, List.length_cons]; omega
    | false => have := ax_en_len vs (n + 1); simp only [cond_false, List.length_cons]; omega
theorem ax_cat_sum (μ : Nat → Nat) : ∀ st : List Value, ((st.map (ax_vm μ)).map fun v => v.category).sum = ax_cat st
  | [] => rfl
  | v :: r => by
    simp only [List.map_cons, List.sum_cons, ax_cat_sum μ r, ax_vm_cat]
    cases v <;> rfl
theorem ax_sl_len : ∀ vs : List Value, (lg_sl vs).length = (vs.map fun v => v.category).sum
  | [] => rfl
  | v :: r => by
    have ih := ax_sl_len r
    have e : lg_sl (v :: r) = (if v.category = 2 then [.val v, .second] else [.val v]) ++ lg_sl r := rfl
    rw [e, List.length_append, ih, List.map_cons, List.sum_cons]
    rcases lv_cat v with h | h <;> simp [h]
end
section
/-! a method's body in the machine: its context, its contract out of the abstract judgement, calls -/
def ax_ln : List Nat := [5, 5, 6, 5, 5, 4]
def ax_sx : List String := ["base ", "step ", "night ", "ward ", "wait ", "cap "]
/-- the six texts and the two statics of the library -/
def ax_str (μ : Nat → Nat) (A : Nat → Prop) (U : State) : Prop :=
  (∀ i, i < 6 → vk_R "PlateHire$Tape" (75 + 2 * i) (ax_sx.getD i "") (μ (1000 + i)) U) ∧
  (∃ adV : Nat → Nat, vk_S 6 ax_ln ax_tx (fun i => μ (1000 + i)) adV A U U.heap) ∧
  va_Z "java/lang/String" "COMPACT_STRINGS" "Z" (.int 1) A U U.heap ∧
  va_Zq "jdk/internal/util/Preconditions" "SIOOBE_FORMATTER" "Ljava/util/function/BiFunction;" A U U.heap
theorem ax_str.go {μ : Nat → Nat} {A B : Nat → Prop} {s U : State} {H : Heap} {locs : List Loc} (h : ax_str μ A s) (hW : s.WarmedH U.vm) (hU : U.heap = H) (hS : va_S A s.heap H locs) (hAB : ∀ q, B q → A q) : ax_str μ B U := by
  obtain ⟨h1, ⟨adV, h2⟩, h3, h4⟩ := h
  have hq : ∀ a, a < s.heap.size → ¬ A a → U.heap[a]? = s.heap[a]? := by rw [hU]; exact hS.2.1
  exact ⟨fun i hi => (h1 i hi).warm hW, ⟨adV, ((h2.kept hq).narrow hAB).moved hW.alike⟩, ((h3.kept hq).narrow hAB).moved hW.alike, ((h4.kept hq).narrow hAB).moved hW.alike⟩
theorem ax_str.same {μ : Nat → Nat} {A : Nat → Prop} {u U : State} (h : ax_str μ A u) (hv : U.vm = u.vm) (hh : U.heap = u.heap) : ax_str μ A U := by
  obtain ⟨h1, ⟨adV, h2⟩, h3, h4⟩ := h
  have ha : u.vm.Alike U.vm := by rw [hv]; exact Vm.Alike.refl u.vm
  exact ⟨fun i hi => (h1 i hi).same hv, ⟨adV, by rw [hh]; exact h2.moved ha⟩, by rw [hh]; exact h3.moved ha, by rw [hh]; exact h4.moved ha⟩
def ax_cx (m0 : ax_Mi) (p : Program) (s : State) (m : MethodId) (args : Array Value) (c : Code) (R : Room) (cells slots : Nat) (μ : Nat → Nat) (cI cZ : ClassId) (D : va_G) (A : Nat → Prop) (scr : Option (Nat × (Nat → Int32))) : Prop :=
  p.tables.exec = Jvm.exec ∧ c.code = m0.2.1 ∧ c.maxLocals = m0.2.2.1 ∧ s.vm.findClass (ax_cnm m0.2.2.2.2.1) = some m.cls ∧ (∀ w ∈ lw_w, w.before args s = true) ∧ va_K D vwCl [(cI, .int), (cZ, .boolean)] s ∧ ax_ad μ A ∧ ax_str μ A s ∧ (m0.2.2.2.2.2.1 ≤ R.frames ∧ m0.2.2.2.2.2.2.1 ≤ R.locals ∧ cells ≤ R.cells ∧ slots ≤ R.slots) ∧ ∀ n xs, scr = some (n, xs) → va_X (μ 2000) n xs s s.heap ∧ μ 2000 < s.heap.size ∧ ¬ A (μ 2000)
def ax_W (p : Program) (l : Launch) (e : Env) (R : Room) (s : State) (m : MethodId) (args : Array Value) (below : List Frame) (meth : Method) (c : Code) (cells slots : Nat) (Q : State → Prop) (μ : Nat → Nat) (cI cZ : ClassId) (D : va_G) (A : Nat → Prop) (nL : Nat) (pc : Nat) (L : ax_Lc) (st : List Value) (σ : ax_Sg) : Prop :=
  ∀ (H : Heap) (locs : List Loc) (ls : Array Slot), ax_lv μ nL L ls → va_P D vwCl (ax_ws μ cI cZ σ) H → va_S A s.heap H locs → W p l e R s m args below meth c H locs cells slots Q (F0 m pc ls (st.map (ax_vm μ)))
def ax_Q (μ : Nat → Nat) (cI cZ : ClassId) (D : va_G) (P : Option Value → ax_Sg → Prop) : Array Value → State → Outcome → State → Prop := fun _ st o t =>
  (∃ (r : Option Value) (σ' : ax_Sg), o = .returned (r.map (ax_vm μ)) ∧ P r σ' ∧ va_P D vwCl (ax_ws μ cI cZ σ') t.heap) ∧ va_F (ax_A μ) st t
def ax_rm (m0 : ax_Mi) : Room := { frames := m0.2.2.2.2.2.1, cells := 0, slots := 0, locals := m0.2.2.2.2.2.2.1 }
/-- THE JUDGEMENT: wherever the method's body stands at pc with these locals, this stack, this world, it comes to its end with P -/
def ax_E (l : Launch) (m0 : ax_Mi) (pc : Nat) (L : ax_Lc) (st : List Value) (σ : ax_Sg) (P : Option Value → ax_Sg → Prop) : Prop :=
  ∀ (p : Program) (e : Env) (s : State) (m : MethodId) (args : Array Value) (below : List Frame) (meth : Method) (c : Code) (μ : Nat → Nat) (cI cZ : ClassId) (D : va_G), ax_cx m0 p s m args c (ax_rm m0) 0 0 μ cI cZ D (ax_A μ) none → meth.sig.returnType = m0.2.2.2.1 → meth.locks = false →
    ax_W p l e (ax_rm m0) s m args below meth c 0 0 (MQ below (ax_Q μ cI cZ D P) args s 0 0 (ax_A μ)) μ cI cZ D (ax_A μ) m0.2.2.1 pc L st σ
def Ev (l : Launch) (k pc : Nat) (L : ax_Lc) (st : List Value) (σ : ax_Sg) (P : Option Value → ax_Sg → Prop) : Prop := ax_E l (ax_m k) pc L st σ P
def ax_wd (m0 : ax_Mi) : List Cond := .code m0.1 m0.2.1 m0.2.2.1 m0.2.2.2.1 :: lw_w
def ax_P (μ : Nat → Nat) (cI cZ : ClassId) (D : va_G) (as : List Value) (σ : ax_Sg) : Array Value → State → Prop := va_Pc (as.map (ax_vm μ)) (fun U => va_P D vwCl (ax_ws μ cI cZ σ) U.heap ∧ va_K D vwCl [(cI, .int), (cZ, .boolean)] U ∧ ax_str μ (ax_A μ) U)
theorem ax_met {l : Launch} {m0 : ax_Mi} (hcls : m0.1.cls = ax_cnm m0.2.2.2.2.1) (hplain : plainFor m0.1 = true) {as : List Value} {σ : ax_Sg} {P : Option Value → ax_Sg → Prop} (hsz : ax_cat as ≤ m0.2.2.1) (hE : ax_E l m0 0 (ax_en m0.2.2.1 as) [] σ P) {μ : Nat → Nat} (cI cZ : ClassId) (D : va_G) {A : Nat → Prop} (had : ax_ad μ A) : Met l m0.1 (ax_wd m0) (ax_rm m0) (ax_P μ cI cZ D as σ) (ax_Q μ cI cZ D P) 0 0 (ax_A μ) := by
  refine va_MetF (cc := m0.2.1) (maxL := m0.2.2.1) (ret := m0.2.2.2.1) hplain rfl ?_
  intro p e s m args below meth c s₁ B hml hv
  obtain ⟨rfl, hP, hK, hSt⟩ := hv
  have hts := atoms_spec (ws := ax_wd m0) B.pre
  have hown : s.vm.findClass m0.1.cls = some m.cls := findClass_of_methodNamed B.named
  have hlen : (lg_sl (as.map (ax_vm μ))).length ≤ m0.2.2.1 := by rw [ax_sl_len, ax_cat_sum]; exact hsz
  have hl := lv_entry (as.map (ax_vm μ)) (n := m0.2.2.1) hlen
  rw [lg_entry_eq]
  generalize (lg_sl (as.map (ax_vm μ)) ++ List.replicate (m0.2.2.1 - (lg_sl (as.map (ax_vm μ))).length) Slot.unset).toArray = ls at hl ⊢
  refine hE p e s m _ below meth c μ cI cZ D ⟨B.exec, B.bytes, hml, by rw [← hcls]; exact hown, fun w hw => hts w (List.mem_cons_of_mem _ hw), hK, had.self, hSt, ⟨Nat.le_refl _, Nat.le_refl _, Nat.le_refl _, Nat.le_refl _⟩, fun n xs h => by cases h⟩ B.returns B.notSynchronized s.heap [] ls ⟨hl.1, ax_en_len as _, hl.2.1, fun i v hv => ?_⟩ hP va_S.rf
  have := hl.2.2 _ (ax_en_ld μ as m0.2.2.1 0 i v hv)
  rw [Nat.zero_add] at this
  exact this
theorem ax_pay {args : Array Value} {s : State} (hts : ∀ w ∈ lw_w, w.before args s = true) {w : Cond} (hw : w ∈ lw_w) (a' : Array Value) (U : State) (hW : s.WarmedH U.vm) : w.before a' U = true := by
  have h1 := hts w hw
  have hg : ax_gw w = true := (List.mem_filter.mp hw).2
  by_cases hgd : goodWord w = true
  · exact word_at hW (good_of_word hgd) h1
  · cases w with
    | fieldLinkNest a i b n d h => exact va_Nw.use rfl (va_Nw.warmF hW (va_Nw.of rfl h1))
    | methodLinkNest a i x h => exact va_Nw.use rfl (va_Nw.warmM hW (va_Nw.of rfl h1))
    | _ => simp [ax_gw, hgd] at hg
section AxCall
variable {p : Program} {l : Launch} {e : Env} {R : Room} {s : State} {m : MethodId} {args : Array Value} {below : List Frame} {meth : Method} {c : Code} {H : Heap} {locs : List Loc} {cells slots : Nat} {Q : State → Prop}
variable {pc : Nat} {ls : Array Slot} {rest st0 : List Value} {μ : Nat → Nat} {cI cZ : ClassId} {D : va_G} {A : Nat → Prop}
theorem ax_callQ {P : Option Value → ax_Sg → Prop} {a : Array Value} (hr : va_Run p l e R s m args below meth c H locs cells slots 0 0 (F0 m pc ls st0) rest (ax_Q μ cI cZ D P a) (ax_A μ)) (hS : va_S A s.heap H locs) (hA : ∀ q, ax_A μ q → A q)
    (kk : ∀ (r : Option Value) (σ' : ax_Sg) (H1 : Heap) (locs1 : List Loc), P r σ' → va_P D vwCl (ax_ws μ cI cZ σ') H1 → va_S A s.heap H1 locs1 → W p l e R s m args below meth c H1 locs1 cells slots Q (F0 m (pc + 3) ls ((r.map (ax_vm μ)).toList ++ rest))) : W p l e R s m args below meth c H locs cells slots Q (F0 m pc ls st0) := by
  intro T hT X
  obtain ⟨v, st₀, t, T', L, h0, X', hL, e1, e2, ⟨⟨r, σ', hv, hp, hb⟩, hz, hk⟩, st⟩ := hr T hT X
  have hv : v = r.map (ax_vm μ) := by cases hv; rfl
  subst hv
  rw [h0] at hz hk
  obtain ⟨t2, a1, b1⟩ := kk r σ' T'.heap (locs ++ L) hp (by rw [e1]; exact hb)
    ⟨Nat.le_trans hS.1 (by rw [e1]; exact hz), fun q h1 h2 => by rw [e1, hk q (Nat.lt_of_lt_of_le h1 hS.1) (fun z => h2 (hA q z))]; exact hS.2.1 q h1 h2, fun q hq => by
      rcases List.mem_append.mp hq with h | h
      · exact hS.2.2 q h
      · exact hA _ (hL q h)⟩ T' rfl X'
  exact ⟨t2, st t2 a1, b1⟩
theorem ax_blind (as : List Value) (σ : ax_Sg) : FrameBlind (ax_P μ cI cZ D as σ) := by
  intro a U g mk h
  obtain ⟨h1, h2, h3, h4⟩ := h
  exact ⟨h1, h2, va_K.moved (u := U) (U := U.calling g mk a) (Vm.Alike.refl U.vm) h3, h4.same rfl rfl⟩
end AxCall
theorem ax_pop_of : ∀ (n : Nat) (st acc : List Value) (k : List Value → List Value → Prop), ax_pop n st acc k → ∃ bs r, bs.length = n ∧ st = bs ++ r ∧ k (bs.reverse ++ acc) r
  | 0, st, acc, k, h => ⟨[], st, rfl, rfl, h⟩
  | n + 1, v :: st, acc, k, h => by
    obtain ⟨bs, r, h1, h2, h3⟩ := ax_pop_of n st (v :: acc) k h
    exact ⟨v :: bs, r, by rw [List.length_cons, h1], by rw [h2]; rfl, by simpa using h3⟩
  | n + 1, [], acc, k, h => h.elim
end
section
/-! what the tables' checks say, in the words of the rules -/
theorem ax_m_of {a : Nat} {m' : ax_Mi} (h : ax_mis[a]? = some m') : ax_m a = m' := by
  unfold ax_m
  rw [List.getD_eq_getElem?_getD, h]
  rfl
theorem ax_cok_of {oc fr lo b : Nat} {st : Bool} {sw : List (Int32 × Nat)} {o : Option ax_Mi} (h : ax_cok (oc, true) (0, st) fr lo b sw o = true) : ∃ m' : ax_Mi, o = some m' ∧ 0 < m'.2.2.2.2.2.2.2.1 ∧ m'.2.2.2.2.2.2.2.2.2.2.2 = st ∧ m'.2.2.2.2.1 = oc ∧ m'.2.2.2.2.2.1 + 1 ≤ fr ∧ 8 + (m'.2.2.1 + 11) + m'.2.2.2.2.2.2.1 ≤ lo ∧ (∃ x q, sw = [(x, m'.2.2.1), q]) ∧ (parseMethodDescriptor m'.1.desc).map (fun d => d.parameters.length) = some b := by
  cases o with
  | none => cases h
  | some m' =>
    obtain ⟨y, bb, mL, rt, oc', fr', lo', p0, p1, p2, p3, st'⟩ := m'
    simp only [ax_cok, Bool.and_eq_true, Nat.blt_eq, Nat.ble_eq, Nat.beq_eq, decide_eq_true_eq, beq_iff_eq] at h
    obtain ⟨⟨⟨⟨⟨⟨h1, h2⟩, h3⟩, h4⟩, h5⟩, h6⟩, h7⟩ := h
    refine ⟨_, rfl, h1, h2, h3, h4, h5, ?_, h7⟩
    split at h6
    · rename_i x n q
      have h6 : n = mL := Nat.eq_of_beq_eq_true h6
      exact ⟨x, q, by rw [h6]⟩
    · cases h6
theorem ax_good_code (y : MethodName) (b : ByteArray) (n : Nat) (rt : Option FieldType) : ax_gw (.code y b n rt) = true := rfl
theorem ax_mi_of {a : Nat} {m' : ax_Mi} (h : ax_mis[a]? = some m') (h0 : 0 < m'.2.2.2.2.2.2.2.1) : Cond.code m'.1 m'.2.1 m'.2.2.1 m'.2.2.2.1 ∈ lw_w ∧ Cond.initialized m'.1.cls ∈ lw_w ∧ (m'.2.2.2.2.2.2.2.2.2.2.2 = true → Cond.static m'.1 ∈ lw_w) ∧ (m'.2.2.2.2.2.2.2.2.2.2.2 = false → Cond.instanceMethod m'.1 ∈ lw_w ∧ Cond.selects m'.1.cls m'.1 m'.1 ∈ lw_w) ∧ m'.1.cls = ax_cnm m'.2.2.2.2.1 ∧ plainFor m'.1 = true ∧ (m'.1.cls ≠ "java/lang/invoke/MethodHandle" ∧ m'.1.cls ≠ "java/lang/invoke/VarHandle") := by
  have hc : Cond.code m'.1 m'.2.1 m'.2.2.1 m'.2.2.2.1 ∈ lw_tbl := by
    rcases mw_all m' (List.mem_of_getElem? h) with h1 | h1
    · omega
    · exact h1
  have hd : m' ∈ ax_mis.drop 1 := by
    cases a with
    | zero =>
      exfalso
      have e : ax_mis[0]? = some mi_L_law := rfl
      rw [e] at h
      cases h
      exact absurd h0 (by decide)
    | succ a =>
      refine List.mem_of_getElem? (i := a) ?_
      rw [List.getElem?_drop, Nat.add_comm 1 a]
      exact h
  have hm := List.all_eq_true.mp ax_mi_ok m' hd
  obtain ⟨y, bb, mL, rt, oc', fr', lo', p0, p1, p2, p3, st'⟩ := m'
  cases st' with
  | true =>
    simp only [ax_miok, Bool.and_eq_true, decide_eq_true_eq, cond_true] at hm
    obtain ⟨⟨⟨⟨h1, h2⟩, h3⟩, h4⟩, h5⟩ := hm
    exact ⟨lw_w_in hc rfl, lw_w_in (List.mem_of_getElem? h1) rfl, fun _ => lw_w_in (List.mem_of_getElem? h2) rfl, fun h => (by cases h), h3, h4, h5⟩
  | false =>
    simp only [ax_miok, Bool.and_eq_true, decide_eq_true_eq, cond_false] at hm
    obtain ⟨⟨⟨⟨h1, h2, h2'⟩, h3⟩, h4⟩, h5⟩ := hm
    exact ⟨lw_w_in hc rfl, lw_w_in (List.mem_of_getElem? h1) rfl, fun h => (by cases h), fun _ => ⟨lw_w_in (List.mem_of_getElem? h2) rfl, lw_w_in (List.mem_of_getElem? h2') rfl⟩, h3, h4, h5⟩
theorem ax_mok_of {oc x a : Nat} (h : ax_mok oc x a = true) : Cond.methodLink (ax_cnm oc) x (ax_nm a) ∈ lw_w ∨ Cond.methodLinkNest (ax_cnm oc) x (ax_nm a) "PlateHire" ∈ lw_w := by
  obtain ⟨q, hq, h1⟩ := List.any_eq_true.mp h
  have h2 := List.all_eq_true.mp ax_mt_ok q hq
  obtain ⟨oc', x', a', nest, p⟩ := q
  simp only [Bool.and_eq_true, Nat.beq_eq] at h1
  obtain ⟨⟨rfl, rfl⟩, rfl⟩ := h1
  have h2 := of_decide_eq_true h2
  cases nest with
  | true => exact Or.inr (lw_w_in (List.mem_of_getElem? h2) rfl)
  | false => exact Or.inl (lw_w_in (List.mem_of_getElem? h2) rfl)
theorem ax_iok_of {oc x : Nat} {v : Int32} (h : ax_iok oc x v = true) : Cond.constant (ax_cnm oc) x v ∈ lw_w := by
  obtain ⟨q, hq, h1⟩ := List.any_eq_true.mp h
  have h2 := List.all_eq_true.mp ax_ci_ok q hq
  obtain ⟨oc', x', v', p⟩ := q
  simp only [Bool.and_eq_true, Nat.beq_eq, decide_eq_true_eq] at h1
  obtain ⟨⟨rfl, rfl⟩, rfl⟩ := h1
  exact lw_w_in (List.mem_of_getElem? (of_decide_eq_true h2)) rfl
theorem ax_jok_of {oc x : Nat} {v : Int64} (h : ax_jok oc x v = true) : Cond.constantLong (ax_cnm oc) x v ∈ lw_w := by
  obtain ⟨q, hq, h1⟩ := List.any_eq_true.mp h
  have h2 := List.all_eq_true.mp ax_cj_ok q hq
  obtain ⟨oc', x', v', p⟩ := q
  simp only [Bool.and_eq_true, Nat.beq_eq, decide_eq_true_eq] at h1
  obtain ⟨⟨rfl, rfl⟩, rfl⟩ := h1
  exact lw_w_in (List.mem_of_getElem? (of_decide_eq_true h2)) rfl
theorem ax_us_in : ∀ q ∈ vwCl, ∀ w ∈ u_ws q.1 q.2.1 q.2.2, w ∈ lw_tbl ∧ ax_gw w = true := by decide +kernel
theorem ax_ty_in : ∀ q ∈ vwCl, (∃ ty : Nat → FieldType, ∀ k, k < q.2.2 → parseFieldDescriptor (q.2.1 k).2.2.1 = some (ty k)) ∧ ∀ a, a < q.2.2 → ∀ b, b < q.2.2 → a ≠ b → (q.2.1 a).2.1 ≠ (q.2.1 b).2.1 :=
  List.forall_mem_cons.mpr ⟨⟨⟨_, tyX0_ok⟩, nmX0⟩, List.forall_mem_cons.mpr ⟨⟨⟨_, tyX1_ok⟩, nmX1⟩, List.forall_mem_cons.mpr ⟨⟨⟨_, tyX2_ok⟩, nmX2⟩, List.forall_mem_cons.mpr ⟨⟨⟨_, tyX3_ok⟩, nmX3⟩, List.forall_mem_cons.mpr ⟨⟨⟨_, tyX4_ok⟩, nmX4⟩, List.forall_mem_cons.mpr ⟨⟨⟨_, tyX5_ok⟩, nmX5⟩, List.forall_mem_cons.mpr ⟨⟨⟨_, tyX6_ok⟩, nmX6⟩, List.forall_mem_cons.mpr ⟨⟨⟨_, tyX7_ok⟩, nmX7⟩, List.forall_mem_cons.mpr ⟨⟨⟨_, tyX8_ok⟩, nmX8⟩, List.forall_mem_cons.mpr ⟨⟨⟨_, tyX9_ok⟩, nmX9⟩, List.forall_mem_cons.mpr ⟨⟨⟨_, tyX10_ok⟩, nmX10⟩, List.forall_mem_cons.mpr ⟨⟨⟨_, tyX11_ok⟩, nmX11⟩, fun _ h => absurd h List.not_mem_nil⟩⟩⟩⟩⟩⟩⟩⟩⟩⟩⟩⟩
theorem ax_fok_of {oc x a b : Nat} (h : ax_fok oc x a b = true) : ∃ C T N, vwCl[a]? = some (C, T, N) ∧ b < N ∧ (∀ w ∈ u_ws C T N, w ∈ lw_w) ∧ ax_T a = T ∧ (Cond.fieldLink (ax_cnm oc) x (T b).1 (T b).2.1 (T b).2.2.1 ∈ lw_w ∨ Cond.fieldLinkNest (ax_cnm oc) x (T b).1 (T b).2.1 (T b).2.2.1 "PlateHire" ∈ lw_w) := by
  obtain ⟨q, hq, h1⟩ := List.any_eq_true.mp h
  have h2 := List.all_eq_true.mp ax_ft_ok q hq
  obtain ⟨oc', x', a', b', nest, p⟩ := q
  simp only [Bool.and_eq_true, Nat.beq_eq] at h1
  obtain ⟨⟨⟨rfl, rfl⟩, rfl⟩, rfl⟩ := h1
  simp only [Bool.and_eq_true, decide_eq_true_eq, Nat.blt_eq] at h2
  obtain ⟨⟨h3, h4⟩, h5⟩ := h2
  have hl : vwCl.length = 12 := rfl
  obtain ⟨⟨C, T, N⟩, hv⟩ : ∃ v, vwCl[a']? = some v := ⟨_, List.getElem?_eq_getElem (by rw [hl]; exact h4)⟩
  have hT : ax_T a' = T := by
    unfold ax_T
    rw [List.getD_eq_getElem?_getD, hv]
    rfl
  have hN : (vwCl.getD a' (RX0, TX0, 1)).2.2 = N := by
    rw [List.getD_eq_getElem?_getD, hv]
    rfl
  refine ⟨C, T, N, hv, by rw [← hN]; exact h5, fun w hw => ?_, hT, ?_⟩
  · obtain ⟨g1, g2⟩ := ax_us_in _ (List.mem_of_getElem? hv) w hw
    exact lw_w_in g1 g2
  · rw [← hT]
    cases nest with
    | true => exact Or.inr (lw_w_in (List.mem_of_getElem? h3) rfl)
    | false => exact Or.inl (lw_w_in (List.mem_of_getElem? h3) rfl)
theorem ax_dok_of {cc : ByteArray} {pc : Nat} {i : Instr} {r : Nat × Nat × Nat × Int32 × Int64 × List (Int32 × Nat)} (h : ax_dok cc (pc, i, r) = true) : ∃ n, decode cc pc = .ok (i, n) ∧ (ax_swi i = false → n = ax_len i) := by
  unfold ax_dok at h
  cases hd : decode cc pc with
  | error e => simp only [hd] at h; cases h
  | ok q =>
    obtain ⟨i', n⟩ := q
    simp only [hd, Bool.and_eq_true, decide_eq_true_eq, Bool.or_eq_true, Nat.beq_eq] at h
    obtain ⟨rfl, h2⟩ := h
    exact ⟨n, rfl, fun hs => by
      rcases h2 with h2 | h2
      · rw [hs] at h2; cases h2
      · exact h2⟩
theorem ax_li_of {L : ax_Lc} {i : Nat} {k : Int32 → Prop} (h : ax_li L i k) : ∃ x, ax_ld L i = some (.int x) ∧ k x := by
  unfold ax_li at h
  split at h
  · exact ⟨_, by assumption, h⟩
  · exact h.elim
theorem ax_ll_of {L : ax_Lc} {i : Nat} {k : Int64 → Prop} (h : ax_ll L i k) : ∃ x, ax_ld L i = some (.long x) ∧ k x := by
  unfold ax_ll at h
  split at h
  · exact ⟨_, by assumption, h⟩
  · exact h.elim
theorem ax_la_of {L : ax_Lc} {i : Nat} {k : Nat → Prop} (h : ax_la L i k) : ∃ x, ax_ld L i = some (.ref x) ∧ k x := by
  unfold ax_la at h
  split at h
  · exact ⟨_, by assumption, h⟩
  · exact h.elim
theorem ax_i1_of {st : List Value} {k : Int32 → List Value → Prop} (h : ax_i1 st k) : ∃ x r, st = .int x :: r ∧ k x r := by
  unfold ax_i1 at h
  split at h
  · exact ⟨_, _, rfl, h⟩
  · exact h.elim
theorem ax_i2_of {st : List Value} {k : Int32 → Int32 → List Value → Prop} (h : ax_i2 st k) : ∃ x y r, st = .int y :: .int x :: r ∧ k x y r := by
  unfold ax_i2 at h
  split at h
  · exact ⟨_, _, _, rfl, h⟩
  · exact h.elim
theorem ax_l1_of {st : List Value} {k : Int64 → List Value → Prop} (h : ax_l1 st k) : ∃ x r, st = .long x :: r ∧ k x r := by
  unfold ax_l1 at h
  split at h
  · exact ⟨_, _, rfl, h⟩
  · exact h.elim
theorem ax_l2_of {st : List Value} {k : Int64 → Int64 → List Value → Prop} (h : ax_l2 st k) : ∃ x y r, st = .long y :: .long x :: r ∧ k x y r := by
  unfold ax_l2 at h
  split at h
  · exact ⟨_, _, _, rfl, h⟩
  · exact h.elim
theorem ax_li2_of {st : List Value} {k : Int64 → Int32 → List Value → Prop} (h : ax_li2 st k) : ∃ x y r, st = .int y :: .long x :: r ∧ k x y r := by
  unfold ax_li2 at h
  split at h
  · exact ⟨_, _, _, rfl, h⟩
  · exact h.elim
theorem ax_r1_of {st : List Value} {k : Nat → List Value → Prop} (h : ax_r1 st k) : ∃ x r, st = .ref x :: r ∧ k x r := by
  unfold ax_r1 at h
  split at h
  · exact ⟨_, _, rfl, h⟩
  · exact h.elim
theorem ax_ri_of {st : List Value} {k : Nat → Int32 → List Value → Prop} (h : ax_ri st k) : ∃ x i r, st = .int i :: .ref x :: r ∧ k x i r := by
  unfold ax_ri at h
  split at h
  · exact ⟨_, _, _, rfl, h⟩
  · exact h.elim
theorem ax_rii_of {st : List Value} {k : Nat → Int32 → Int32 → List Value → Prop} (h : ax_rii st k) : ∃ x i v r, st = .int v :: .int i :: .ref x :: r ∧ k x i v r := by
  unfold ax_rii at h
  split at h
  · exact ⟨_, _, _, _, rfl, h⟩
  · exact h.elim
theorem ax_cell_of {x t : Nat} {k : Nat → List (Option (Option Nat)) → Prop} (h : ax_cell x t k) : ∃ n fs, ax_sh[x]? = some (t, n, fs) ∧ k n fs := by
  unfold ax_cell at h
  split at h
  · rename_i t' n fs hs
    cases hb : Nat.beq t' t with
    | true => rw [hb] at h; exact ⟨n, fs, by rw [← Nat.eq_of_beq_eq_true hb]; exact hs, h⟩
    | false => rw [hb] at h; exact h.elim
  · exact h.elim
theorem ax_cond_of {b : Bool} {k : Prop} (h : cond b k False) : b = true ∧ k := by
  cases b with
  | true => exact ⟨rfl, h⟩
  | false => exact h.elim
theorem ax_go_of {C : ax_Ca} {a : Nat} {sw : List (Int32 × Nat)} {as : List Value} {σ : ax_Sg} {k : List Value → ax_Sg → Prop} {n : Nat} (hs : ∃ x q, sw = [(x, n), q]) (h : ax_go C a sw as σ k) : ax_cat as ≤ n ∧ ∃ Q, C a (ax_en n as) σ Q ∧ ∀ o σ', Q o σ' → k o.toList σ' := by
  obtain ⟨x, ⟨y, kd⟩, rfl⟩ := hs
  obtain ⟨h1, h2⟩ := ax_cond_of h
  refine ⟨Nat.le_of_ble_eq_true h1, _, h2, fun o σ' hq => ?_⟩
  split at hq
  · unfold ax_ov at hq
    split at hq
    · exact hq
    · exact hq.elim
  · unfold ax_oi at hq
    split at hq
    · exact hq
    · exact hq.elim
  · unfold ax_or at hq
    split at hq
    · exact hq
    · exact hq.elim
theorem ax_fs_put (μ : Nat → Nat) (σ : ax_Sg) (k b : Nat) (w : Int32) (fs : List (Option (Option Nat))) (h : fs[b]? = some none) : ax_fs μ (ax_uc σ k (upd (σ k) b w)) k fs = (ax_fs μ σ k fs).set b (.int w) := by
  apply List.ext_getElem?
  intro i
  unfold ax_fs
  rw [List.getElem?_mapIdx, List.getElem?_set]
  by_cases hi : b = i
  · subst hi
    rw [if_pos rfl, if_pos (by rw [List.length_mapIdx]; exact (List.getElem?_eq_some_iff.mp h).1), h]
    simp only [Option.map_some, ax_fv, ax_uc_s, upd, if_pos]
  · rw [if_neg hi, List.getElem?_mapIdx]
    cases hf : fs[i]? with
    | none => rfl
    | some f =>
      match f with
      | none => simp only [Option.map_some, ax_fv, ax_uc_s, upd, if_neg (fun e : i = b => hi e.symm)]
      | some none => rfl
      | some (some r) => rfl
end
section
/-! a call's row in the machine -/
section AxRun
variable {p : Program} {l : Launch} {e : Env} {R : Room} {s : State} {m : MethodId} {args : Array Value} {below : List Frame} {meth : Method} {c : Code} {H : Heap} {locs : List Loc} {cells slots : Nat} {Q : State → Prop}
variable {pc : Nat} {ls : Array Slot} {r : List Value} {μ : Nat → Nat} {cI cZ : ClassId} {D : va_G} {A : Nat → Prop} {m0 m' : ax_Mi} {scr : Option (Nat × (Nat → Int32))} {σ : ax_Sg} {P : Option Value → ax_Sg → Prop}
theorem ax_ad_le (had : ax_ad μ A) : ∀ q, ax_A μ q → A q := by
  rintro q ⟨i, hi, rfl⟩
  exact had.2 i hi
theorem ax_Pcat (cx : ax_cx m0 p s m args c R cells slots μ cI cZ D A scr) (hP : va_P D vwCl (ax_ws μ cI cZ σ) H) (hS : va_S A s.heap H locs) (as : List Value) (U : State) (hU : U.heap = H) (hW : s.WarmedH U.vm) : ax_P μ cI cZ D as σ (as.map (ax_vm μ)).toArray U := by
  obtain ⟨hx, hb, hml, hown, hts, hK, had, hSt, hR, hX⟩ := cx
  exact ⟨rfl, by rw [hU]; exact hP, va_K.moved hW.alike hK, hSt.go hW hU hS (ax_ad_le had)⟩
theorem ax_runV {a x b n : Nat} {fs : List (Option (Option Nat))} {as : List Value} (cx : ax_cx m0 p s m args c R cells slots μ cI cZ D A scr) (hm : ax_mis[a]? = some m') (h0 : 0 < m'.2.2.2.2.2.2.2.1) (hst : m'.2.2.2.2.2.2.2.2.2.2.2 = false) (hfr : m'.2.2.2.2.2.1 + 1 ≤ m0.2.2.2.2.2.1) (hlo : 8 + (m'.2.2.1 + 11) + m'.2.2.2.2.2.2.1 ≤ m0.2.2.2.2.2.2.1)
    (hlen : (parseMethodDescriptor m'.1.desc).map (fun d => d.parameters.length) = some b) (hab : as.length = b) (hli : Cond.methodLink (ax_cnm m0.2.2.2.2.1) n m'.1 ∈ lw_w ∨ Cond.methodLinkNest (ax_cnm m0.2.2.2.2.1) n m'.1 "PlateHire" ∈ lw_w) {nn : Nat} (hsh : ax_sh[x]? = some (m'.2.2.2.2.1 + 2, nn, fs))
    (hsz : ax_cat (.ref x :: as) ≤ m'.2.2.1) (hE : ax_E l m' 0 (ax_en m'.2.2.1 (.ref x :: as)) [] σ P) (hP : va_P D vwCl (ax_ws μ cI cZ σ) H) (hS : va_S A s.heap H locs) (hl : ls.size = m0.2.2.1) (hcat : ax_cat r ≤ 8) (hdg : decode m0.2.1 pc = .ok (.invokevirtual n, 3)) (st0 : List Value) (hst0 : st0 = as.reverse ++ .ref x :: r) :
    va_Run p l e R s m args below meth c H locs cells slots 0 0 (F0 m pc ls (st0.map (ax_vm μ))) (r.map (ax_vm μ)) (ax_Q μ cI cZ D P ((.ref (μ x) :: as.map (ax_vm μ))).toArray) (ax_A μ) := by
  have cx' := cx
  obtain ⟨hx, hb, hml, hown, hts, hK, had, hSt, ⟨hR1, hR2, hR3, hR4⟩, hX⟩ := cx
  obtain ⟨w1, w2, -, w4, w5, w6, w7⟩ := ax_mi_of hm h0
  obtain ⟨w8, w9⟩ := w4 hst
  have hM := ax_met w5 w6 hsz hE cI cZ D had
  have hlen' : ∀ sig, parseMethodDescriptor m'.1.desc = some sig → b = sig.parameters.length := fun sig h => by
    rw [h] at hlen
    exact (Option.some.inj hlen).symm
  have hpay : ∀ w ∈ ax_wd m', ∀ (a' : Array Value) (U : State), s.WarmedH U.vm → w.before a' U = true := fun w hw a' U hW => by
    rcases List.mem_cons.mp hw with rfl | h
    · exact ax_pay hts w1 a' U hW
    · exact ax_pay hts h a' U hW
  have hcode : Cond.code m'.1 m'.2.1 m'.2.2.1 m'.2.2.2.1 ∈ ax_wd m' := List.mem_cons_self
  -- the receiver
  have hcl : ∃ q : vw_C, vwCl[m'.2.2.2.2.1]? = some q ∧ q.1 = m'.1.cls ∧ ∃ cell : Cell, H[μ x]? = some cell ∧ cell.vm.isStatics = false ∧ s.vm.findClass q.1 = some cell.cls := by
    have he : (ax_ws μ cI cZ σ)[x]? = some (μ x, .inr (m'.2.2.2.2.1, ax_fs μ σ x fs)) := by rw [ax_ws_at, hsh]; rfl
    obtain ⟨q, hq, -⟩ := hP x _ he
    have hq : vwCl[m'.2.2.2.2.1]? = some q := hq
    refine ⟨q, hq, ?_, va_recv hK hP hq he⟩
    have hall : ∀ i, i < 12 → ∀ q : vw_C, vwCl[i]? = some q → q.1 = ax_cnm i := by
      intro i hi q hq
      match i, hi, hq with
      | 0, _, hq => cases hq; rfl
      | 1, _, hq => cases hq; rfl
      | 2, _, hq => cases hq; rfl
      | 3, _, hq => cases hq; rfl
      | 4, _, hq => cases hq; rfl
      | 5, _, hq => cases hq; rfl
      | 6, _, hq => cases hq; rfl
      | 7, _, hq => cases hq; rfl
      | 8, _, hq => cases hq; rfl
      | 9, _, hq => cases hq; rfl
      | 10, _, hq => cases hq; rfl
      | 11, _, hq => cases hq; rfl
      | i + 12, hi, _ => omega
    rw [w5]
    exact hall _ (by have := (List.getElem?_eq_some_iff.mp hq).1; exact this) q hq
  obtain ⟨q, hq, hqc, hcell⟩ := hcl
  rw [hqc] at hcell
  have hpre : PreV s H m'.1.cls (μ x) (ax_P μ cI cZ D (.ref x :: as) σ) (as.map (ax_vm μ)) := ⟨ax_blind _ _, hcell, fun U hU hW => ax_Pcat cx' hP hS (.ref x :: as) U hU hW⟩
  have hstk : (F0 m pc ls (st0.map (ax_vm μ))).stack = (as.map (ax_vm μ)).reverse ++ .ref (μ x) :: r.map (ax_vm μ) := by
    subst hst0
    simp [ax_vm]
  have hroom : 2 * (F0 m pc ls (st0.map (ax_vm μ))).monitorRoom + ((r.map (ax_vm μ)).map fun v => v.category).sum ≤ 8 := lv_room (by rw [ax_cat_sum]; exact hcat)
  rcases hli with hli | hli
  · exact va_runV (nL := m0.2.2.1) (Ts := lw_w) (own := ax_cnm m0.2.2.2.2.1) (C := m'.1.cls) (bytes := m'.2.1) (maxL := m'.2.2.1) (ret := m'.2.2.2.1) (n := b) ⟨hx, hb, hml, hown, hts⟩ hM ⟨⟨rfl, rfl, Nat.le_trans hfr hR1, Nat.le_trans hlo hR2, hpay, hcode, hts _ w1, hts _ w2, w7, hlen', hts _ hli⟩, hts _ w8, hts _ w9⟩ hpre rfl (by rw [List.length_map]; exact hab) hl hstk hroom hdg ⟨hR3, hR4⟩
  · exact va_runVN (nL := m0.2.2.1) (Ts := lw_w) (own := ax_cnm m0.2.2.2.2.1) (C := m'.1.cls) (bytes := m'.2.1) (maxL := m'.2.2.1) (ret := m'.2.2.2.1) (n := b) ⟨hx, hb, hml, hown, hts⟩ hM ⟨⟨⟨rfl, rfl, Nat.le_trans hfr hR1, Nat.le_trans hlo hR2, hpay, hcode⟩, hts _ w1, hts _ w2, w7, hlen', hts _ hli⟩, hts _ w8, hts _ w9⟩ hpre rfl (by rw [List.length_map]; exact hab) hl hstk hroom hdg ⟨hR3, hR4⟩
theorem ax_runS {a b n : Nat} {as : List Value} (cx : ax_cx m0 p s m args c R cells slots μ cI cZ D A scr) (hm : ax_mis[a]? = some m') (h0 : 0 < m'.2.2.2.2.2.2.2.1) (hst : m'.2.2.2.2.2.2.2.2.2.2.2 = true) (hfr : m'.2.2.2.2.2.1 + 1 ≤ m0.2.2.2.2.2.1) (hlo : 8 + (m'.2.2.1 + 11) + m'.2.2.2.2.2.2.1 ≤ m0.2.2.2.2.2.2.1)
    (hlen : (parseMethodDescriptor m'.1.desc).map (fun d => d.parameters.length) = some b) (hab : as.length = b) (hli : Cond.methodLink (ax_cnm m0.2.2.2.2.1) n m'.1 ∈ lw_w ∨ Cond.methodLinkNest (ax_cnm m0.2.2.2.2.1) n m'.1 "PlateHire" ∈ lw_w)
    (hsz : ax_cat as ≤ m'.2.2.1) (hE : ax_E l m' 0 (ax_en m'.2.2.1 as) [] σ P) (hP : va_P D vwCl (ax_ws μ cI cZ σ) H) (hS : va_S A s.heap H locs) (hl : ls.size = m0.2.2.1) (hcat : ax_cat r ≤ 8) (hdg : decode m0.2.1 pc = .ok (.invokestatic n, 3)) (st0 : List Value) (hst0 : st0 = as.reverse ++ r) :
    va_Run p l e R s m args below meth c H locs cells slots 0 0 (F0 m pc ls (st0.map (ax_vm μ))) (r.map (ax_vm μ)) (ax_Q μ cI cZ D P ((as.map (ax_vm μ))).toArray) (ax_A μ) := by
  have cx' := cx
  obtain ⟨hx, hb, hml, hown, hts, hK, had, hSt, ⟨hR1, hR2, hR3, hR4⟩, hX⟩ := cx
  obtain ⟨w1, w2, w4, -, w5, w6, w7⟩ := ax_mi_of hm h0
  have w8 := w4 hst
  have hM := ax_met w5 w6 hsz hE cI cZ D had
  have hlen' : ∀ sig, parseMethodDescriptor m'.1.desc = some sig → b = sig.parameters.length := fun sig h => by
    rw [h] at hlen
    exact (Option.some.inj hlen).symm
  have hpay : ∀ w ∈ ax_wd m', ∀ (a' : Array Value) (U : State), s.WarmedH U.vm → w.before a' U = true := fun w hw a' U hW => by
    rcases List.mem_cons.mp hw with rfl | h
    · exact ax_pay hts w1 a' U hW
    · exact ax_pay hts h a' U hW
  have hcode : Cond.code m'.1 m'.2.1 m'.2.2.1 m'.2.2.2.1 ∈ ax_wd m' := List.mem_cons_self
  have hpre : PreS s H (ax_P μ cI cZ D as σ) (as.map (ax_vm μ)) := ⟨ax_blind _ _, fun U hU hW => ax_Pcat cx' hP hS as U hU hW⟩
  have hstk : (F0 m pc ls (st0.map (ax_vm μ))).stack = (as.map (ax_vm μ)).reverse ++ r.map (ax_vm μ) := by
    subst hst0
    simp
  have hroom : 2 * (F0 m pc ls (st0.map (ax_vm μ))).monitorRoom + ((r.map (ax_vm μ)).map fun v => v.category).sum ≤ 8 := lv_room (by rw [ax_cat_sum]; exact hcat)
  rcases hli with hli | hli
  · exact va_runS (nL := m0.2.2.1) (Ts := lw_w) (own := ax_cnm m0.2.2.2.2.1) (bytes := m'.2.1) (maxL := m'.2.2.1) (ret := m'.2.2.2.1) (n := b) ⟨hx, hb, hml, hown, hts⟩ hM ⟨⟨rfl, rfl, Nat.le_trans hfr hR1, Nat.le_trans hlo hR2, hpay, hcode, hts _ w1, hts _ w2, w7, hlen', hts _ hli⟩, hts _ w8⟩ hpre rfl (by rw [List.length_map]; exact hab) hl hstk hroom hdg ⟨hR3, hR4⟩
  · exact va_runSN (nL := m0.2.2.1) (Ts := lw_w) (own := ax_cnm m0.2.2.2.2.1) (bytes := m'.2.1) (maxL := m'.2.2.1) (ret := m'.2.2.2.1) (n := b) ⟨hx, hb, hml, hown, hts⟩ hM ⟨⟨⟨rfl, rfl, Nat.le_trans hfr hR1, Nat.le_trans hlo hR2, hpay, hcode⟩, hts _ w1, hts _ w2, w7, hlen', hts _ hli⟩, hts _ w8, trivial⟩ hpre rfl (by rw [List.length_map]; exact hab) hl hstk hroom hdg ⟨hR3, hR4⟩
end AxRun
theorem ax_w_nat : Cond.native arraycopyName ∈ lw_w := lw_w_in (by decide +kernel) rfl
theorem ax_w_sta : Cond.static arraycopyName ∈ lw_w := lw_w_in (by decide +kernel) rfl
theorem ax_w_ini : Cond.initialized "java/lang/System" ∈ lw_w := lw_w_in (by decide +kernel) rfl
def ax_nst (w : Cond) : Bool := match w with
  | .methodLinkNest _ _ y _ => y.cls != "java/lang/String" && y.cls != "java/lang/System"
  | _ => true
theorem ax_nst_all : lw_tbl.all ax_nst = true := by decide +kernel
theorem ax_nonest (C : String) (n : Nat) (a : Nat) (h : a = 997 ∨ a = 998) : ¬ Cond.methodLinkNest C n (ax_nm a) "PlateHire" ∈ lw_tbl := by
  intro hm
  have := List.all_eq_true.mp ax_nst_all _ hm
  rcases h with rfl | rfl
  · exact absurd this (by simp [ax_nst, ax_nm, yJ0_length_8abf5, RJ0])
  · exact absurd this (by simp [ax_nst, ax_nm, yJ0_charAt_5068e, RJ0])
theorem ax_nonest2 (C : String) (n : Nat) (a : Nat) (h : a = 999) : ¬ Cond.methodLinkNest C n (ax_nm a) "PlateHire" ∈ lw_tbl := by
  intro hm
  have := List.all_eq_true.mp ax_nst_all _ hm
  subst h
  exact absurd this (by simp [ax_nst, ax_nm, arraycopyName])
end
section
/-! the interpreter's rows are the machine's -/
section AxSound
variable {p : Program} {l : Launch} {e : Env} {R : Room} {s : State} {m : MethodId} {args : Array Value} {below : List Frame} {meth : Method} {c : Code} {cells slots : Nat} {Q : State → Prop}
variable {μ : Nat → Nat} {cI cZ : ClassId} {D : va_G} {A : Nat → Prop} {m0 : ax_Mi} {scr : Option (Nat × (Nat → Int32))}
theorem ax_strlen {pc x n : Nat} {t : List Int32} {L : ax_Lc} {r : List Value} {σ : ax_Sg} (cx : ax_cx m0 p s m args c R cells slots μ cI cZ D A scr) (hli : Cond.methodLink (ax_cnm m0.2.2.2.2.1) n yJ0_length_8abf5 ∈ lw_w) (hfr : 2 ≤ m0.2.2.2.2.2.1) (hlo : 40 ≤ m0.2.2.2.2.2.2.1) (hx1 : 1000 ≤ x) (ht : ax_tx[x - 1000]? = some t) (hcat : ax_cat r ≤ 8) (hdg : decode m0.2.1 pc = .ok (.invokevirtual n, 3))
    (k : ax_W p l e R s m args below meth c cells slots Q μ cI cZ D A m0.2.2.1 (pc + 3) L (.int (Int32.ofNat t.length) :: r) σ) : ax_W p l e R s m args below meth c cells slots Q μ cI cZ D A m0.2.2.1 pc L (.ref x :: r) σ := by
  sorry
theorem ax_strchr {pc x n : Nat} {t : List Int32} {L : ax_Lc} {i : Int32} {r : List Value} {σ : ax_Sg} (cx : ax_cx m0 p s m args c R cells slots μ cI cZ D A scr) (hli : Cond.methodLink (ax_cnm m0.2.2.2.2.1) n yJ0_charAt_5068e ∈ lw_w) (hfr : 4 ≤ m0.2.2.2.2.2.1) (hlo : 85 ≤ m0.2.2.2.2.2.2.1) (hx1 : 1000 ≤ x) (ht : ax_tx[x - 1000]? = some t) (hi : vp_in i t.length) (hcat : ax_cat r ≤ 8) (hdg : decode m0.2.1 pc = .ok (.invokevirtual n, 3))
    (k : ax_W p l e R s m args below meth c cells slots Q μ cI cZ D A m0.2.2.1 (pc + 3) L (.int (t.getD i.toNatClampNeg 0) :: r) σ) : ax_W p l e R s m args below meth c cells slots Q μ cI cZ D A m0.2.2.1 pc L (.int i :: .ref x :: r) σ := by
  sorry
theorem ax_sw_ok {x : Int32} {d : Nat} {f : Nat → Prop} : ∀ {sw : List (Int32 × Nat)}, ax_sw x d f sw → (∃ q ∈ sw, x = q.1 ∧ f q.2) ∨ ((∀ q ∈ sw, ¬ x = q.1) ∧ f d)
  | [], h => Or.inr ⟨fun _ h => absurd h List.not_mem_nil, h⟩
  | (c, t) :: r, h => by
    by_cases hc : x = c
    · exact Or.inl ⟨(c, t), List.mem_cons_self, hc, h.1 hc⟩
    · rcases ax_sw_ok (h.2 hc) with ⟨q, hq, h1, h2⟩ | ⟨h1, h2⟩
      · exact Or.inl ⟨q, List.mem_cons_of_mem _ hq, h1, h2⟩
      · exact Or.inr ⟨fun q hq => by
          rcases List.mem_cons.mp hq with rfl | h
          · exact hc
          · exact h1 q h, h2⟩
set_option maxHeartbeats 4000000 in
set_option maxRecDepth 100000 in
theorem ax_ex_ok {C : ax_Ca} {P : Option Value → ax_Sg → Prop} {row : ax_Rw} {L : ax_Lc} {st : List Value} {σ : ax_Sg} {K : Nat → ax_Lc → List Value → ax_Sg → Prop}
    (cx : ax_cx m0 p s m args c R cells slots μ cI cZ D A scr) (hrow : ax_rok m0 row = true)
    (hC : ∀ a L σ Q, C a L σ Q → Ev l a 0 L [] σ Q)
    (hK : ∀ pc L st σ, K pc L st σ → ax_W p l e R s m args below meth c cells slots Q μ cI cZ D A m0.2.2.1 pc L st σ)
    (hI : ∀ pc v L σ, decode m0.2.1 pc = .ok (.ireturn, 1) → (m0.2.2.2.1 = some .int ∨ (m0.2.2.2.1 = some .boolean ∧ vp_nar .boolean v = v)) → P (some (.int v)) σ → ax_W p l e R s m args below meth c cells slots Q μ cI cZ D A m0.2.2.1 pc L [.int v] σ)
    (hA : ∀ pc x L σ, decode m0.2.1 pc = .ok (.areturn, 1) → m0.2.2.2.1 = some (.object "java/lang/String") → P (some (.ref x)) σ → ax_W p l e R s m args below meth c cells slots Q μ cI cZ D A m0.2.2.1 pc L [.ref x] σ)
    (hV : ∀ pc L σ, decode m0.2.1 pc = .ok (.return_, 1) → m0.2.2.2.1 = none → P none σ → ax_W p l e R s m args below meth c cells slots Q μ cI cZ D A m0.2.2.1 pc L [] σ)
    (h : ax_ex C P scr row L st σ K) : ax_W p l e R s m args below meth c cells slots Q μ cI cZ D A m0.2.2.1 row.1 L st σ := by
  have cx0 := cx
  obtain ⟨hx, hb, hml, hown, hts, hKK, had, hSt, ⟨hR1, hR2, hR3, hR4⟩, hX⟩ := cx
  obtain ⟨pc, i, a, b, cc, v, z, sw⟩ := row
  simp only [ax_rok, Bool.and_eq_true] at hrow
  obtain ⟨hdok, hpok⟩ := hrow
  obtain ⟨len, hd, hlen⟩ := ax_dok_of hdok
  obtain ⟨y0, b0, nL0, rt0, oc0, fr0, lo0, q0, q1, q2, q3, st0⟩ := m0
  show ax_W p l e R s m args below meth c cells slots Q μ cI cZ D A nL0 pc L st σ
  cases i with
  | iconst n =>
    obtain rfl := hlen rfl
    intro H locs ls hl hP hS
    exact lv_iconst hx hb hd (of_decide_eq_true hpok) (hK _ _ _ _ h H locs ls hl hP hS)
  | bipush n =>
    obtain rfl := hlen rfl
    intro H locs ls hl hP hS
    exact lv_bipush hx hb hd (of_decide_eq_true hpok) (hK _ _ _ _ h H locs ls hl hP hS)
  | sipush n =>
    obtain rfl := hlen rfl
    intro H locs ls hl hP hS
    exact lv_sipush hx hb hd (of_decide_eq_true hpok) (hK _ _ _ _ h H locs ls hl hP hS)
  | lconst n =>
    obtain rfl := hlen rfl
    intro H locs ls hl hP hS
    exact lv_lconst hx hb hd (of_decide_eq_true hpok) (hK _ _ _ _ h H locs ls hl hP hS)
  | ldc n =>
    obtain rfl := hlen rfl
    intro H locs ls hl hP hS
    have hpok : cond (Nat.beq b 0) (ax_iok oc0 n v) (decide (oc0 = 9 ∧ a < 6 ∧ n = 75 + 2 * a)) = true := hpok
    replace h : cond (Nat.beq b 0) (K (pc + 2) L (.int v :: st) σ) (K (pc + 2) L (.ref (1000 + a) :: st) σ) := h
    cases hb0 : Nat.beq b 0 with
    | true =>
      rw [hb0] at h hpok
      exact lv_ldc hx hb hown (hts _ (ax_iok_of hpok)) hd (hK _ _ _ _ h H locs ls hl hP hS)
    | false =>
      rw [hb0] at h hpok
      obtain ⟨rfl, h6, rfl⟩ := of_decide_eq_true hpok
      exact va_ldcS hx hb hown (hSt.1 a h6) hd (hK _ _ _ _ h H locs ls hl hP hS)
  | ldc_w n =>
    obtain rfl := hlen rfl
    intro H locs ls hl hP hS T hT X
    obtain ⟨t, a1, b1⟩ := hK _ _ _ _ h H locs ls hl hP hS T hT X
    exact ⟨t, va_ldcwI X hx hown (hts _ (ax_iok_of hpok)) (g := F0 m pc ls (st.map (ax_vm μ))) rfl (by rw [hb]; exact hd) t a1, b1⟩
  | ldc2_w n =>
    obtain rfl := hlen rfl
    intro H locs ls hl hP hS
    exact lv_ldc2 hx hb hown (hts _ (ax_jok_of hpok)) hd (hK _ _ _ _ h H locs ls hl hP hS)
  | iload_n n =>
    obtain rfl := hlen rfl
    intro H locs ls hl hP hS
    obtain ⟨x, hx1, h⟩ := ax_li_of h
    exact lv_iload_n hx hb hd (Nat.eq_of_beq_eq_true hpok) (hl.2.2.2 _ _ hx1) (hK _ _ _ _ h H locs ls hl hP hS)
  | iload n =>
    obtain rfl := hlen rfl
    intro H locs ls hl hP hS
    have hpok : n = a := Nat.eq_of_beq_eq_true hpok
    subst hpok
    obtain ⟨x, hx1, h⟩ := ax_li_of h
    exact lv_iload hx hb hd (hl.2.2.2 _ _ hx1) (hK _ _ _ _ h H locs ls hl hP hS)
  | lload_n n =>
    obtain rfl := hlen rfl
    intro H locs ls hl hP hS
    obtain ⟨x, hx1, h⟩ := ax_ll_of h
    exact lv_lload_n hx hb hd (Nat.eq_of_beq_eq_true hpok) (hl.2.2.2 _ _ hx1) (hK _ _ _ _ h H locs ls hl hP hS)
  | lload n =>
    obtain rfl := hlen rfl
    intro H locs ls hl hP hS
    have hpok : n = a := Nat.eq_of_beq_eq_true hpok
    subst hpok
    obtain ⟨x, hx1, h⟩ := ax_ll_of h
    exact lv_lload hx hb hd (hl.2.2.2 _ _ hx1) (hK _ _ _ _ h H locs ls hl hP hS)
  | aload_n n =>
    obtain rfl := hlen rfl
    intro H locs ls hl hP hS
    obtain ⟨x, hx1, h⟩ := ax_la_of h
    exact lv_aload_n hx hb hd (Nat.eq_of_beq_eq_true hpok) (hl.2.2.2 _ _ hx1) (hK _ _ _ _ h H locs ls hl hP hS)
  | aload n =>
    obtain rfl := hlen rfl
    intro H locs ls hl hP hS
    have hpok : n = a := Nat.eq_of_beq_eq_true hpok
    subst hpok
    obtain ⟨x, hx1, h⟩ := ax_la_of h
    exact lv_aload hx hb hd (hl.2.2.2 _ _ hx1) (hK _ _ _ _ h H locs ls hl hP hS)
  | istore_n n =>
    obtain rfl := hlen rfl
    intro H locs ls hl hP hS
    obtain ⟨x, r, rfl, h⟩ := ax_i1_of h
    obtain ⟨h1, h⟩ := ax_cond_of h
    have h1 : a < L.length := Nat.le_of_ble_eq_true h1
    exact lv_istore_n (x := x) hx hb hd (Nat.eq_of_beq_eq_true hpok) (ax_lv_has hl) (Nat.lt_of_lt_of_le h1 hl.2.1) rfl (fun ls' h' => hK _ _ _ _ h H locs ls' (hl.sv (v := .int x) h') hP hS)
  | istore n =>
    obtain rfl := hlen rfl
    intro H locs ls hl hP hS
    obtain ⟨x, r, rfl, h⟩ := ax_i1_of h
    obtain ⟨h1, h⟩ := ax_cond_of h
    have h1 : a < L.length := Nat.le_of_ble_eq_true h1
    have hpok : n = a := Nat.eq_of_beq_eq_true hpok
    subst hpok
    exact lv_istore (x := x) hx hb hd (ax_lv_has hl) (Nat.lt_of_lt_of_le h1 hl.2.1) rfl (fun ls' h' => hK _ _ _ _ h H locs ls' (hl.sv (v := .int x) h') hP hS)
  | lstore_n n =>
    obtain rfl := hlen rfl
    intro H locs ls hl hP hS
    obtain ⟨x, r, rfl, h⟩ := ax_l1_of h
    obtain ⟨h1, h⟩ := ax_cond_of h
    have h1 : a + 1 < L.length := Nat.le_of_ble_eq_true h1
    exact lv_lstore_n (x := x) hx hb hd (Nat.eq_of_beq_eq_true hpok) (ax_lv_has hl) (Nat.lt_of_lt_of_le h1 hl.2.1) rfl (fun ls' h' => hK _ _ _ _ h H locs ls' (hl.sv2 (v := .long x) h') hP hS)
  | lstore n =>
    obtain rfl := hlen rfl
    intro H locs ls hl hP hS
    obtain ⟨x, r, rfl, h⟩ := ax_l1_of h
    obtain ⟨h1, h⟩ := ax_cond_of h
    have h1 : a + 1 < L.length := Nat.le_of_ble_eq_true h1
    have hpok : n = a := Nat.eq_of_beq_eq_true hpok
    subst hpok
    exact lv_lstore (x := x) hx hb hd (ax_lv_has hl) (Nat.lt_of_lt_of_le h1 hl.2.1) rfl (fun ls' h' => hK _ _ _ _ h H locs ls' (hl.sv2 (v := .long x) h') hP hS)
  | astore_n n =>
    obtain rfl := hlen rfl
    intro H locs ls hl hP hS
    obtain ⟨x, r, rfl, h⟩ := ax_r1_of h
    obtain ⟨h1, h⟩ := ax_cond_of h
    have h1 : a < L.length := Nat.le_of_ble_eq_true h1
    exact lv_astore_n (x := μ x) hx hb hd (Nat.eq_of_beq_eq_true hpok) (ax_lv_has hl) (Nat.lt_of_lt_of_le h1 hl.2.1) rfl (fun ls' h' => hK _ _ _ _ h H locs ls' (hl.sv (v := .ref x) h') hP hS)
  | astore n =>
    obtain rfl := hlen rfl
    intro H locs ls hl hP hS
    obtain ⟨x, r, rfl, h⟩ := ax_r1_of h
    obtain ⟨h1, h⟩ := ax_cond_of h
    have h1 : a < L.length := Nat.le_of_ble_eq_true h1
    have hpok : n = a := Nat.eq_of_beq_eq_true hpok
    subst hpok
    exact lv_astore (x := μ x) hx hb hd (ax_lv_has hl) (Nat.lt_of_lt_of_le h1 hl.2.1) rfl (fun ls' h' => hK _ _ _ _ h H locs ls' (hl.sv (v := .ref x) h') hP hS)
  | iinc n dd =>
    obtain rfl := hlen rfl
    intro H locs ls hl hP hS
    obtain ⟨x, hx1, h⟩ := ax_li_of h
    simp only [ax_pok, Bool.and_eq_true, decide_eq_true_eq, Nat.beq_eq] at hpok
    obtain ⟨rfl, h2⟩ := hpok
    have hmem : (n, Value.int x) ∈ ax_ls μ 0 L := (ax_ls_mem μ L 0 _).mpr ⟨n, .int x, by rw [Nat.zero_add]; rfl, hx1⟩
    obtain ⟨k, hk⟩ := List.getElem?_of_mem hmem
    have hn : n < nL0 := by
      have h3 := hl.2.2.2 _ _ hx1
      have := lv_lt h3
      rw [hl.1] at this
      exact this
    exact lv_iinc (x := x) (v := x + v) hx hb hd (ax_lv_has hl) hk (by rw [h2]) hn rfl (fun ls' h' => hK _ _ _ _ h H locs ls' (hl.sv (v := .int (x + v)) h') hP hS)
  | iadd =>
    obtain rfl := hlen rfl
    intro H locs ls hl hP hS
    obtain ⟨x, y, r, rfl, h⟩ := ax_i2_of h
    exact lv_iadd hx hb hd (hK _ _ _ _ h H locs ls hl hP hS)
  | isub =>
    obtain rfl := hlen rfl
    intro H locs ls hl hP hS
    obtain ⟨x, y, r, rfl, h⟩ := ax_i2_of h
    exact lv_isub hx hb hd (hK _ _ _ _ h H locs ls hl hP hS)
  | imul =>
    obtain rfl := hlen rfl
    intro H locs ls hl hP hS
    obtain ⟨x, y, r, rfl, h⟩ := ax_i2_of h
    exact lv_imul hx hb hd (hK _ _ _ _ h H locs ls hl hP hS)
  | iand =>
    obtain rfl := hlen rfl
    intro H locs ls hl hP hS
    obtain ⟨x, y, r, rfl, h⟩ := ax_i2_of h
    exact lv_iand hx hb hd (hK _ _ _ _ h H locs ls hl hP hS)
  | ior =>
    obtain rfl := hlen rfl
    intro H locs ls hl hP hS
    obtain ⟨x, y, r, rfl, h⟩ := ax_i2_of h
    exact lv_ior hx hb hd (hK _ _ _ _ h H locs ls hl hP hS)
  | ixor =>
    obtain rfl := hlen rfl
    intro H locs ls hl hP hS
    obtain ⟨x, y, r, rfl, h⟩ := ax_i2_of h
    exact lv_ixor hx hb hd (hK _ _ _ _ h H locs ls hl hP hS)
  | idiv =>
    obtain rfl := hlen rfl
    intro H locs ls hl hP hS
    obtain ⟨x, y, r, rfl, h1, h⟩ := ax_i2_of h
    exact lv_idiv hx hb hd h1 (hK _ _ _ _ h H locs ls hl hP hS)
  | irem =>
    obtain rfl := hlen rfl
    intro H locs ls hl hP hS
    obtain ⟨x, y, r, rfl, h1, h⟩ := ax_i2_of h
    exact lv_irem hx hb hd h1 (hK _ _ _ _ h H locs ls hl hP hS)
  | ineg =>
    obtain rfl := hlen rfl
    intro H locs ls hl hP hS
    obtain ⟨x, r, rfl, h⟩ := ax_i1_of h
    exact lv_ineg hx hb hd (hK _ _ _ _ h H locs ls hl hP hS)
  | ishl =>
    obtain rfl := hlen rfl
    intro H locs ls hl hP hS
    obtain ⟨x, y, r, rfl, h⟩ := ax_i2_of h
    exact lv_ishl hx hb hd (hK _ _ _ _ h H locs ls hl hP hS)
  | ishr =>
    obtain rfl := hlen rfl
    intro H locs ls hl hP hS
    obtain ⟨x, y, r, rfl, h⟩ := ax_i2_of h
    exact lv_ishr hx hb hd (hK _ _ _ _ h H locs ls hl hP hS)
  | iushr =>
    obtain rfl := hlen rfl
    intro H locs ls hl hP hS
    obtain ⟨x, y, r, rfl, h⟩ := ax_i2_of h
    exact lv_iushr hx hb hd rfl (hK _ _ _ _ h H locs ls hl hP hS)
  | ladd =>
    obtain rfl := hlen rfl
    intro H locs ls hl hP hS
    obtain ⟨x, y, r, rfl, h⟩ := ax_l2_of h
    exact lv_ladd hx hb hd (hK _ _ _ _ h H locs ls hl hP hS)
  | lsub =>
    obtain rfl := hlen rfl
    intro H locs ls hl hP hS
    obtain ⟨x, y, r, rfl, h⟩ := ax_l2_of h
    exact lv_lsub hx hb hd (hK _ _ _ _ h H locs ls hl hP hS)
  | lmul =>
    obtain rfl := hlen rfl
    intro H locs ls hl hP hS
    obtain ⟨x, y, r, rfl, h⟩ := ax_l2_of h
    exact lv_lmul hx hb hd (hK _ _ _ _ h H locs ls hl hP hS)
  | land =>
    obtain rfl := hlen rfl
    intro H locs ls hl hP hS
    obtain ⟨x, y, r, rfl, h⟩ := ax_l2_of h
    exact lv_land hx hb hd (hK _ _ _ _ h H locs ls hl hP hS)
  | lor =>
    obtain rfl := hlen rfl
    intro H locs ls hl hP hS
    obtain ⟨x, y, r, rfl, h⟩ := ax_l2_of h
    exact lv_lor hx hb hd (hK _ _ _ _ h H locs ls hl hP hS)
  | ldiv =>
    obtain rfl := hlen rfl
    intro H locs ls hl hP hS
    obtain ⟨x, y, r, rfl, h1, h⟩ := ax_l2_of h
    exact lv_ldiv hx hb hd h1 (hK _ _ _ _ h H locs ls hl hP hS)
  | lcmp =>
    obtain rfl := hlen rfl
    intro H locs ls hl hP hS
    obtain ⟨x, y, r, rfl, h⟩ := ax_l2_of h
    exact W.lcmp hx hb hd (hK _ _ _ _ h H locs ls hl hP hS)
  | lshl =>
    obtain rfl := hlen rfl
    intro H locs ls hl hP hS
    obtain ⟨x, y, r, rfl, h⟩ := ax_li2_of h
    exact lv_lshl hx hb hd rfl (hK _ _ _ _ h H locs ls hl hP hS)
  | lshr =>
    obtain rfl := hlen rfl
    intro H locs ls hl hP hS
    obtain ⟨x, y, r, rfl, h⟩ := ax_li2_of h
    exact lv_lshr hx hb hd rfl (hK _ _ _ _ h H locs ls hl hP hS)
  | lushr =>
    obtain rfl := hlen rfl
    intro H locs ls hl hP hS
    obtain ⟨x, y, r, rfl, h⟩ := ax_li2_of h
    exact lv_lushr hx hb hd rfl (hK _ _ _ _ h H locs ls hl hP hS)
  | i2l =>
    obtain rfl := hlen rfl
    intro H locs ls hl hP hS
    obtain ⟨x, r, rfl, h⟩ := ax_i1_of h
    exact lv_i2l hx hb hd rfl (hK _ _ _ _ h H locs ls hl hP hS)
  | l2i =>
    obtain rfl := hlen rfl
    intro H locs ls hl hP hS
    obtain ⟨x, r, rfl, h⟩ := ax_l1_of h
    exact lv_l2i hx hb hd rfl (hK _ _ _ _ h H locs ls hl hP hS)
  | dup =>
    obtain rfl := hlen rfl
    intro H locs ls hl hP hS
    match st, h with
    | .int x :: r, h => exact lv_dup (va := .int x) hx hb hd rfl (hK _ _ _ _ h H locs ls hl hP hS)
    | .ref x :: r, h => exact lv_dup (va := .ref (μ x)) hx hb hd rfl (hK _ _ _ _ h H locs ls hl hP hS)
  | dup2 =>
    obtain rfl := hlen rfl
    intro H locs ls hl hP hS
    obtain ⟨x, j, r, rfl, h⟩ := ax_ri_of h
    exact lv_dup2_11 (va := .int j) (vb := .ref (μ x)) hx hb hd rfl rfl (hK _ _ _ _ h H locs ls hl hP hS)
  | pop =>
    obtain rfl := hlen rfl
    intro H locs ls hl hP hS
    obtain ⟨x, r, rfl, h⟩ := ax_i1_of h
    exact lv_pop (va := .int x) hx hb hd rfl (hK _ _ _ _ h H locs ls hl hP hS)
  | goto o =>
    obtain rfl := hlen rfl
    intro H locs ls hl hP hS
    exact lv_goto hx hb hd (of_decide_eq_true hpok) (hK _ _ _ _ h H locs ls hl hP hS)
  | ifCond cd o =>
    obtain rfl := hlen rfl
    intro H locs ls hl hP hS
    have ht : (pc : Int) + o = (a : Int) := of_decide_eq_true hpok
    cases cd with
    | eq =>
      obtain ⟨x, r, rfl, h⟩ := ax_i1_of h
      exact lv_if_eq hx hb hd ht (fun q => hK _ _ _ _ (h.1 q) H locs ls hl hP hS) (fun q => hK _ _ _ _ (h.2 q) H locs ls hl hP hS)
    | ne =>
      obtain ⟨x, r, rfl, h⟩ := ax_i1_of h
      exact lv_if_ne hx hb hd ht (fun q => hK _ _ _ _ (h.2 q) H locs ls hl hP hS) (fun q => hK _ _ _ _ (h.1 q) H locs ls hl hP hS)
    | lt =>
      obtain ⟨x, r, rfl, h⟩ := ax_i1_of h
      exact lv_if_lt hx hb hd ht (fun q => hK _ _ _ _ (h.1 q) H locs ls hl hP hS) (fun q => hK _ _ _ _ (h.2 q) H locs ls hl hP hS)
    | ge =>
      obtain ⟨x, r, rfl, h⟩ := ax_i1_of h
      exact lv_if_ge hx hb hd ht (fun q => hK _ _ _ _ (h.2 (Int32.not_lt.mpr q)) H locs ls hl hP hS) (fun q => hK _ _ _ _ (h.1 (Int32.not_le.mp q)) H locs ls hl hP hS)
    | gt =>
      obtain ⟨x, r, rfl, h⟩ := ax_i1_of h
      exact lv_if_gt hx hb hd ht (fun q => hK _ _ _ _ (h.1 q) H locs ls hl hP hS) (fun q => hK _ _ _ _ (h.2 q) H locs ls hl hP hS)
    | le =>
      obtain ⟨x, r, rfl, h⟩ := ax_i1_of h
      exact lv_if_le hx hb hd ht (fun q => hK _ _ _ _ (h.2 (Int32.not_lt.mpr q)) H locs ls hl hP hS) (fun q => hK _ _ _ _ (h.1 (Int32.not_le.mp q)) H locs ls hl hP hS)
  | if_icmp cd o =>
    obtain rfl := hlen rfl
    intro H locs ls hl hP hS
    have ht : (pc : Int) + o = (a : Int) := of_decide_eq_true hpok
    cases cd with
    | eq =>
      obtain ⟨x, y, r, rfl, h⟩ := ax_i2_of h
      exact lv_icmp_eq hx hb hd ht (fun q => hK _ _ _ _ (h.1 q) H locs ls hl hP hS) (fun q => hK _ _ _ _ (h.2 q) H locs ls hl hP hS)
    | ne =>
      obtain ⟨x, y, r, rfl, h⟩ := ax_i2_of h
      exact lv_icmp_ne hx hb hd ht (fun q => hK _ _ _ _ (h.2 q) H locs ls hl hP hS) (fun q => hK _ _ _ _ (h.1 q) H locs ls hl hP hS)
    | lt =>
      obtain ⟨x, y, r, rfl, h⟩ := ax_i2_of h
      exact lv_icmp_lt hx hb hd ht (fun q => hK _ _ _ _ (h.1 q) H locs ls hl hP hS) (fun q => hK _ _ _ _ (h.2 q) H locs ls hl hP hS)
    | ge =>
      obtain ⟨x, y, r, rfl, h⟩ := ax_i2_of h
      exact lv_icmp_ge hx hb hd ht (fun q => hK _ _ _ _ (h.2 (Int32.not_lt.mpr q)) H locs ls hl hP hS) (fun q => hK _ _ _ _ (h.1 (Int32.not_le.mp q)) H locs ls hl hP hS)
    | gt =>
      obtain ⟨x, y, r, rfl, h⟩ := ax_i2_of h
      exact lv_icmp_gt hx hb hd ht (fun q => hK _ _ _ _ (h.1 q) H locs ls hl hP hS) (fun q => hK _ _ _ _ (h.2 q) H locs ls hl hP hS)
    | le =>
      obtain ⟨x, y, r, rfl, h⟩ := ax_i2_of h
      exact lv_icmp_le hx hb hd ht (fun q => hK _ _ _ _ (h.2 (Int32.not_lt.mpr q)) H locs ls hl hP hS) (fun q => hK _ _ _ _ (h.1 (Int32.not_le.mp q)) H locs ls hl hP hS)
  | ifnull o =>
    obtain rfl := hlen rfl
    intro H locs ls hl hP hS
    match st, h with
    | .ref x :: r, h => exact lv_ifnull (x := μ x) hx hb hd (hK _ _ _ _ h H locs ls hl hP hS)
    | .null :: r, h => exact lv_ifnullN hx hb hd (of_decide_eq_true hpok) (hK _ _ _ _ h H locs ls hl hP hS)
  | tableswitch d lo hi offs =>
    intro H locs ls hl hP hS
    obtain ⟨x, r, rfl, h⟩ := ax_i1_of h
    obtain ⟨hp1, hp2, hp3, hp4⟩ := of_decide_eq_true hpok
    rcases ax_sw_ok h with ⟨q, hq, h1, h2⟩ | ⟨h1, h2⟩
    · obtain ⟨j, hj⟩ := List.getElem?_of_mem hq
      have hjl := (List.getElem?_eq_some_iff.mp hj).1
      have e3 : (sw.map (fun q => q.1.toInt))[j]? = some q.1.toInt := by rw [List.getElem?_map, hj]; rfl
      rw [hp3, List.getElem?_map, List.getElem?_range hjl] at e3
      have e3 : lo + (j : Int) = q.1.toInt := Option.some.inj e3
      have e2 : (sw.map (fun q => (q.2 : Int)))[j]? = some (q.2 : Int) := by rw [List.getElem?_map, hj]; rfl
      rw [← hp2, List.getElem?_map] at e2
      cases ho : offs.toList[j]? with
      | none => rw [ho] at e2; cases e2
      | some off =>
        rw [ho] at e2
        have e2 : (pc : Int) + off = (q.2 : Int) := Option.some.inj e2
        have hxe : x.toInt = lo + (j : Int) := by rw [h1, e3]
        refine lv_tableIn (off := off) (tgt := q.2) hx hb hd (by omega) (by omega) ?_ e2 (hK _ _ _ _ h2 H locs ls hl hP hS)
        rw [show (x.toInt - lo).toNat = j by omega, ← Array.getElem?_toList]
        exact ho
    · refine lv_tableOut hx hb hd ?_ hp1 (hK _ _ _ _ h2 H locs ls hl hP hS)
      by_cases hlo : x.toInt < lo
      · exact Or.inl hlo
      · right
        by_cases hhi : hi < x.toInt
        · exact hhi
        · exfalso
          have hj : (x.toInt - lo).toNat < sw.length := by omega
          obtain ⟨q, hq⟩ : ∃ q, sw[(x.toInt - lo).toNat]? = some q := ⟨_, List.getElem?_eq_getElem hj⟩
          have e3 : (sw.map (fun q => q.1.toInt))[(x.toInt - lo).toNat]? = some q.1.toInt := by rw [List.getElem?_map, hq]; rfl
          rw [hp3, List.getElem?_map, List.getElem?_range hj] at e3
          have e3 : lo + ((x.toInt - lo).toNat : Int) = q.1.toInt := Option.some.inj e3
          exact h1 q (List.mem_of_getElem? hq) (Int32.toInt_inj.mp (by omega))
  | lookupswitch d ps =>
    intro H locs ls hl hP hS
    obtain ⟨x, r, rfl, h⟩ := ax_i1_of h
    obtain ⟨hp1, hp2, hp3⟩ := of_decide_eq_true hpok
    have key : ∀ (pl : List (Int × Int)) (sl : List (Int32 × Nat)), pl.map (fun q => (q.1, (pc : Int) + q.2)) = sl.map (fun q => (q.1.toInt, (q.2 : Int))) → ax_sw x a (fun t => K t L r σ) sl → ∃ tgt : Nat, (pc : Int) + Op.lookupswitch.offset pl d x.toInt = (tgt : Int) ∧ K tgt L r σ := by
      intro pl
      induction pl with
      | nil =>
        intro sl he hs
        cases sl with
        | nil => exact ⟨a, hp1, hs⟩
        | cons q sl => cases he
      | cons q pl ih =>
        intro sl he hs
        cases sl with
        | nil => cases he
        | cons q' sl =>
          simp only [List.map_cons, List.cons.injEq, Prod.mk.injEq] at he
          obtain ⟨⟨e1, e2⟩, e3⟩ := he
          by_cases hc : x = q'.1
          · refine ⟨q'.2, ?_, hs.1 hc⟩
            rw [Op.lookupswitch.offset_cons, if_pos (by rw [hc, ← e1])]
            exact e2
          · obtain ⟨tgt, g1, g2⟩ := ih sl e3 (hs.2 hc)
            refine ⟨tgt, ?_, g2⟩
            rw [Op.lookupswitch.offset_cons, if_neg]
            · exact g1
            · intro q9
              exact hc (Int32.toInt_inj.mp (by omega))
    obtain ⟨tgt, g1, g2⟩ := key ps.toList sw hp2 h
    exact lv_lookup hx hb hd hp3 rfl g1 (hK _ _ _ _ g2 H locs ls hl hP hS)
  | getfield n =>
    obtain rfl := hlen rfl
    intro H locs ls hl hP hS
    obtain ⟨x, r, rfl, h⟩ := ax_r1_of h
    obtain ⟨nn, fs, hsh, h⟩ := ax_cell_of h
    obtain ⟨CC, T, N, hcl, hbN, hin, hT, hlk⟩ := ax_fok_of hpok
    have he : (ax_ws μ cI cZ σ)[x]? = some (μ x, .inr (a, ax_fs μ σ x fs)) := by rw [ax_ws_at, hsh]; rfl
    have key : ∀ w : Value, (ax_fs μ σ x fs)[b]? = some (ax_vm μ w) → K (pc + 3) L (w :: r) σ → W p l e R s m args below meth c H locs cells slots Q (F0 m pc ls (.ref (μ x) :: r.map (ax_vm μ))) := by
      intro w hw hk
      rcases hlk with hlk | hlk
      · exact va_get hx hb hts hin hown hKK hP x he hcl b hbN (hts _ hlk) (fun _ h9 => h9) hw hd (hK _ _ _ _ hk H locs ls hl hP hS)
      · exact va_getN hx hb hts hin hown hKK hP x he hcl b hbN (hts _ hlk) (fun _ h9 => h9) hw hd (hK _ _ _ _ hk H locs ls hl hP hS)
    unfold ax_fld at h
    split at h
    · rename_i hf
      exact key (.int (σ x b)) (by unfold ax_fs; rw [List.getElem?_mapIdx, hf]; rfl) h
    · rename_i hf
      exact key .null (by unfold ax_fs; rw [List.getElem?_mapIdx, hf]; rfl) h
    · rename_i rr hf
      exact key (.ref rr) (by unfold ax_fs; rw [List.getElem?_mapIdx, hf]; rfl) h
    · exact h.elim
  | putfield n =>
    obtain rfl := hlen rfl
    intro H locs ls hl hP hS
    simp only [ax_pok, Bool.and_eq_true, decide_eq_true_eq] at hpok
    obtain ⟨hpok, hfin, hdes⟩ := hpok
    match st, h with
    | .int w :: .ref x :: r, h =>
      obtain ⟨nn, fs, hsh, h⟩ := ax_cell_of (k := fun _ fs => ax_pf b fs (K (pc + 3) L r (ax_us σ x b w))) h
      obtain ⟨CC, T, N, hcl, hbN, hin, hT, hlk⟩ := ax_fok_of hpok
      obtain ⟨⟨ty0, hty⟩, hnm⟩ := ax_ty_in _ (List.mem_of_getElem? hcl)
      rw [hT] at hfin hdes
      have he : (ax_ws μ cI cZ σ)[x]? = some (μ x, .inr (a, ax_fs μ σ x fs)) := by rw [ax_ws_at, hsh]; rfl
      have hf : fs[b]? = some none ∧ K (pc + 3) L r (ax_us σ x b w) := by
        unfold ax_pf at h
        split at h
        · exact ⟨by assumption, h⟩
        · exact h.elim
      obtain ⟨hf, h⟩ := hf
      have hbl : b < (ax_fs μ σ x fs).length := by
        unfold ax_fs
        rw [List.length_mapIdx]
        exact (List.getElem?_eq_some_iff.mp hf).1
      have hset : (ax_ws μ cI cZ σ).set x (μ x, .inr (a, (ax_fs μ σ x fs).set b (.int w))) = ax_ws μ cI cZ (ax_us σ x b w) := by
        rw [ax_us_uc, ← ax_ws_uc μ cI cZ σ x _ _ hsh, ← ax_fs_put μ σ x b w fs hf]
        rfl
      have hd1 : parseFieldDescriptor (T b).2.2.1 = some .int := by rw [hdes]; decide
      have kk : ∀ (H1 : Heap) (locs1 : List Loc), va_P D vwCl ((ax_ws μ cI cZ σ).set x (μ x, .inr (a, (ax_fs μ σ x fs).set b (.int w)))) H1 → va_D A ((ax_ws μ cI cZ σ).set x (μ x, .inr (a, (ax_fs μ σ x fs).set b (.int w)))) → va_S A s.heap H1 locs1 → W p l e R s m args below meth c H1 locs1 cells slots Q (F0 m (pc + 3) ls (r.map (ax_vm μ))) := by
        intro H1 locs1 hP1 _ hS1
        rw [hset] at hP1
        exact hK _ _ _ _ h H1 locs1 ls hl hP1 hS1
      rcases hlk with hlk | hlk
      · exact va_put hx hb hts hin ty0 hty hnm hown hKK hP (had.D cI cZ σ) hS x he hcl b hbN (hts _ hlk) (fun _ h9 => h9) hfin hd1 rfl rfl hbl hd kk
      · exact va_putN hx hb hts hin ty0 hty hnm hown hKK hP (had.D cI cZ σ) hS x he hcl b hbN (hts _ hlk) (fun _ h9 => h9) hfin hd1 rfl rfl hbl hd kk
  | iaload =>
    obtain rfl := hlen rfl
    intro H locs ls hl hP hS
    obtain ⟨x, j, r, e0, hn⟩ := ax_ri_of h
    clear h
    subst e0
    have h := hn
    cases hx2 : Nat.beq x 2000 with
    | true =>
      rw [hx2] at h
      have hx3 : x = 2000 := Nat.eq_of_beq_eq_true hx2
      subst hx3
      match scr, hX, h with
      | some (n, xs), hX, h =>
        obtain ⟨g1, g2, g3⟩ := hX n xs rfl
        exact va_sld hx hb g1 g2 g3 hS h.1 hd (hK _ _ _ _ h.2 H locs ls hl hP hS)
    | false =>
      rw [hx2] at h
      obtain ⟨nn, fs, hsh, h1, h⟩ := ax_cell_of h
      have he : (ax_ws μ cI cZ σ)[x]? = some (μ x, .inl (cI, nn, .inl (σ x))) := by rw [ax_ws_at, hsh]; rfl
      exact va_iald hx hb hKK hP x 0 he rfl h1 hd (hK _ _ _ _ h H locs ls hl hP hS)
  | baload =>
    obtain rfl := hlen rfl
    intro H locs ls hl hP hS
    obtain ⟨x, j, r, rfl, h⟩ := ax_ri_of h
    obtain ⟨nn, fs, hsh, h1, h⟩ := ax_cell_of h
    have he : (ax_ws μ cI cZ σ)[x]? = some (μ x, .inl (cZ, nn, .inl (σ x))) := by rw [ax_ws_at, hsh]; rfl
    exact va_zald hx hb hKK hP x 1 he rfl h1 hd (hK _ _ _ _ h H locs ls hl hP hS)
  | iastore =>
    obtain rfl := hlen rfl
    intro H locs ls hl hP hS
    obtain ⟨x, j, w, r, rfl, h⟩ := ax_rii_of h
    obtain ⟨nn, fs, hsh, h1, h⟩ := ax_cell_of h
    have he : (ax_ws μ cI cZ σ)[x]? = some (μ x, .inl (cI, nn, .inl (σ x))) := by rw [ax_ws_at, hsh]; rfl
    have hset : (ax_ws μ cI cZ σ).set x (μ x, .inl (cI, nn, .inl (upd (σ x) j.toNatClampNeg w))) = ax_ws μ cI cZ (ax_us σ x j.toNatClampNeg w) := by
      rw [ax_us_uc, ← ax_ws_uc μ cI cZ σ x _ _ hsh]
      simp only [ax_ce, ax_uc_s]
    refine va_iast hx hb hKK hP (had.D cI cZ σ) hS x 0 he rfl h1 hd (fun H1 locs1 hP1 _ hS1 => ?_)
    rw [hset] at hP1
    exact hK _ _ _ _ h H1 locs1 ls hl hP1 hS1
  | bastore =>
    obtain rfl := hlen rfl
    intro H locs ls hl hP hS
    obtain ⟨x, j, w, r, rfl, h⟩ := ax_rii_of h
    obtain ⟨nn, fs, hsh, h1, h⟩ := ax_cell_of h
    have he : (ax_ws μ cI cZ σ)[x]? = some (μ x, .inl (cZ, nn, .inl (σ x))) := by rw [ax_ws_at, hsh]; rfl
    have hset : (ax_ws μ cI cZ σ).set x (μ x, .inl (cZ, nn, .inl (upd (σ x) j.toNatClampNeg (vp_nar .boolean w)))) = ax_ws μ cI cZ (ax_us σ x j.toNatClampNeg (vp_nar .boolean w)) := by
      rw [ax_us_uc, ← ax_ws_uc μ cI cZ σ x _ _ hsh]
      simp only [ax_ce, ax_uc_s]
    refine va_zast hx hb hKK hP (had.D cI cZ σ) hS x 1 he rfl h1 hd (fun H1 locs1 hP1 _ hS1 => ?_)
    rw [hset] at hP1
    exact hK _ _ _ _ h H1 locs1 ls hl hP1 hS1
  | arraylength =>
    obtain rfl := hlen rfl
    intro H locs ls hl hP hS
    obtain ⟨x, r, e0, hn⟩ := ax_r1_of h
    clear h
    subst e0
    have h := hn
    cases hx2 : Nat.beq x 2000 with
    | true =>
      rw [hx2] at h
      have hx3 : x = 2000 := Nat.eq_of_beq_eq_true hx2
      subst hx3
      match scr, hX, h with
      | some (n, xs), hX, h =>
        obtain ⟨g1, g2, g3⟩ := hX n xs rfl
        exact va_slen hx hb g1 g2 g3 hS hd (hK _ _ _ _ h H locs ls hl hP hS)
    | false =>
      rw [hx2] at h
      obtain ⟨nn, fs, hsh, h⟩ := ax_cell_of h
      have he : (ax_ws μ cI cZ σ)[x]? = some (μ x, .inl (cI, nn, .inl (σ x))) := by rw [ax_ws_at, hsh]; rfl
      exact va_alen hx hb hKK hP x 0 he rfl rfl hd (hK _ _ _ _ h H locs ls hl hP hS)
  | invokevirtual n =>
    obtain rfl := hlen rfl
    obtain ⟨bs, r', hbs, e0, hn⟩ := ax_pop_of _ _ _ _ h
    clear h
    subst e0
    rw [List.append_nil] at hn
    obtain ⟨x, r, e1, h⟩ := ax_r1_of hn
    clear hn
    subst e1
    obtain ⟨hcat, hq⟩ := ax_cond_of h
    clear h
    have h := hq
    clear hq
    have hcat := Nat.le_of_ble_eq_true hcat
    have hpok := hpok
    simp only [ax_pok, Bool.and_eq_true] at hpok
    obtain ⟨hmok, hpok⟩ := hpok
    have hli := ax_mok_of hmok
    split at h
    · simp only [Bool.and_eq_true, Nat.beq_eq, Nat.ble_eq] at hpok
      obtain ⟨⟨rfl, hf2⟩, hl2⟩ := hpok
      have hbs0 : bs = [] := List.length_eq_zero_iff.mp hbs
      subst hbs0
      split at h
      · split at h
        · rename_i t ht
          obtain ⟨hx1, h⟩ := ax_cond_of h
          rcases hli with hli | hli
          · exact ax_strlen cx0 hli hf2 hl2 (Nat.le_of_ble_eq_true hx1) ht hcat hd (hK _ _ _ _ h)
          · exact absurd (List.mem_filter.mp hli).1 (ax_nonest _ _ _ (Or.inl rfl))
        · exact h.elim
      · exact h.elim
    · simp only [Bool.and_eq_true, Nat.beq_eq, Nat.ble_eq] at hpok
      obtain ⟨⟨rfl, hf2⟩, hl2⟩ := hpok
      split at h
      · rename_i i hrev
        have hbs0 : bs = [.int i] := by
          have := congrArg List.reverse hrev
          rw [List.reverse_reverse] at this
          exact this
        subst hbs0
        split at h
        · rename_i t ht
          obtain ⟨hx1, h1, h⟩ := ax_cond_of h
          rcases hli with hli | hli
          · exact ax_strchr cx0 hli hf2 hl2 (Nat.le_of_ble_eq_true hx1) ht h1 hcat hd (hK _ _ _ _ h)
          · exact absurd (List.mem_filter.mp hli).1 (ax_nonest _ _ _ (Or.inr rfl))
        · exact h.elim
      · exact h.elim
    · rename_i ha7 ha8
      have hpok : ax_cok (cc, true) (0, false) fr0 lo0 b sw ax_mis[a]? = true := by
        split at hpok
        · exact absurd rfl ha7
        · exact absurd rfl ha8
        · exact hpok
      obtain ⟨m', hm', g0, g1, g2, g3, g4, g5, g6⟩ := ax_cok_of hpok
      obtain ⟨nn, fs, hsh, h⟩ := ax_cell_of h
      obtain ⟨hsz, QQ, h, hQQ⟩ := ax_go_of g5 h
      have hE := hC _ _ _ _ h
      have hE : ax_E l m' 0 (ax_en m'.2.2.1 (.ref x :: bs.reverse)) [] σ QQ := by
        have hE2 : ax_E l (ax_m a) 0 _ [] σ _ := hE
        rw [ax_m_of hm'] at hE2
        exact hE2
      have hnm : ax_nm a = m'.1 := by
        have ha9 : a ≠ 999 := by
          intro e9
          rw [e9] at hm'
          cases hm'
        have : ax_nm a = (ax_m a).1 := by
          unfold ax_nm
          split
          · exact absurd rfl ha7
          · exact absurd rfl ha8
          · exact absurd rfl ha9
          · rfl
        rw [this, ax_m_of hm']
      rw [hnm] at hli
      intro H locs ls hl hP hS
      refine ax_callQ (ax_runV (as := bs.reverse) (r := r) cx0 hm' g0 g1 g3 g4 g6 (by rw [List.length_reverse]; exact hbs) hli (by rw [g2]; exact hsh) hsz hE hP hS hl.1 hcat hd _ (by rw [List.reverse_reverse])) hS (ax_ad_le had) (fun o σ' H1 locs1 hk hP1 hS1 => ?_)
      have := hK _ _ _ _ (hQQ _ _ hk) H1 locs1 ls hl hP1 hS1
      rw [List.map_append] at this
      cases o with
      | none => exact this
      | some v => exact this
  | invokestatic n =>
    obtain rfl := hlen rfl
    obtain ⟨bs, r, hbs, e0, hn⟩ := ax_pop_of _ _ _ _ h
    clear h
    subst e0
    rw [List.append_nil] at hn
    have h := hn
    clear hn
    obtain ⟨hcat, hq⟩ := ax_cond_of h
    clear h
    have h := hq
    clear hq
    have hcat := Nat.le_of_ble_eq_true hcat
    have hpok := hpok
    simp only [ax_pok, Bool.and_eq_true] at hpok
    obtain ⟨hmok, hpok⟩ := hpok
    have hli := ax_mok_of hmok
    split at h
    · simp only [Bool.and_eq_true, Nat.beq_eq, Nat.ble_eq] at hpok
      obtain ⟨⟨rfl, hf2⟩, hl2⟩ := hpok
      split at h
      · rename_i x sp y dp k hrev
        have hbs0 : bs = [.int k, .int dp, .ref y, .int sp, .ref x] := by
          have := congrArg List.reverse hrev
          rw [List.reverse_reverse] at this
          exact this
        subst hbs0
        obtain ⟨nx, fx, hshx, h⟩ := ax_cell_of h
        obtain ⟨ny, fy, hshy, h⟩ := ax_cell_of h
        obtain ⟨⟨h1, h2, h3, h4, h5⟩, h⟩ := h
        intro H locs ls hl hP hS
        have hex : (ax_ws μ cI cZ σ)[x]? = some (μ x, .inl (cI, nx, .inl (σ x))) := by rw [ax_ws_at, hshx]; rfl
        have hey : (ax_ws μ cI cZ σ)[y]? = some (μ y, .inl (cI, ny, .inl (σ y))) := by rw [ax_ws_at, hshy]; rfl
        have hset : (ax_ws μ cI cZ σ).set y (μ y, .inl (cI, ny, .inl (va_cpy (σ x) (σ y) sp.toNatClampNeg dp.toNatClampNeg k.toNatClampNeg))) = ax_ws μ cI cZ (ax_uc σ y (va_cpy (σ x) (σ y) sp.toNatClampNeg dp.toNatClampNeg k.toNatClampNeg)) := by
          rw [← ax_ws_uc μ cI cZ σ y _ _ hshy]
          simp only [ax_ce, ax_uc_s]
        rcases hli with hli | hli
        · refine va_copyi hx hb (by rw [hml]; exact hl.1.symm) hown (hts _ hli) (hts _ ax_w_nat) (hts _ ax_w_sta) (hts _ ax_w_ini) hKK hP (had.D cI cZ σ) hS x y 0 0 hex hey rfl rfl rfl h1 h2 h3 h4 h5 (fun _ _ => rfl) (Nat.le_trans hf2 hR1) ?_ hd (fun H1 locs1 hP1 _ hS1 => ?_)
          · have e7 : nativeFrameWords "java/lang/System" "arraycopy" 5 = 7 := by decide
            have hc8 : ((r.map (ax_vm μ)).map fun v => v.category).sum ≤ 8 := by rw [ax_cat_sum]; exact hcat
            have h26 : 26 ≤ lo0 := hl2
            have hlo0 : lo0 ≤ R.locals := hR2
            show ((r.map (ax_vm μ)).map fun v => v.category).sum + (nativeFrameWords "java/lang/System" "arraycopy" 5 + 11) ≤ R.locals
            rw [e7]
            omega
          · rw [hset] at hP1
            exact hK _ _ _ _ h H1 locs1 ls hl hP1 hS1
        · exact absurd (List.mem_filter.mp hli).1 (ax_nonest2 _ _ _ rfl)
      · exact h.elim
    · rename_i ha9
      have hpok : ax_cok (cc, true) (0, true) fr0 lo0 b sw ax_mis[a]? = true := by
        split at hpok
        · exact absurd rfl ha9
        · exact hpok
      obtain ⟨m', hm', g0, g1, g2, g3, g4, g5, g6⟩ := ax_cok_of hpok
      obtain ⟨hsz, QQ, h, hQQ⟩ := ax_go_of g5 h
      have hE := hC _ _ _ _ h
      have hE : ax_E l m' 0 (ax_en m'.2.2.1 bs.reverse) [] σ QQ := by
        have hE2 : ax_E l (ax_m a) 0 _ [] σ _ := hE
        rw [ax_m_of hm'] at hE2
        exact hE2
      have hnm : ax_nm a = m'.1 := by
        have ha7 : a ≠ 997 := by
          intro e9
          rw [e9] at hm'
          cases hm'
        have ha8 : a ≠ 998 := by
          intro e9
          rw [e9] at hm'
          cases hm'
        have : ax_nm a = (ax_m a).1 := by
          unfold ax_nm
          split
          · exact absurd rfl ha7
          · exact absurd rfl ha8
          · exact absurd rfl ha9
          · rfl
        rw [this, ax_m_of hm']
      rw [hnm] at hli
      intro H locs ls hl hP hS
      refine ax_callQ (ax_runS (as := bs.reverse) (r := r) cx0 hm' g0 g1 g3 g4 g6 (by rw [List.length_reverse]; exact hbs) hli hsz hE hP hS hl.1 hcat hd _ (by rw [List.reverse_reverse])) hS (ax_ad_le had) (fun o σ' H1 locs1 hk hP1 hS1 => ?_)
      have := hK _ _ _ _ (hQQ _ _ hk) H1 locs1 ls hl hP1 hS1
      rw [List.map_append] at this
      cases o with
      | none => exact this
      | some v => exact this
  | ireturn =>
    obtain rfl := hlen rfl
    match st, h with
    | [.int x], h =>
      rcases of_decide_eq_true hpok with ⟨rfl, hr⟩ | ⟨rfl, hr⟩
      · exact hI pc x L σ hd (Or.inl hr) h
      · exact hI pc x L σ hd (Or.inr ⟨hr, h.1⟩) h.2
  | areturn =>
    obtain rfl := hlen rfl
    match st, h with
    | [.ref x], h => exact hA pc x L σ hd (of_decide_eq_true hpok) h
  | return_ =>
    obtain rfl := hlen rfl
    match st, h with
    | [], h => exact hV pc L σ hd (of_decide_eq_true hpok) h
  | _ => exact h.elim
end AxSound
section AxBlk
theorem ax_fd_mem : ∀ (rs : List ax_Rw) (pc : Nat) (r : ax_Rw), ax_fd rs pc = some r → r ∈ rs ∧ r.1 = pc
  | [], pc, r, h => by cases h
  | q :: rs, pc, r, h => by
    have h : cond (Nat.beq q.1 pc) (some q) (ax_fd rs pc) = some r := h
    cases hb : Nat.beq q.1 pc with
    | true =>
      rw [hb] at h
      cases h
      exact ⟨List.mem_cons_self, Nat.eq_of_beq_eq_true hb⟩
    | false =>
      rw [hb] at h
      obtain ⟨h1, h2⟩ := ax_fd_mem rs pc r h
      exact ⟨List.mem_cons_of_mem _ h1, h2⟩
theorem ax_rw_ok {m0 : ax_Mi} {t : List (List ax_Rw)} (hc : ax_chk m0 t = true) {pc : Nat} {r : ax_Rw} (h : ax_rw t pc = some r) : ax_rok m0 r = true ∧ r.1 = pc := by
  unfold ax_rw at h
  split at h
  · rename_i rs hrs
    obtain ⟨h1, h2⟩ := ax_fd_mem rs pc r h
    exact ⟨List.all_eq_true.mp (List.all_eq_true.mp hc rs (List.mem_of_getElem? hrs)) r h1, h2⟩
  · cases h
variable {p : Program} {l : Launch} {e : Env} {R : Room} {s : State} {m : MethodId} {args : Array Value} {below : List Frame} {meth : Method} {c : Code} {cells slots : Nat} {Q : State → Prop}
variable {μ : Nat → Nat} {cI cZ : ClassId} {D : va_G} {A : Nat → Prop} {m0 : ax_Mi} {scr : Option (Nat × (Nat → Int32))}
theorem ax_W.sub {nL pc : Nat} {L L' : ax_Lc} {st : List Value} {σ : ax_Sg} (h : ax_W p l e R s m args below meth c cells slots Q μ cI cZ D A nL pc L' st σ) (hl : L'.length = L.length) (hs : ∀ j w, ax_ld L' j = some w → ax_ld L j = some w) : ax_W p l e R s m args below meth c cells slots Q μ cI cZ D A nL pc L st σ :=
  fun H locs ls hv hP hS => h H locs ls (hv.sub hl hs) hP hS
/-- a stretch of code up to its cuts -/
theorem ax_wp_ok {C : ax_Ca} {P : Option Value → ax_Sg → Prop} {t : List (List ax_Rw)} {ct : List (Nat × List Bool)} {E : Nat → ax_Lc → List Value → ax_Sg → Prop}
    (cx : ax_cx m0 p s m args c R cells slots μ cI cZ D A scr) (hchk : ax_chk m0 t = true)
    (hC : ∀ a L σ Q, C a L σ Q → Ev l a 0 L [] σ Q)
    (hE : ∀ pc L st σ, E pc L st σ → ax_W p l e R s m args below meth c cells slots Q μ cI cZ D A m0.2.2.1 pc L st σ)
    (hI : ∀ pc v L σ, decode m0.2.1 pc = .ok (.ireturn, 1) → (m0.2.2.2.1 = some .int ∨ (m0.2.2.2.1 = some .boolean ∧ vp_nar .boolean v = v)) → P (some (.int v)) σ → ax_W p l e R s m args below meth c cells slots Q μ cI cZ D A m0.2.2.1 pc L [.int v] σ)
    (hA : ∀ pc x L σ, decode m0.2.1 pc = .ok (.areturn, 1) → m0.2.2.2.1 = some (.object "java/lang/String") → P (some (.ref x)) σ → ax_W p l e R s m args below meth c cells slots Q μ cI cZ D A m0.2.2.1 pc L [.ref x] σ)
    (hV : ∀ pc L σ, decode m0.2.1 pc = .ok (.return_, 1) → m0.2.2.2.1 = none → P none σ → ax_W p l e R s m args below meth c cells slots Q μ cI cZ D A m0.2.2.1 pc L [] σ) :
    ∀ (n pc : Nat) (L : ax_Lc) (st : List Value) (σ : ax_Sg), ax_wp t ct E C P scr n pc L st σ → ax_W p l e R s m args below meth c cells slots Q μ cI cZ D A m0.2.2.1 pc L st σ := by
  intro n
  induction n with
  | zero => exact fun pc L st σ h => hE pc L st σ h
  | succ n ih =>
    intro pc L st σ h
    unfold ax_wp at h
    split at h
    · exact (hE _ _ _ _ h).sub (ax_mk_len _ _) (ax_mk_ld _ _)
    · split at h
      · rename_i r hr
        obtain ⟨h1, h2⟩ := ax_rw_ok hchk hr
        subst h2
        exact ax_ex_ok cx h1 hC ih hI hA hV h
      · exact h.elim
theorem ax_bk_ok {C : ax_Ca} {P : Option Value → ax_Sg → Prop} {t : List (List ax_Rw)} {ct : List (Nat × List Bool)} {E : Nat → ax_Lc → List Value → ax_Sg → Prop}
    (cx : ax_cx m0 p s m args c R cells slots μ cI cZ D A scr) (hchk : ax_chk m0 t = true)
    (hC : ∀ a L σ Q, C a L σ Q → Ev l a 0 L [] σ Q)
    (hE : ∀ pc L st σ, E pc L st σ → ax_W p l e R s m args below meth c cells slots Q μ cI cZ D A m0.2.2.1 pc L st σ)
    (hI : ∀ pc v L σ, decode m0.2.1 pc = .ok (.ireturn, 1) → (m0.2.2.2.1 = some .int ∨ (m0.2.2.2.1 = some .boolean ∧ vp_nar .boolean v = v)) → P (some (.int v)) σ → ax_W p l e R s m args below meth c cells slots Q μ cI cZ D A m0.2.2.1 pc L [.int v] σ)
    (hA : ∀ pc x L σ, decode m0.2.1 pc = .ok (.areturn, 1) → m0.2.2.2.1 = some (.object "java/lang/String") → P (some (.ref x)) σ → ax_W p l e R s m args below meth c cells slots Q μ cI cZ D A m0.2.2.1 pc L [.ref x] σ)
    (hV : ∀ pc L σ, decode m0.2.1 pc = .ok (.return_, 1) → m0.2.2.2.1 = none → P none σ → ax_W p l e R s m args below meth c cells slots Q μ cI cZ D A m0.2.2.1 pc L [] σ)
    {n pc : Nat} {L : ax_Lc} {st : List Value} {σ : ax_Sg} (h : ax_bk t ct E C P scr n pc L st σ) : ax_W p l e R s m args below meth c cells slots Q μ cI cZ D A m0.2.2.1 pc L st σ := by
  unfold ax_bk at h
  split at h
  · rename_i r hr
    obtain ⟨h1, h2⟩ := ax_rw_ok hchk hr
    subst h2
    exact ax_ex_ok cx h1 hC (ax_wp_ok cx hchk hC hE hI hA hV n) hI hA hV h
  · exact h.elim
end AxBlk
/-- A STRETCH OF A METHOD, up to its cuts -/
theorem ax_blk {l : Launch} {k : Nat} {m0 : ax_Mi} {t : List (List ax_Rw)} (hm : ax_m k = m0) (hchk : ax_chk m0 t = true) {ct : List (Nat × List Bool)} {n pc : Nat} {L : ax_Lc} {st : List Value} {σ : ax_Sg} {P : Option Value → ax_Sg → Prop}
    (h : ax_bk t ct (fun pc L st σ => Ev l k pc L st σ P) (fun a L σ Q => Ev l a 0 L [] σ Q) P none n pc L st σ) : Ev l k pc L st σ P := by
  subst hm
  intro p e s m args below meth c μ cI cZ D cx hr hlk
  have hx := cx.1
  have hb := cx.2.1
  refine ax_bk_ok cx hchk (fun a L σ Q h => h) (fun pc L st σ h => h p e s m args below meth c μ cI cZ D cx hr hlk) ?_ ?_ ?_ h
  · intro pc v L σ hd hrt hP H locs ls hl hPP hS
    rcases hrt with hrt | ⟨hrt, hn⟩
    · exact W.iret (v := v) hx hb (hr.trans hrt) (fun t ht hW => ⟨⟨some (.int v), σ, rfl, hP, by rw [ht]; exact hPP⟩, hS.F ht⟩) hS.2.2 hd hlk
    · refine W.zret (v := v) hx hb (hr.trans hrt) ?_ (fun t ht hW => ⟨⟨some (.int v), σ, rfl, hP, by rw [ht]; exact hPP⟩, hS.F ht⟩) hS.2.2 hd hlk
      have e : narrow .boolean (.int v) = .int (vp_nar .boolean v) := rfl
      rw [e, hn]
  · intro pc x L σ hd hrt hP H locs ls hl hPP hS
    exact W.aret (v := .ref (μ x)) hx hb (hr.trans hrt) (Or.inl ⟨_, rfl⟩) (Or.inr ⟨_, rfl⟩) (fun t ht hW => ⟨⟨some (.ref x), σ, rfl, hP, by rw [ht]; exact hPP⟩, hS.F ht⟩) hS.2.2 hd hlk
  · intro pc L σ hd hrt hP H locs ls hl hPP hS
    exact W.vret hx hb (hr.trans hrt) (fun t ht hW => ⟨⟨none, σ, rfl, hP, by rw [ht]; exact hPP⟩, hS.F ht⟩) hS.2.2 hd hlk
/-- more may be asked at the end -/
theorem Ev.mono {l : Launch} {k pc : Nat} {L : ax_Lc} {st : List Value} {σ : ax_Sg} {P P' : Option Value → ax_Sg → Prop} (h : Ev l k pc L st σ P) (hP : ∀ r σ', P r σ' → P' r σ') : Ev l k pc L st σ P' := by
  intro p e s m args below meth c μ cI cZ D cx hr hlk H locs ls hl hPP hS T hT X
  obtain ⟨t, a1, o, b1, b2, ⟨⟨r, σ', c1, c2, c3⟩, c4⟩, c5⟩ := h p e s m args below meth c μ cI cZ D cx hr hlk H locs ls hl hPP hS T hT X
  exact ⟨t, a1, o, b1, b2, ⟨⟨r, σ', c1, hP r σ' c2, c3⟩, c4⟩, c5⟩
end
section
/-! stretches of the class, between cuts: their verification conditions. Written by wip/whole/gen/gen_blocks.py -/
def ct_X10_within : List (Nat × List Bool) := []
theorem hm_X10_within : ax_m 102 = mi_X10_within := rfl
theorem bl_X10_within {l : Launch} {ct : List (Nat × List Bool)} {n pc : Nat} {L : ax_Lc} {st : List Value} {σ : ax_Sg} {P : Option Value → ax_Sg → Prop} (h : ax_bk tb_X10_within ct (fun pc L st σ => Ev l 102 pc L st σ P) (fun a L σ Q => Ev l a 0 L [] σ Q) P none n pc L st σ) : Ev l 102 pc L st σ P := ax_blk (m0 := mi_X10_within) (t := tb_X10_within) hm_X10_within ck_X10_within h
set_option maxRecDepth 20000 in
theorem b_X10_within_0 {l : Launch} {σ : ax_Sg} {P : Option Value → ax_Sg → Prop} (x0 : Int32) (x1 : Int32) (x2 : Int32) (h : ax_br (x0 < x1) ((vp_nar .boolean 0 = 0 ∧ P (some (.int 0)) σ)) (ax_br (x2 < x0) ((vp_nar .boolean 0 = 0 ∧ P (some (.int 0)) σ)) ((vp_nar .boolean 1 = 1 ∧ P (some (.int 1)) σ)))) : Ev l 102 0 [some (.int x0), some (.int x1), some (.int x2)] [] σ P := bl_X10_within (ct := ct_X10_within) (n := 10) h
def ct_X10_isRent : List (Nat × List Bool) := []
theorem hm_X10_isRent : ax_m 104 = mi_X10_isRent := rfl
theorem bl_X10_isRent {l : Launch} {ct : List (Nat × List Bool)} {n pc : Nat} {L : ax_Lc} {st : List Value} {σ : ax_Sg} {P : Option Value → ax_Sg → Prop} (h : ax_bk tb_X10_isRent ct (fun pc L st σ => Ev l 104 pc L st σ P) (fun a L σ Q => Ev l a 0 L [] σ Q) P none n pc L st σ) : Ev l 104 pc L st σ P := ax_blk (m0 := mi_X10_isRent) (t := tb_X10_isRent) hm_X10_isRent ck_X10_isRent h
set_option maxRecDepth 20000 in
theorem b_X10_isRent_0 {l : Launch} {σ : ax_Sg} {P : Option Value → ax_Sg → Prop} (x0 : Int32) (x1 : Int32) (h : Ev l 102 0 [some (.int x0), some (.int 0), some (.int 9999)] [] σ (fun o1 σ2 => ax_oi o1 (fun v3 => ax_br (v3 = 0) ((vp_nar .boolean 0 = 0 ∧ P (some (.int 0)) σ2)) (Ev l 102 0 [some (.int x1), some (.int 0), some (.int 9999)] [] σ2 (fun o4 σ5 => ax_oi o4 (fun v6 => ax_br (v6 = 0) ((vp_nar .boolean 0 = 0 ∧ P (some (.int 0)) σ5)) ((vp_nar .boolean 1 = 1 ∧ P (some (.int 1)) σ5)))))))) : Ev l 104 0 [some (.int x0), some (.int x1)] [] σ P := bl_X10_isRent (ct := ct_X10_isRent) (n := 14) h
def ct_X6_add : List (Nat × List Bool) := []
theorem hm_X6_add : ax_m 42 = mi_X6_add := rfl
theorem bl_X6_add {l : Launch} {ct : List (Nat × List Bool)} {n pc : Nat} {L : ax_Lc} {st : List Value} {σ : ax_Sg} {P : Option Value → ax_Sg → Prop} (h : ax_bk tb_X6_add ct (fun pc L st σ => Ev l 42 pc L st σ P) (fun a L σ Q => Ev l a 0 L [] σ Q) P none n pc L st σ) : Ev l 42 pc L st σ P := ax_blk (m0 := mi_X6_add) (t := tb_X6_add) hm_X6_add ck_X6_add h
set_option maxRecDepth 20000 in
theorem b_X6_add_0 {l : Launch} {σ : ax_Sg} {P : Option Value → ax_Sg → Prop} (x1 : Int32) (x2 : Int32) (x3 : Int32) (x4 : Int32) (h : (vp_in (σ 1 4) 12 ∧ (vp_in (σ 1 4) 12 ∧ (vp_in (σ 1 4) 12 ∧ (vp_in (σ 1 4) 12 ∧ P (some (.int (((σ 1 4) + 1) - 1))) (ax_us (ax_us (ax_us (ax_us (ax_us σ 14 (Int32.toNatClampNeg (σ 1 4)) x1) 15 (Int32.toNatClampNeg (σ 1 4)) x2) 16 (Int32.toNatClampNeg (σ 1 4)) x3) 17 (Int32.toNatClampNeg (σ 1 4)) x4) 1 4 ((σ 1 4) + 1))))))) : Ev l 42 0 [some (.ref 1), some (.int x1), some (.int x2), some (.int x3), some (.int x4)] [] σ P := bl_X6_add (ct := ct_X6_add) (n := 36) h
def ct_X10_plate : List (Nat × List Bool) := []
theorem hm_X10_plate : ax_m 72 = mi_X10_plate := rfl
theorem bl_X10_plate {l : Launch} {ct : List (Nat × List Bool)} {n pc : Nat} {L : ax_Lc} {st : List Value} {σ : ax_Sg} {P : Option Value → ax_Sg → Prop} (h : ax_bk tb_X10_plate ct (fun pc L st σ => Ev l 72 pc L st σ P) (fun a L σ Q => Ev l a 0 L [] σ Q) P none n pc L st σ) : Ev l 72 pc L st σ P := ax_blk (m0 := mi_X10_plate) (t := tb_X10_plate) hm_X10_plate ck_X10_plate h
set_option maxRecDepth 20000 in
theorem b_X10_plate_0 {l : Launch} {σ : ax_Sg} {P : Option Value → ax_Sg → Prop} (x1 : Int32) (x2 : Int32) (x3 : Int32) (x4 : Int32) (h : Ev l 102 0 [some (.int x1), some (.int 0), some (.int 3)] [] σ (fun o1 σ2 => ax_oi o1 (fun v3 => ax_br (v3 = 0) (P (some (.int (-2))) σ2) (Ev l 102 0 [some (.int x2), some (.int 0), some (.int 5)] [] σ2 (fun o4 σ5 => ax_oi o4 (fun v6 => ax_br (v6 = 0) (P (some (.int (-2))) σ5) (Ev l 104 0 [some (.int x3), some (.int x4)] [] σ5 (fun o7 σ8 => ax_oi o7 (fun v9 => ax_br (v9 = 0) (P (some (.int (-2))) σ8) (ax_br (σ8 1 4 = 12) (P (some (.int (-4))) σ8) (Ev l 42 0 [some (.ref 1), some (.int x1), some (.int x2), some (.int x3), some (.int x4)] [] σ8 (fun o10 σ11 => ax_oi o10 (fun v12 => P (some (.int v12)) σ11))))))))))))) : Ev l 72 0 [some (.ref 0), some (.int x1), some (.int x2), some (.int x3), some (.int x4)] [] σ P := bl_X10_plate (ct := ct_X10_plate) (n := 28) h
def ct_X8_addDriver : List (Nat × List Bool) := []
theorem hm_X8_addDriver : ax_m 54 = mi_X8_addDriver := rfl
theorem bl_X8_addDriver {l : Launch} {ct : List (Nat × List Bool)} {n pc : Nat} {L : ax_Lc} {st : List Value} {σ : ax_Sg} {P : Option Value → ax_Sg → Prop} (h : ax_bk tb_X8_addDriver ct (fun pc L st σ => Ev l 54 pc L st σ P) (fun a L σ Q => Ev l a 0 L [] σ Q) P none n pc L st σ) : Ev l 54 pc L st σ P := ax_blk (m0 := mi_X8_addDriver) (t := tb_X8_addDriver) hm_X8_addDriver ck_X8_addDriver h
set_option maxRecDepth 20000 in
theorem b_X8_addDriver_0 {l : Launch} {σ : ax_Sg} {P : Option Value → ax_Sg → Prop} (x1 : Int32) (h : (vp_in (σ 2 2) 16 ∧ P (some (.int (((σ 2 2) + 1) - 1))) (ax_us (ax_us σ 18 (Int32.toNatClampNeg (σ 2 2)) x1) 2 2 ((σ 2 2) + 1)))) : Ev l 54 0 [some (.ref 2), some (.int x1)] [] σ P := bl_X8_addDriver (ct := ct_X8_addDriver) (n := 18) h
def ct_X10_driver : List (Nat × List Bool) := []
theorem hm_X10_driver : ax_m 73 = mi_X10_driver := rfl
theorem bl_X10_driver {l : Launch} {ct : List (Nat × List Bool)} {n pc : Nat} {L : ax_Lc} {st : List Value} {σ : ax_Sg} {P : Option Value → ax_Sg → Prop} (h : ax_bk tb_X10_driver ct (fun pc L st σ => Ev l 73 pc L st σ P) (fun a L σ Q => Ev l a 0 L [] σ Q) P none n pc L st σ) : Ev l 73 pc L st σ P := ax_blk (m0 := mi_X10_driver) (t := tb_X10_driver) hm_X10_driver ck_X10_driver h
set_option maxRecDepth 20000 in
theorem b_X10_driver_0 {l : Launch} {σ : ax_Sg} {P : Option Value → ax_Sg → Prop} (x1 : Int32) (h : Ev l 102 0 [some (.int x1), some (.int 0), some (.int 2)] [] σ (fun o1 σ2 => ax_oi o1 (fun v3 => ax_br (v3 = 0) (P (some (.int (-2))) σ2) (ax_br (σ2 2 2 = 16) (P (some (.int (-4))) σ2) (Ev l 54 0 [some (.ref 2), some (.int x1)] [] σ2 (fun o4 σ5 => ax_oi o4 (fun v6 => P (some (.int v6)) σ5))))))) : Ev l 73 0 [some (.ref 0), some (.int x1)] [] σ P := bl_X10_driver (ct := ct_X10_driver) (n := 16) h
def ct_X6_has : List (Nat × List Bool) := []
theorem hm_X6_has : ax_m 41 = mi_X6_has := rfl
theorem bl_X6_has {l : Launch} {ct : List (Nat × List Bool)} {n pc : Nat} {L : ax_Lc} {st : List Value} {σ : ax_Sg} {P : Option Value → ax_Sg → Prop} (h : ax_bk tb_X6_has ct (fun pc L st σ => Ev l 41 pc L st σ P) (fun a L σ Q => Ev l a 0 L [] σ Q) P none n pc L st σ) : Ev l 41 pc L st σ P := ax_blk (m0 := mi_X6_has) (t := tb_X6_has) hm_X6_has ck_X6_has h
set_option maxRecDepth 20000 in
theorem b_X6_has_0 {l : Launch} {σ : ax_Sg} {P : Option Value → ax_Sg → Prop} (x1 : Int32) (h : Ev l 102 0 [some (.int x1), some (.int 0), some (.int ((σ 1 4) - 1))] [] σ (fun o1 σ2 => ax_oi o1 (fun v3 => (vp_nar .boolean v3 = v3 ∧ P (some (.int v3)) σ2)))) : Ev l 41 0 [some (.ref 1), some (.int x1)] [] σ P := bl_X6_has (ct := ct_X6_has) (n := 9) h
def ct_X8_placeOfDriver : List (Nat × List Bool) := [(2, [true, true, true])]
theorem hm_X8_placeOfDriver : ax_m 55 = mi_X8_placeOfDriver := rfl
theorem bl_X8_placeOfDriver {l : Launch} {ct : List (Nat × List Bool)} {n pc : Nat} {L : ax_Lc} {st : List Value} {σ : ax_Sg} {P : Option Value → ax_Sg → Prop} (h : ax_bk tb_X8_placeOfDriver ct (fun pc L st σ => Ev l 55 pc L st σ P) (fun a L σ Q => Ev l a 0 L [] σ Q) P none n pc L st σ) : Ev l 55 pc L st σ P := ax_blk (m0 := mi_X8_placeOfDriver) (t := tb_X8_placeOfDriver) hm_X8_placeOfDriver ck_X8_placeOfDriver h
set_option maxRecDepth 20000 in
theorem b_X8_placeOfDriver_0 {l : Launch} {σ : ax_Sg} {P : Option Value → ax_Sg → Prop} (x1 : Int32) (h : Ev l 55 2 [some (.ref 2), some (.int x1), some (.int 0)] [] σ P) : Ev l 55 0 [some (.ref 2), some (.int x1), none] [] σ P := bl_X8_placeOfDriver (ct := ct_X8_placeOfDriver) (n := 4) h
set_option maxRecDepth 20000 in
theorem b_X8_placeOfDriver_2 {l : Launch} {σ : ax_Sg} {P : Option Value → ax_Sg → Prop} (x1 : Int32) (x2 : Int32) (h : ax_br (x2 < Int32.ofNat 24) ((vp_in x2 24 ∧ ax_br (σ 19 (Int32.toNatClampNeg x2) = x1) (P (some (.int x2)) σ) (Ev l 55 2 [some (.ref 2), some (.int x1), some (.int (x2 + 1))] [] σ P))) (P (some (.int (-1))) σ)) : Ev l 55 2 [some (.ref 2), some (.int x1), some (.int x2)] [] σ P := bl_X8_placeOfDriver (ct := ct_X8_placeOfDriver) (n := 15) h
def ct_X8_assign : List (Nat × List Bool) := []
theorem hm_X8_assign : ax_m 56 = mi_X8_assign := rfl
theorem bl_X8_assign {l : Launch} {ct : List (Nat × List Bool)} {n pc : Nat} {L : ax_Lc} {st : List Value} {σ : ax_Sg} {P : Option Value → ax_Sg → Prop} (h : ax_bk tb_X8_assign ct (fun pc L st σ => Ev l 56 pc L st σ P) (fun a L σ Q => Ev l a 0 L [] σ Q) P none n pc L st σ) : Ev l 56 pc L st σ P := ax_blk (m0 := mi_X8_assign) (t := tb_X8_assign) hm_X8_assign ck_X8_assign h
set_option maxRecDepth 20000 in
theorem b_X8_assign_0 {l : Launch} {σ : ax_Sg} {P : Option Value → ax_Sg → Prop} (x1 : Int32) (x2 : Int32) (h : (vp_in x1 24 ∧ ax_br (x2 = (-1)) (ax_br ((-1 : Int32) = (-1)) ((vp_in x1 24 ∧ P (some (.int (σ 19 (Int32.toNatClampNeg x1)))) (ax_us σ 19 (Int32.toNatClampNeg x1) x2))) ((vp_in (-1) 24 ∧ (vp_in x1 24 ∧ P (some (.int (σ 19 (Int32.toNatClampNeg x1)))) (ax_us (ax_us σ 19 (Int32.toNatClampNeg (-1)) (-1)) 19 (Int32.toNatClampNeg x1) x2))))) (Ev l 55 0 [some (.ref 2), some (.int x2), none] [] σ (fun o1 σ2 => ax_oi o1 (fun v3 => ax_br (v3 = (-1)) ((vp_in x1 24 ∧ P (some (.int (σ 19 (Int32.toNatClampNeg x1)))) (ax_us σ2 19 (Int32.toNatClampNeg x1) x2))) ((vp_in v3 24 ∧ (vp_in x1 24 ∧ P (some (.int (σ 19 (Int32.toNatClampNeg x1)))) (ax_us (ax_us σ2 19 (Int32.toNatClampNeg v3) (-1)) 19 (Int32.toNatClampNeg x1) x2))))))))) : Ev l 56 0 [some (.ref 2), some (.int x1), some (.int x2), none, none] [] σ P := bl_X8_assign (ct := ct_X8_assign) (n := 28) h
def ct_X8_hasDriver : List (Nat × List Bool) := []
theorem hm_X8_hasDriver : ax_m 53 = mi_X8_hasDriver := rfl
theorem bl_X8_hasDriver {l : Launch} {ct : List (Nat × List Bool)} {n pc : Nat} {L : ax_Lc} {st : List Value} {σ : ax_Sg} {P : Option Value → ax_Sg → Prop} (h : ax_bk tb_X8_hasDriver ct (fun pc L st σ => Ev l 53 pc L st σ P) (fun a L σ Q => Ev l a 0 L [] σ Q) P none n pc L st σ) : Ev l 53 pc L st σ P := ax_blk (m0 := mi_X8_hasDriver) (t := tb_X8_hasDriver) hm_X8_hasDriver ck_X8_hasDriver h
set_option maxRecDepth 20000 in
theorem b_X8_hasDriver_0 {l : Launch} {σ : ax_Sg} {P : Option Value → ax_Sg → Prop} (x1 : Int32) (h : Ev l 102 0 [some (.int x1), some (.int 0), some (.int ((σ 2 2) - 1))] [] σ (fun o1 σ2 => ax_oi o1 (fun v3 => (vp_nar .boolean v3 = v3 ∧ P (some (.int v3)) σ2)))) : Ev l 53 0 [some (.ref 2), some (.int x1)] [] σ P := bl_X8_hasDriver (ct := ct_X8_hasDriver) (n := 9) h
def ct_X10_drive : List (Nat × List Bool) := []
theorem hm_X10_drive : ax_m 74 = mi_X10_drive := rfl
theorem bl_X10_drive {l : Launch} {ct : List (Nat × List Bool)} {n pc : Nat} {L : ax_Lc} {st : List Value} {σ : ax_Sg} {P : Option Value → ax_Sg → Prop} (h : ax_bk tb_X10_drive ct (fun pc L st σ => Ev l 74 pc L st σ P) (fun a L σ Q => Ev l a 0 L [] σ Q) P none n pc L st σ) : Ev l 74 pc L st σ P := ax_blk (m0 := mi_X10_drive) (t := tb_X10_drive) hm_X10_drive ck_X10_drive h
set_option maxRecDepth 20000 in
theorem b_X10_drive_0 {l : Launch} {σ : ax_Sg} {P : Option Value → ax_Sg → Prop} (x1 : Int32) (x2 : Int32) (x3 : Int32) (h : Ev l 41 0 [some (.ref 1), some (.int x1)] [] σ (fun o1 σ2 => ax_oi o1 (fun v3 => ax_br (v3 = 0) (P (some (.int (-5))) σ2) (Ev l 102 0 [some (.int x2), some (.int 0), some (.int 1)] [] σ2 (fun o4 σ5 => ax_oi o4 (fun v6 => ax_br (v6 = 0) (P (some (.int (-5))) σ5) (ax_br (x3 = (-1)) (Ev l 56 0 [some (.ref 2), some (.int ((x1 * 2) + x2)), some (.int x3), none, none] [] σ5 (fun o7 σ8 => ax_oi o7 (fun v9 => P (some (.int v9)) σ8))) (Ev l 53 0 [some (.ref 2), some (.int x3)] [] σ5 (fun o10 σ11 => ax_oi o10 (fun v12 => ax_br (v12 = 0) (P (some (.int (-5))) σ11) (Ev l 56 0 [some (.ref 2), some (.int ((x1 * 2) + x2)), some (.int x3), none, none] [] σ11 (fun o13 σ14 => ax_oi o13 (fun v15 => P (some (.int v15)) σ14))))))))))))) : Ev l 74 0 [some (.ref 0), some (.int x1), some (.int x2), some (.int x3)] [] σ P := bl_X10_drive (ct := ct_X10_drive) (n := 29) h
def ct_J9_max_7cf53 : List (Nat × List Bool) := []
theorem hm_J9_max_7cf53 : ax_m 175 = mi_J9_max_7cf53 := rfl
theorem bl_J9_max_7cf53 {l : Launch} {ct : List (Nat × List Bool)} {n pc : Nat} {L : ax_Lc} {st : List Value} {σ : ax_Sg} {P : Option Value → ax_Sg → Prop} (h : ax_bk tb_J9_max_7cf53 ct (fun pc L st σ => Ev l 175 pc L st σ P) (fun a L σ Q => Ev l a 0 L [] σ Q) P none n pc L st σ) : Ev l 175 pc L st σ P := ax_blk (m0 := mi_J9_max_7cf53) (t := tb_J9_max_7cf53) hm_J9_max_7cf53 ck_J9_max_7cf53 h
set_option maxRecDepth 20000 in
theorem b_J9_max_7cf53_0 {l : Launch} {σ : ax_Sg} {P : Option Value → ax_Sg → Prop} (x0 : Int32) (x1 : Int32) (h : ax_br (x0 < x1) (P (some (.int x1)) σ) (P (some (.int x0)) σ)) : Ev l 175 0 [some (.int x0), some (.int x1)] [] σ P := bl_J9_max_7cf53 (ct := ct_J9_max_7cf53) (n := 7) h
def ct_X6_hoursDue : List (Nat × List Bool) := []
theorem hm_X6_hoursDue : ax_m 46 = mi_X6_hoursDue := rfl
theorem bl_X6_hoursDue {l : Launch} {ct : List (Nat × List Bool)} {n pc : Nat} {L : ax_Lc} {st : List Value} {σ : ax_Sg} {P : Option Value → ax_Sg → Prop} (h : ax_bk tb_X6_hoursDue ct (fun pc L st σ => Ev l 46 pc L st σ P) (fun a L σ Q => Ev l a 0 L [] σ Q) P none n pc L st σ) : Ev l 46 pc L st σ P := ax_blk (m0 := mi_X6_hoursDue) (t := tb_X6_hoursDue) hm_X6_hoursDue ck_X6_hoursDue h
set_option maxRecDepth 20000 in
theorem b_X6_hoursDue_0 {l : Launch} {σ : ax_Sg} {P : Option Value → ax_Sg → Prop} (x1 : Int32) (x2 : Int32) (h : (vp_in x1 12 ∧ ax_br (σ 14 (Int32.toNatClampNeg x1) = 1) (Ev l 175 0 [some (.int 0), some (.int (5 - x2))] [] σ (fun o1 σ2 => ax_oi o1 (fun v3 => P (some (.int v3)) σ2))) (P (some (.int 0)) σ))) : Ev l 46 0 [some (.ref 1), some (.int x1), some (.int x2)] [] σ P := bl_X6_hoursDue (ct := ct_X6_hoursDue) (n := 14) h
def ct_X10_about : List (Nat × List Bool) := []
theorem hm_X10_about : ax_m 75 = mi_X10_about := rfl
theorem bl_X10_about {l : Launch} {ct : List (Nat × List Bool)} {n pc : Nat} {L : ax_Lc} {st : List Value} {σ : ax_Sg} {P : Option Value → ax_Sg → Prop} (h : ax_bk tb_X10_about ct (fun pc L st σ => Ev l 75 pc L st σ P) (fun a L σ Q => Ev l a 0 L [] σ Q) P none n pc L st σ) : Ev l 75 pc L st σ P := ax_blk (m0 := mi_X10_about) (t := tb_X10_about) hm_X10_about ck_X10_about h
set_option maxRecDepth 20000 in
theorem b_X10_about_0 {l : Launch} {σ : ax_Sg} {P : Option Value → ax_Sg → Prop} (x1 : Int32) (x2 : Int32) (h : Ev l 41 0 [some (.ref 1), some (.int x1)] [] σ (fun o1 σ2 => ax_oi o1 (fun v3 => ax_br (v3 = 0) (P (some (.int (-1))) σ2) (((x2 = 0 → (vp_in x1 12 ∧ P (some (.int (σ2 14 (Int32.toNatClampNeg x1)))) σ2)) ∧ (¬ x2 = 0 → ((x2 = 1 → (vp_in x1 12 ∧ P (some (.int (σ2 15 (Int32.toNatClampNeg x1)))) σ2)) ∧ (¬ x2 = 1 → ((x2 = 2 → (vp_in (x1 * 2) 24 ∧ P (some (.int (σ2 19 (Int32.toNatClampNeg (x1 * 2))))) σ2)) ∧ (¬ x2 = 2 → ((x2 = 3 → (vp_in ((x1 * 2) + 1) 24 ∧ P (some (.int (σ2 19 (Int32.toNatClampNeg ((x1 * 2) + 1))))) σ2)) ∧ (¬ x2 = 3 → ((x2 = 4 → (vp_in x1 12 ∧ P (some (.int (σ2 32 (Int32.toNatClampNeg x1)))) σ2)) ∧ (¬ x2 = 4 → ((x2 = 5 → (vp_in x1 12 ∧ P (some (.int (σ2 33 (Int32.toNatClampNeg x1)))) σ2)) ∧ (¬ x2 = 5 → ((x2 = 6 → (vp_in x1 12 ∧ P (some (.int (σ2 31 (Int32.toNatClampNeg x1)))) σ2)) ∧ (¬ x2 = 6 → ((x2 = 7 → (vp_in x1 12 ∧ Ev l 46 0 [some (.ref 1), some (.int x1), some (.int (σ2 32 (Int32.toNatClampNeg x1)))] [] σ2 (fun o4 σ5 => ax_oi o4 (fun v6 => P (some (.int v6)) σ5)))) ∧ (¬ x2 = 7 → P (some (.int (-1))) σ2)))))))))))))))))))) : Ev l 75 0 [some (.ref 0), some (.int x1), some (.int x2)] [] σ P := bl_X10_about (ct := ct_X10_about) (n := 18) h
def ct_X10_driven : List (Nat × List Bool) := []
theorem hm_X10_driven : ax_m 76 = mi_X10_driven := rfl
theorem bl_X10_driven {l : Launch} {ct : List (Nat × List Bool)} {n pc : Nat} {L : ax_Lc} {st : List Value} {σ : ax_Sg} {P : Option Value → ax_Sg → Prop} (h : ax_bk tb_X10_driven ct (fun pc L st σ => Ev l 76 pc L st σ P) (fun a L σ Q => Ev l a 0 L [] σ Q) P none n pc L st σ) : Ev l 76 pc L st σ P := ax_blk (m0 := mi_X10_driven) (t := tb_X10_driven) hm_X10_driven ck_X10_driven h
set_option maxRecDepth 20000 in
theorem b_X10_driven_0 {l : Launch} {σ : ax_Sg} {P : Option Value → ax_Sg → Prop} (x1 : Int32) (x2 : Int32) (h : Ev l 53 0 [some (.ref 2), some (.int x1)] [] σ (fun o1 σ2 => ax_oi o1 (fun v3 => ax_br (v3 = 0) (P (some (.int (-1))) σ2) (((x2 = 0 → (vp_in x1 16 ∧ P (some (.int (σ2 18 (Int32.toNatClampNeg x1)))) σ2)) ∧ (¬ x2 = 0 → ((x2 = 1 → (vp_in x1 16 ∧ P (some (.int (σ2 34 (Int32.toNatClampNeg x1)))) σ2)) ∧ (¬ x2 = 1 → ((x2 = 2 → (vp_in x1 16 ∧ P (some (.int (σ2 35 (Int32.toNatClampNeg x1)))) σ2)) ∧ (¬ x2 = 2 → P (some (.int (-1))) σ2)))))))))) : Ev l 76 0 [some (.ref 0), some (.int x1), some (.int x2)] [] σ P := bl_X10_driven (ct := ct_X10_driven) (n := 14) h
def ct_J9_min_7cf53 : List (Nat × List Bool) := []
theorem hm_J9_min_7cf53 : ax_m 176 = mi_J9_min_7cf53 := rfl
theorem bl_J9_min_7cf53 {l : Launch} {ct : List (Nat × List Bool)} {n pc : Nat} {L : ax_Lc} {st : List Value} {σ : ax_Sg} {P : Option Value → ax_Sg → Prop} (h : ax_bk tb_J9_min_7cf53 ct (fun pc L st σ => Ev l 176 pc L st σ P) (fun a L σ Q => Ev l a 0 L [] σ Q) P none n pc L st σ) : Ev l 176 pc L st σ P := ax_blk (m0 := mi_J9_min_7cf53) (t := tb_J9_min_7cf53) hm_J9_min_7cf53 ck_J9_min_7cf53 h
set_option maxRecDepth 20000 in
theorem b_J9_min_7cf53_0 {l : Launch} {σ : ax_Sg} {P : Option Value → ax_Sg → Prop} (x0 : Int32) (x1 : Int32) (h : ax_br (x1 < x0) (P (some (.int x1)) σ) (P (some (.int x0)) σ)) : Ev l 176 0 [some (.int x0), some (.int x1)] [] σ P := bl_J9_min_7cf53 (ct := ct_J9_min_7cf53) (n := 7) h
def ct_X8_mostWorths : List (Nat × List Bool) := []
theorem hm_X8_mostWorths : ax_m 61 = mi_X8_mostWorths := rfl
theorem bl_X8_mostWorths {l : Launch} {ct : List (Nat × List Bool)} {n pc : Nat} {L : ax_Lc} {st : List Value} {σ : ax_Sg} {P : Option Value → ax_Sg → Prop} (h : ax_bk tb_X8_mostWorths ct (fun pc L st σ => Ev l 61 pc L st σ P) (fun a L σ Q => Ev l a 0 L [] σ Q) P none n pc L st σ) : Ev l 61 pc L st σ P := ax_blk (m0 := mi_X8_mostWorths) (t := tb_X8_mostWorths) hm_X8_mostWorths ck_X8_mostWorths h
set_option maxRecDepth 20000 in
theorem b_X8_mostWorths_0 {l : Launch} {σ : ax_Sg} {P : Option Value → ax_Sg → Prop}  (h : (vp_in 0 2 ∧ (vp_in 1 2 ∧ (vp_in 0 3 ∧ (vp_in 1 3 ∧ (vp_in 2 3 ∧ Ev l 176 0 [some (.int ((σ 23 (Int32.toNatClampNeg 0)) + (σ 23 (Int32.toNatClampNeg 1)))), some (.int (((σ 24 (Int32.toNatClampNeg 0)) + (σ 24 (Int32.toNatClampNeg 1))) + (σ 24 (Int32.toNatClampNeg 2))))] [] σ (fun o1 σ2 => ax_oi o1 (fun v3 => (vp_in 0 2 ∧ (vp_in 0 3 ∧ Ev l 176 0 [some (.int (σ2 23 (Int32.toNatClampNeg 0))), some (.int (σ2 24 (Int32.toNatClampNeg 0)))] [] σ2 (fun o4 σ5 => ax_oi o4 (fun v6 => (vp_in 1 2 ∧ (vp_in 1 3 ∧ Ev l 176 0 [some (.int (σ5 23 (Int32.toNatClampNeg 1))), some (.int (σ5 24 (Int32.toNatClampNeg 1)))] [] σ5 (fun o7 σ8 => ax_oi o7 (fun v9 => (vp_in 2 3 ∧ Ev l 176 0 [some (.int (σ8 24 (Int32.toNatClampNeg 2))), some (.int (((σ 23 (Int32.toNatClampNeg 0)) + (σ 23 (Int32.toNatClampNeg 1))) - (v6 + v9)))] [] σ8 (fun o10 σ11 => ax_oi o10 (fun v12 => P (some (.int ((v3 + (v6 + v9)) + v12))) σ11))))))))))))))))))) : Ev l 61 0 [some (.ref 2), none, none, none] [] σ P := bl_X8_mostWorths (ct := ct_X8_mostWorths) (n := 61) h
def ct_X8_fillPlace : List (Nat × List Bool) := [(22, [true, true, true, true, true, false, false])]
theorem hm_X8_fillPlace : ax_m 60 = mi_X8_fillPlace := rfl
theorem bl_X8_fillPlace {l : Launch} {ct : List (Nat × List Bool)} {n pc : Nat} {L : ax_Lc} {st : List Value} {σ : ax_Sg} {P : Option Value → ax_Sg → Prop} (h : ax_bk tb_X8_fillPlace ct (fun pc L st σ => Ev l 60 pc L st σ P) (fun a L σ Q => Ev l a 0 L [] σ Q) P none n pc L st σ) : Ev l 60 pc L st σ P := ax_blk (m0 := mi_X8_fillPlace) (t := tb_X8_fillPlace) hm_X8_fillPlace ck_X8_fillPlace h
set_option maxRecDepth 20000 in
theorem b_X8_fillPlace_0 {l : Launch} {σ : ax_Sg} {P : Option Value → ax_Sg → Prop} (x1 : Int32) (h : (¬ (2 : Int32) = 0 ∧ Ev l 61 0 [some (.ref 2), none, none, none] [] σ (fun o1 σ2 => ax_oi o1 (fun v3 => (vp_in (x1 - x1 / 2 * 2) 2 ∧ (vp_in (x1 - x1 / 2 * 2) 2 ∧ Ev l 60 22 [some (.ref 2), some (.int x1), some (.int (x1 - x1 / 2 * 2)), some (.int v3), some (.int 0), none, none] [] (ax_us σ2 23 (Int32.toNatClampNeg (x1 - x1 / 2 * 2)) ((σ2 23 (Int32.toNatClampNeg (x1 - x1 / 2 * 2))) - 1)) P)))))) : Ev l 60 0 [some (.ref 2), some (.int x1), none, none, none, none, none] [] σ P := bl_X8_fillPlace (ct := ct_X8_fillPlace) (n := 19) h
set_option maxRecDepth 20000 in
theorem b_X8_fillPlace_22 {l : Launch} {σ : ax_Sg} {P : Option Value → ax_Sg → Prop} (x1 : Int32) (x2 : Int32) (x3 : Int32) (x4 : Int32) (h : ax_br (x4 < σ 2 7) ((vp_in x4 10 ∧ ax_br (σ 22 (Int32.toNatClampNeg x4) = 0) ((vp_in x4 10 ∧ (vp_in (σ 21 (Int32.toNatClampNeg x4)) 16 ∧ ax_br (σ 18 (Int32.toNatClampNeg (σ 21 (Int32.toNatClampNeg x4))) = 2) ((vp_in (σ 18 (Int32.toNatClampNeg (σ 21 (Int32.toNatClampNeg x4)))) 3 ∧ (vp_in (σ 18 (Int32.toNatClampNeg (σ 21 (Int32.toNatClampNeg x4)))) 3 ∧ Ev l 61 0 [some (.ref 2), none, none, none] [] (ax_us σ 24 (Int32.toNatClampNeg (σ 18 (Int32.toNatClampNeg (σ 21 (Int32.toNatClampNeg x4))))) ((σ 24 (Int32.toNatClampNeg (σ 18 (Int32.toNatClampNeg (σ 21 (Int32.toNatClampNeg x4)))))) - 1)) (fun o1 σ2 => ax_oi o1 (fun v3 => ax_br (2 + v3 = x3) ((vp_in x4 10 ∧ (vp_in x4 10 ∧ (vp_in x1 24 ∧ P (some (.int 2)) (ax_us (ax_us σ2 22 (Int32.toNatClampNeg x4) (vp_nar .boolean 1)) 19 (Int32.toNatClampNeg x1) (σ2 21 (Int32.toNatClampNeg x4))))))) ((vp_in (σ 18 (Int32.toNatClampNeg (σ 21 (Int32.toNatClampNeg x4)))) 3 ∧ (vp_in (σ 18 (Int32.toNatClampNeg (σ 21 (Int32.toNatClampNeg x4)))) 3 ∧ Ev l 60 22 [some (.ref 2), some (.int x1), some (.int x2), some (.int x3), some (.int (x4 + 1)), none, none] [] (ax_us σ2 24 (Int32.toNatClampNeg (σ 18 (Int32.toNatClampNeg (σ 21 (Int32.toNatClampNeg x4))))) ((σ2 24 (Int32.toNatClampNeg (σ 18 (Int32.toNatClampNeg (σ 21 (Int32.toNatClampNeg x4)))))) + 1)) P)))))))) (ax_br (σ 18 (Int32.toNatClampNeg (σ 21 (Int32.toNatClampNeg x4))) = x2) ((vp_in (σ 18 (Int32.toNatClampNeg (σ 21 (Int32.toNatClampNeg x4)))) 3 ∧ (vp_in (σ 18 (Int32.toNatClampNeg (σ 21 (Int32.toNatClampNeg x4)))) 3 ∧ Ev l 61 0 [some (.ref 2), none, none, none] [] (ax_us σ 24 (Int32.toNatClampNeg (σ 18 (Int32.toNatClampNeg (σ 21 (Int32.toNatClampNeg x4))))) ((σ 24 (Int32.toNatClampNeg (σ 18 (Int32.toNatClampNeg (σ 21 (Int32.toNatClampNeg x4)))))) - 1)) (fun o4 σ5 => ax_oi o4 (fun v6 => ax_br (2 + v6 = x3) ((vp_in x4 10 ∧ (vp_in x4 10 ∧ (vp_in x1 24 ∧ P (some (.int 2)) (ax_us (ax_us σ5 22 (Int32.toNatClampNeg x4) (vp_nar .boolean 1)) 19 (Int32.toNatClampNeg x1) (σ5 21 (Int32.toNatClampNeg x4))))))) ((vp_in (σ 18 (Int32.toNatClampNeg (σ 21 (Int32.toNatClampNeg x4)))) 3 ∧ (vp_in (σ 18 (Int32.toNatClampNeg (σ 21 (Int32.toNatClampNeg x4)))) 3 ∧ Ev l 60 22 [some (.ref 2), some (.int x1), some (.int x2), some (.int x3), some (.int (x4 + 1)), none, none] [] (ax_us σ5 24 (Int32.toNatClampNeg (σ 18 (Int32.toNatClampNeg (σ 21 (Int32.toNatClampNeg x4))))) ((σ5 24 (Int32.toNatClampNeg (σ 18 (Int32.toNatClampNeg (σ 21 (Int32.toNatClampNeg x4)))))) + 1)) P)))))))) ((vp_in (σ 18 (Int32.toNatClampNeg (σ 21 (Int32.toNatClampNeg x4)))) 3 ∧ (vp_in (σ 18 (Int32.toNatClampNeg (σ 21 (Int32.toNatClampNeg x4)))) 3 ∧ Ev l 61 0 [some (.ref 2), none, none, none] [] (ax_us σ 24 (Int32.toNatClampNeg (σ 18 (Int32.toNatClampNeg (σ 21 (Int32.toNatClampNeg x4))))) ((σ 24 (Int32.toNatClampNeg (σ 18 (Int32.toNatClampNeg (σ 21 (Int32.toNatClampNeg x4)))))) - 1)) (fun o7 σ8 => ax_oi o7 (fun v9 => ax_br (1 + v9 = x3) ((vp_in x4 10 ∧ (vp_in x4 10 ∧ (vp_in x1 24 ∧ P (some (.int 1)) (ax_us (ax_us σ8 22 (Int32.toNatClampNeg x4) (vp_nar .boolean 1)) 19 (Int32.toNatClampNeg x1) (σ8 21 (Int32.toNatClampNeg x4))))))) ((vp_in (σ 18 (Int32.toNatClampNeg (σ 21 (Int32.toNatClampNeg x4)))) 3 ∧ (vp_in (σ 18 (Int32.toNatClampNeg (σ 21 (Int32.toNatClampNeg x4)))) 3 ∧ Ev l 60 22 [some (.ref 2), some (.int x1), some (.int x2), some (.int x3), some (.int (x4 + 1)), none, none] [] (ax_us σ8 24 (Int32.toNatClampNeg (σ 18 (Int32.toNatClampNeg (σ 21 (Int32.toNatClampNeg x4))))) ((σ8 24 (Int32.toNatClampNeg (σ 18 (Int32.toNatClampNeg (σ 21 (Int32.toNatClampNeg x4)))))) + 1)) P)))))))))))) (Ev l 60 22 [some (.ref 2), some (.int x1), some (.int x2), some (.int x3), some (.int (x4 + 1)), none, none] [] σ P))) (P (some (.int 0)) σ)) : Ev l 60 22 [some (.ref 2), some (.int x1), some (.int x2), some (.int x3), some (.int x4), none, none] [] σ P := bl_X8_fillPlace (ct := ct_X8_fillPlace) (n := 56) h
def ct_X8_listFreeDrivers : List (Nat × List Bool) := [(28, [true, true])]
theorem hm_X8_listFreeDrivers : ax_m 59 = mi_X8_listFreeDrivers := rfl
theorem bl_X8_listFreeDrivers {l : Launch} {ct : List (Nat × List Bool)} {n pc : Nat} {L : ax_Lc} {st : List Value} {σ : ax_Sg} {P : Option Value → ax_Sg → Prop} (h : ax_bk tb_X8_listFreeDrivers ct (fun pc L st σ => Ev l 59 pc L st σ P) (fun a L σ Q => Ev l a 0 L [] σ Q) P none n pc L st σ) : Ev l 59 pc L st σ P := ax_blk (m0 := mi_X8_listFreeDrivers) (t := tb_X8_listFreeDrivers) hm_X8_listFreeDrivers ck_X8_listFreeDrivers h
set_option maxRecDepth 20000 in
theorem b_X8_listFreeDrivers_0 {l : Launch} {σ : ax_Sg} {P : Option Value → ax_Sg → Prop}  (h : (vp_in 0 3 ∧ (vp_in 1 3 ∧ (vp_in 2 3 ∧ Ev l 59 28 [some (.ref 2), some (.int 0)] [] (ax_us (ax_us (ax_us (ax_us σ 2 7 0) 24 (Int32.toNatClampNeg 0) 0) 24 (Int32.toNatClampNeg 1) 0) 24 (Int32.toNatClampNeg 2) 0) P)))) : Ev l 59 0 [some (.ref 2), none] [] σ P := bl_X8_listFreeDrivers (ct := ct_X8_listFreeDrivers) (n := 22) h
set_option maxRecDepth 20000 in
theorem b_X8_listFreeDrivers_28 {l : Launch} {σ : ax_Sg} {P : Option Value → ax_Sg → Prop} (x1 : Int32) (h : ax_br (x1 < σ 2 2) (ax_br (σ 2 7 < 10) (Ev l 55 0 [some (.ref 2), some (.int x1), none] [] σ (fun o1 σ2 => ax_oi o1 (fun v3 => ax_br (v3 = (-1)) ((vp_in (σ2 2 7) 10 ∧ (vp_in (σ2 2 7) 10 ∧ (vp_in x1 16 ∧ (vp_in (σ2 18 (Int32.toNatClampNeg x1)) 3 ∧ (vp_in (σ2 18 (Int32.toNatClampNeg x1)) 3 ∧ Ev l 59 28 [some (.ref 2), some (.int (x1 + 1))] [] (ax_us (ax_us (ax_us (ax_us σ2 21 (Int32.toNatClampNeg (σ2 2 7)) x1) 22 (Int32.toNatClampNeg (σ2 2 7)) (vp_nar .boolean 0)) 2 7 ((σ2 2 7) + 1)) 24 (Int32.toNatClampNeg (σ2 18 (Int32.toNatClampNeg x1))) ((σ2 24 (Int32.toNatClampNeg (σ2 18 (Int32.toNatClampNeg x1)))) + 1)) P)))))) (Ev l 59 28 [some (.ref 2), some (.int (x1 + 1))] [] σ2 P)))) (P none σ)) (P none σ)) : Ev l 59 28 [some (.ref 2), some (.int x1)] [] σ P := bl_X8_listFreeDrivers (ct := ct_X8_listFreeDrivers) (n := 46) h
def ct_X8_listFreePlaces : List (Nat × List Bool) := [(21, [true, true, true])]
theorem hm_X8_listFreePlaces : ax_m 58 = mi_X8_listFreePlaces := rfl
theorem bl_X8_listFreePlaces {l : Launch} {ct : List (Nat × List Bool)} {n pc : Nat} {L : ax_Lc} {st : List Value} {σ : ax_Sg} {P : Option Value → ax_Sg → Prop} (h : ax_bk tb_X8_listFreePlaces ct (fun pc L st σ => Ev l 58 pc L st σ P) (fun a L σ Q => Ev l a 0 L [] σ Q) P none n pc L st σ) : Ev l 58 pc L st σ P := ax_blk (m0 := mi_X8_listFreePlaces) (t := tb_X8_listFreePlaces) hm_X8_listFreePlaces ck_X8_listFreePlaces h
set_option maxRecDepth 20000 in
theorem b_X8_listFreePlaces_0 {l : Launch} {σ : ax_Sg} {P : Option Value → ax_Sg → Prop} (x1 : Int32) (h : (vp_in 0 2 ∧ (vp_in 1 2 ∧ Ev l 58 21 [some (.ref 2), some (.int x1), some (.int 0)] [] (ax_us (ax_us (ax_us σ 2 6 0) 23 (Int32.toNatClampNeg 0) 0) 23 (Int32.toNatClampNeg 1) 0) P))) : Ev l 58 0 [some (.ref 2), some (.int x1), none] [] σ P := bl_X8_listFreePlaces (ct := ct_X8_listFreePlaces) (n := 17) h
set_option maxRecDepth 20000 in
theorem b_X8_listFreePlaces_21 {l : Launch} {σ : ax_Sg} {P : Option Value → ax_Sg → Prop} (x1 : Int32) (x2 : Int32) (h : ax_br (x2 < x1 * 2) (ax_br (σ 2 6 < 10) ((vp_in x2 24 ∧ ax_br (σ 19 (Int32.toNatClampNeg x2) = (-1)) ((vp_in (σ 2 6) 10 ∧ (¬ (2 : Int32) = 0 ∧ (vp_in (x2 - x2 / 2 * 2) 2 ∧ (vp_in (x2 - x2 / 2 * 2) 2 ∧ Ev l 58 21 [some (.ref 2), some (.int x1), some (.int (x2 + 1))] [] (ax_us (ax_us (ax_us σ 20 (Int32.toNatClampNeg (σ 2 6)) x2) 2 6 ((σ 2 6) + 1)) 23 (Int32.toNatClampNeg (x2 - x2 / 2 * 2)) ((σ 23 (Int32.toNatClampNeg (x2 - x2 / 2 * 2))) + 1)) P))))) (Ev l 58 21 [some (.ref 2), some (.int x1), some (.int (x2 + 1))] [] σ P))) (P none σ)) (P none σ)) : Ev l 58 21 [some (.ref 2), some (.int x1), some (.int x2)] [] σ P := bl_X8_listFreePlaces (ct := ct_X8_listFreePlaces) (n := 41) h
def ct_X8_fillFree : List (Nat × List Bool) := [(13, [true, false, true, true])]
theorem hm_X8_fillFree : ax_m 57 = mi_X8_fillFree := rfl
theorem bl_X8_fillFree {l : Launch} {ct : List (Nat × List Bool)} {n pc : Nat} {L : ax_Lc} {st : List Value} {σ : ax_Sg} {P : Option Value → ax_Sg → Prop} (h : ax_bk tb_X8_fillFree ct (fun pc L st σ => Ev l 57 pc L st σ P) (fun a L σ Q => Ev l a 0 L [] σ Q) P none n pc L st σ) : Ev l 57 pc L st σ P := ax_blk (m0 := mi_X8_fillFree) (t := tb_X8_fillFree) hm_X8_fillFree ck_X8_fillFree h
set_option maxRecDepth 20000 in
theorem b_X8_fillFree_0 {l : Launch} {σ : ax_Sg} {P : Option Value → ax_Sg → Prop} (x1 : Int32) (h : Ev l 58 0 [some (.ref 2), some (.int x1), none] [] σ (fun o1 σ2 => ax_ov o1 (Ev l 59 0 [some (.ref 2), none] [] σ2 (fun o3 σ4 => ax_ov o3 (Ev l 57 13 [some (.ref 2), none, some (.int 0), some (.int 0)] [] σ4 P))))) : Ev l 57 0 [some (.ref 2), some (.int x1), none, none] [] σ P := bl_X8_fillFree (ct := ct_X8_fillFree) (n := 11) h
set_option maxRecDepth 20000 in
theorem b_X8_fillFree_13 {l : Launch} {σ : ax_Sg} {P : Option Value → ax_Sg → Prop} (x2 : Int32) (x3 : Int32) (h : ax_br (x3 < σ 2 6) ((vp_in x3 10 ∧ Ev l 60 0 [some (.ref 2), some (.int (σ 20 (Int32.toNatClampNeg x3))), none, none, none, none, none] [] σ (fun o1 σ2 => ax_oi o1 (fun v3 => Ev l 57 13 [some (.ref 2), none, some (.int (x2 + v3)), some (.int (x3 + 1))] [] σ2 P)))) (P (some (.int x2)) σ)) : Ev l 57 13 [some (.ref 2), none, some (.int x2), some (.int x3)] [] σ P := bl_X8_fillFree (ct := ct_X8_fillFree) (n := 17) h
def ct_X10_fill : List (Nat × List Bool) := []
theorem hm_X10_fill : ax_m 77 = mi_X10_fill := rfl
theorem bl_X10_fill {l : Launch} {ct : List (Nat × List Bool)} {n pc : Nat} {L : ax_Lc} {st : List Value} {σ : ax_Sg} {P : Option Value → ax_Sg → Prop} (h : ax_bk tb_X10_fill ct (fun pc L st σ => Ev l 77 pc L st σ P) (fun a L σ Q => Ev l a 0 L [] σ Q) P none n pc L st σ) : Ev l 77 pc L st σ P := ax_blk (m0 := mi_X10_fill) (t := tb_X10_fill) hm_X10_fill ck_X10_fill h
set_option maxRecDepth 20000 in
theorem b_X10_fill_0 {l : Launch} {σ : ax_Sg} {P : Option Value → ax_Sg → Prop}  (h : Ev l 57 0 [some (.ref 2), some (.int (σ 1 4)), none, none] [] σ (fun o1 σ2 => ax_oi o1 (fun v3 => P (some (.int v3)) σ2))) : Ev l 77 0 [some (.ref 0)] [] σ P := bl_X10_fill (ct := ct_X10_fill) (n := 8) h
def ct_X9_append : List (Nat × List Bool) := [(5, [true, true, false, false, true])]
theorem hm_X9_append : ax_m 62 = mi_X9_append := rfl
theorem bl_X9_append {l : Launch} {ct : List (Nat × List Bool)} {n pc : Nat} {L : ax_Lc} {st : List Value} {σ : ax_Sg} {P : Option Value → ax_Sg → Prop} (h : ax_bk tb_X9_append ct (fun pc L st σ => Ev l 62 pc L st σ P) (fun a L σ Q => Ev l a 0 L [] σ Q) P none n pc L st σ) : Ev l 62 pc L st σ P := ax_blk (m0 := mi_X9_append) (t := tb_X9_append) hm_X9_append ck_X9_append h
set_option maxRecDepth 20000 in
theorem b_X9_append_0 {l : Launch} {σ : ax_Sg} {P : Option Value → ax_Sg → Prop} (j1 : Int64) (x3 : Int32) (h : Ev l 62 5 [some (.ref 3), some (.long j1), none, none, some (.int (x3 - 1))] [] σ P) : Ev l 62 0 [some (.ref 3), some (.long j1), none, some (.int x3), none] [] σ P := bl_X9_append (ct := ct_X9_append) (n := 6) h
set_option maxRecDepth 20000 in
theorem b_X9_append_5 {l : Launch} {σ : ax_Sg} {P : Option Value → ax_Sg → Prop} (j1 : Int64) (x4 : Int32) (h : ax_br (x4 < 0) (P (some (.int (σ 3 2))) σ) ((vp_in (σ 3 2) 120 ∧ Ev l 62 5 [some (.ref 3), some (.long j1), none, none, some (.int (x4 + (-1)))] [] (ax_us (ax_us σ 25 (Int32.toNatClampNeg (σ 3 2)) ((Int64.toInt32 ((Int64.toUInt64 j1 >>> (Int64.toUInt64 (Int32.toInt64 (8 * x4)) &&& Int64.toUInt64 63)).toInt64)) &&& 255)) 3 2 ((σ 3 2) + 1)) P))) : Ev l 62 5 [some (.ref 3), some (.long j1), none, none, some (.int x4)] [] σ P := bl_X9_append (ct := ct_X9_append) (n := 25) h
def ct_X10_feed : List (Nat × List Bool) := []
theorem hm_X10_feed : ax_m 78 = mi_X10_feed := rfl
theorem bl_X10_feed {l : Launch} {ct : List (Nat × List Bool)} {n pc : Nat} {L : ax_Lc} {st : List Value} {σ : ax_Sg} {P : Option Value → ax_Sg → Prop} (h : ax_bk tb_X10_feed ct (fun pc L st σ => Ev l 78 pc L st σ P) (fun a L σ Q => Ev l a 0 L [] σ Q) P none n pc L st σ) : Ev l 78 pc L st σ P := ax_blk (m0 := mi_X10_feed) (t := tb_X10_feed) hm_X10_feed ck_X10_feed h
set_option maxRecDepth 20000 in
theorem b_X10_feed_0 {l : Launch} {σ : ax_Sg} {P : Option Value → ax_Sg → Prop} (j1 : Int64) (x3 : Int32) (h : Ev l 102 0 [some (.int x3), some (.int 1), some (.int 8)] [] σ (fun o1 σ2 => ax_oi o1 (fun v3 => ax_br (v3 = 0) (P (some (.int (-2))) σ2) (ax_br (120 < (σ2 3 2) + x3) (P (some (.int (-4))) σ2) (Ev l 62 0 [some (.ref 3), some (.long j1), none, some (.int x3), none] [] σ2 (fun o4 σ5 => ax_oi o4 (fun v6 => P (some (.int v6)) σ5))))))) : Ev l 78 0 [some (.ref 0), some (.long j1), none, some (.int x3)] [] σ P := bl_X10_feed (ct := ct_X10_feed) (n := 19) h
def ct_X5_copy : List (Nat × List Bool) := [(2, [true, true, true])]
theorem hm_X5_copy : ax_m 38 = mi_X5_copy := rfl
theorem bl_X5_copy {l : Launch} {ct : List (Nat × List Bool)} {n pc : Nat} {L : ax_Lc} {st : List Value} {σ : ax_Sg} {P : Option Value → ax_Sg → Prop} (h : ax_bk tb_X5_copy ct (fun pc L st σ => Ev l 38 pc L st σ P) (fun a L σ Q => Ev l a 0 L [] σ Q) P none n pc L st σ) : Ev l 38 pc L st σ P := ax_blk (m0 := mi_X5_copy) (t := tb_X5_copy) hm_X5_copy ck_X5_copy h
set_option maxRecDepth 20000 in
theorem b_X5_copy_0 {l : Launch} {σ : ax_Sg} {P : Option Value → ax_Sg → Prop}  (h : Ev l 38 2 [some (.ref 4), some (.ref 12), some (.int 0)] [] σ P) : Ev l 38 0 [some (.ref 4), some (.ref 12), none] [] σ P := bl_X5_copy (ct := ct_X5_copy) (n := 4) h
set_option maxRecDepth 20000 in
theorem b_X5_copy_2 {l : Launch} {σ : ax_Sg} {P : Option Value → ax_Sg → Prop} (x2 : Int32) (h : ax_br (x2 < σ 12 3) ((vp_in x2 6 ∧ (vp_in x2 6 ∧ (vp_in x2 6 ∧ (vp_in x2 6 ∧ (vp_in x2 6 ∧ (vp_in x2 6 ∧ Ev l 38 2 [some (.ref 4), some (.ref 12), some (.int (x2 + 1))] [] (ax_us (ax_us (ax_us σ 26 (Int32.toNatClampNeg x2) (σ 55 (Int32.toNatClampNeg x2))) 27 (Int32.toNatClampNeg x2) (σ 56 (Int32.toNatClampNeg x2))) 28 (Int32.toNatClampNeg x2) (σ 57 (Int32.toNatClampNeg x2))) P))))))) (P none (ax_us σ 4 3 (σ 12 3)))) : Ev l 38 2 [some (.ref 4), some (.ref 12), some (.int x2)] [] σ P := bl_X5_copy (ct := ct_X5_copy) (n := 32) h
def ct_X9_readByte : List (Nat × List Bool) := []
theorem hm_X9_readByte : ax_m 69 = mi_X9_readByte := rfl
theorem bl_X9_readByte {l : Launch} {ct : List (Nat × List Bool)} {n pc : Nat} {L : ax_Lc} {st : List Value} {σ : ax_Sg} {P : Option Value → ax_Sg → Prop} (h : ax_bk tb_X9_readByte ct (fun pc L st σ => Ev l 69 pc L st σ P) (fun a L σ Q => Ev l a 0 L [] σ Q) P none n pc L st σ) : Ev l 69 pc L st σ P := ax_blk (m0 := mi_X9_readByte) (t := tb_X9_readByte) hm_X9_readByte ck_X9_readByte h
set_option maxRecDepth 20000 in
theorem b_X9_readByte_0 {l : Launch} {σ : ax_Sg} {P : Option Value → ax_Sg → Prop} (x1 : Int32) (h : ax_br (σ 3 3 < σ 3 2) ((vp_in (σ 3 3) 120 ∧ ax_br (σ 25 (Int32.toNatClampNeg (σ 3 3)) = x1) ((vp_nar .boolean 1 = 1 ∧ P (some (.int 1)) (ax_us σ 3 3 ((σ 3 3) + 1)))) ((vp_nar .boolean 0 = 0 ∧ P (some (.int 0)) σ)))) ((vp_nar .boolean 0 = 0 ∧ P (some (.int 0)) σ))) : Ev l 69 0 [some (.ref 3), some (.int x1)] [] σ P := bl_X9_readByte (ct := ct_X9_readByte) (n := 21) h
def ct_X5_add : List (Nat × List Bool) := []
theorem hm_X5_add : ax_m 37 = mi_X5_add := rfl
theorem bl_X5_add {l : Launch} {ct : List (Nat × List Bool)} {n pc : Nat} {L : ax_Lc} {st : List Value} {σ : ax_Sg} {P : Option Value → ax_Sg → Prop} (h : ax_bk tb_X5_add ct (fun pc L st σ => Ev l 37 pc L st σ P) (fun a L σ Q => Ev l a 0 L [] σ Q) P none n pc L st σ) : Ev l 37 pc L st σ P := ax_blk (m0 := mi_X5_add) (t := tb_X5_add) hm_X5_add ck_X5_add h
set_option maxRecDepth 20000 in
theorem b_X5_add_0 {l : Launch} {σ : ax_Sg} {P : Option Value → ax_Sg → Prop} (x1 : Int32) (x2 : Int32) (x3 : Int32) (h : (vp_in (σ 12 3) 6 ∧ (vp_in (σ 12 3) 6 ∧ (vp_in (σ 12 3) 6 ∧ P none (ax_us (ax_us (ax_us (ax_us σ 55 (Int32.toNatClampNeg (σ 12 3)) x1) 56 (Int32.toNatClampNeg (σ 12 3)) x2) 57 (Int32.toNatClampNeg (σ 12 3)) x3) 12 3 ((σ 12 3) + 1)))))) : Ev l 37 0 [some (.ref 12), some (.int x1), some (.int x2), some (.int x3)] [] σ P := bl_X5_add (ct := ct_X5_add) (n := 26) h
def ct_X9_readDigit : List (Nat × List Bool) := []
theorem hm_X9_readDigit : ax_m 70 = mi_X9_readDigit := rfl
theorem bl_X9_readDigit {l : Launch} {ct : List (Nat × List Bool)} {n pc : Nat} {L : ax_Lc} {st : List Value} {σ : ax_Sg} {P : Option Value → ax_Sg → Prop} (h : ax_bk tb_X9_readDigit ct (fun pc L st σ => Ev l 70 pc L st σ P) (fun a L σ Q => Ev l a 0 L [] σ Q) P none n pc L st σ) : Ev l 70 pc L st σ P := ax_blk (m0 := mi_X9_readDigit) (t := tb_X9_readDigit) hm_X9_readDigit ck_X9_readDigit h
set_option maxRecDepth 20000 in
theorem b_X9_readDigit_0 {l : Launch} {σ : ax_Sg} {P : Option Value → ax_Sg → Prop} (x1 : Int32) (h : ax_br (σ 3 3 < σ 3 2) ((vp_in (σ 3 3) 120 ∧ Ev l 102 0 [some (.int ((σ 25 (Int32.toNatClampNeg (σ 3 3))) - 48)), some (.int 0), some (.int x1)] [] σ (fun o1 σ2 => ax_oi o1 (fun v3 => ax_br (v3 = 0) (P (some (.int (-1))) σ2) ((vp_in (((σ2 3 3) + 1) - 1) 120 ∧ P (some (.int ((σ2 25 (Int32.toNatClampNeg (((σ2 3 3) + 1) - 1))) - 48))) (ax_us σ2 3 3 ((σ2 3 3) + 1)))))))) (P (some (.int (-1))) σ)) : Ev l 70 0 [some (.ref 3), some (.int x1)] [] σ P := bl_X9_readDigit (ct := ct_X9_readDigit) (n := 33) h
def ct_X9_readNumber : List (Nat × List Bool) := [(9, [true, true, true, false])]
theorem hm_X9_readNumber : ax_m 71 = mi_X9_readNumber := rfl
theorem bl_X9_readNumber {l : Launch} {ct : List (Nat × List Bool)} {n pc : Nat} {L : ax_Lc} {st : List Value} {σ : ax_Sg} {P : Option Value → ax_Sg → Prop} (h : ax_bk tb_X9_readNumber ct (fun pc L st σ => Ev l 71 pc L st σ P) (fun a L σ Q => Ev l a 0 L [] σ Q) P none n pc L st σ) : Ev l 71 pc L st σ P := ax_blk (m0 := mi_X9_readNumber) (t := tb_X9_readNumber) hm_X9_readNumber ck_X9_readNumber h
set_option maxRecDepth 20000 in
theorem b_X9_readNumber_0 {l : Launch} {σ : ax_Sg} {P : Option Value → ax_Sg → Prop}  (h : Ev l 70 0 [some (.ref 3), some (.int 9)] [] σ (fun o1 σ2 => ax_oi o1 (fun v3 => Ev l 71 9 [some (.ref 3), some (.int v3), some (.int 1), none] [] σ2 P))) : Ev l 71 0 [some (.ref 3), none, none, none] [] σ P := bl_X9_readNumber (ct := ct_X9_readNumber) (n := 8) h
set_option maxRecDepth 20000 in
theorem b_X9_readNumber_9 {l : Launch} {σ : ax_Sg} {P : Option Value → ax_Sg → Prop} (x1 : Int32) (x2 : Int32) (h : ax_br (x2 < 4) (ax_br (x1 = (-1)) (P (some (.int x1)) σ) (Ev l 70 0 [some (.ref 3), some (.int 9)] [] σ (fun o1 σ2 => ax_oi o1 (fun v3 => ax_br (v3 = (-1)) (P (some (.int x1)) σ2) (Ev l 71 9 [some (.ref 3), some (.int ((x1 * 10) + v3)), some (.int (x2 + 1)), none] [] σ2 P))))) (P (some (.int x1)) σ)) : Ev l 71 9 [some (.ref 3), some (.int x1), some (.int x2), none] [] σ P := bl_X9_readNumber (ct := ct_X9_readNumber) (n := 23) h
def ct_X9_sameBytes : List (Nat × List Bool) := [(2, [true, true, true])]
theorem hm_X9_sameBytes : ax_m 68 = mi_X9_sameBytes := rfl
theorem bl_X9_sameBytes {l : Launch} {ct : List (Nat × List Bool)} {n pc : Nat} {L : ax_Lc} {st : List Value} {σ : ax_Sg} {P : Option Value → ax_Sg → Prop} (h : ax_bk tb_X9_sameBytes ct (fun pc L st σ => Ev l 68 pc L st σ P) (fun a L σ Q => Ev l a 0 L [] σ Q) P none n pc L st σ) : Ev l 68 pc L st σ P := ax_blk (m0 := mi_X9_sameBytes) (t := tb_X9_sameBytes) hm_X9_sameBytes ck_X9_sameBytes h
set_option maxRecDepth 20000 in
theorem b_X9_sameBytes_0 {l : Launch} {σ : ax_Sg} {P : Option Value → ax_Sg → Prop} (r1 : Nat) (h : Ev l 68 2 [some (.ref 3), some (.ref r1), some (.int 0)] [] σ P) : Ev l 68 0 [some (.ref 3), some (.ref r1), none] [] σ P := bl_X9_sameBytes (ct := ct_X9_sameBytes) (n := 4) h
set_option maxRecDepth 20000 in
theorem b_X9_sameBytes_2 {l : Launch} {σ : ax_Sg} {P : Option Value → ax_Sg → Prop} (r1 : Nat) (x2 : Int32) (h : (match ax_tx[r1 - 1000]? with | some t1 => cond (Nat.ble 1000 r1) (ax_br (x2 < Int32.ofNat (List.length t1)) (ax_br ((σ 3 3) + x2 < σ 3 2) ((vp_in ((σ 3 3) + x2) 120 ∧ (match ax_tx[r1 - 1000]? with | some t2 => cond (Nat.ble 1000 r1) (vp_in x2 (List.length t2) ∧ ax_br (σ 25 (Int32.toNatClampNeg ((σ 3 3) + x2)) = List.getD t2 (Int32.toNatClampNeg x2) 0) (Ev l 68 2 [some (.ref 3), some (.ref r1), some (.int (x2 + 1))] [] σ P) (P (some (.int x2)) σ)) False | none => False))) (P (some (.int x2)) σ)) (P (some (.int x2)) σ)) False | none => False)) : Ev l 68 2 [some (.ref 3), some (.ref r1), some (.int x2)] [] σ P := bl_X9_sameBytes (ct := ct_X9_sameBytes) (n := 26) h
def ct_X9_wordOf : List (Nat × List Bool) := []
theorem hm_X9_wordOf : ax_m 67 = mi_X9_wordOf := rfl
theorem bl_X9_wordOf {l : Launch} {ct : List (Nat × List Bool)} {n pc : Nat} {L : ax_Lc} {st : List Value} {σ : ax_Sg} {P : Option Value → ax_Sg → Prop} (h : ax_bk tb_X9_wordOf ct (fun pc L st σ => Ev l 67 pc L st σ P) (fun a L σ Q => Ev l a 0 L [] σ Q) P none n pc L st σ) : Ev l 67 pc L st σ P := ax_blk (m0 := mi_X9_wordOf) (t := tb_X9_wordOf) hm_X9_wordOf ck_X9_wordOf h
set_option maxRecDepth 20000 in
theorem b_X9_wordOf_0 {l : Launch} {σ : ax_Sg} {P : Option Value → ax_Sg → Prop} (x0 : Int32) (h : ((x0 = 0 → P (some (.ref 1000)) σ) ∧ (¬ x0 = 0 → ((x0 = 1 → P (some (.ref 1001)) σ) ∧ (¬ x0 = 1 → ((x0 = 2 → P (some (.ref 1002)) σ) ∧ (¬ x0 = 2 → ((x0 = 3 → P (some (.ref 1003)) σ) ∧ (¬ x0 = 3 → ((x0 = 4 → P (some (.ref 1004)) σ) ∧ (¬ x0 = 4 → P (some (.ref 1005)) σ))))))))))) : Ev l 67 0 [some (.int x0)] [] σ P := bl_X9_wordOf (ct := ct_X9_wordOf) (n := 5) h
def ct_X9_readWord : List (Nat × List Bool) := [(4, [true, true, true, false, false])]
theorem hm_X9_readWord : ax_m 66 = mi_X9_readWord := rfl
theorem bl_X9_readWord {l : Launch} {ct : List (Nat × List Bool)} {n pc : Nat} {L : ax_Lc} {st : List Value} {σ : ax_Sg} {P : Option Value → ax_Sg → Prop} (h : ax_bk tb_X9_readWord ct (fun pc L st σ => Ev l 66 pc L st σ P) (fun a L σ Q => Ev l a 0 L [] σ Q) P none n pc L st σ) : Ev l 66 pc L st σ P := ax_blk (m0 := mi_X9_readWord) (t := tb_X9_readWord) hm_X9_readWord ck_X9_readWord h
set_option maxRecDepth 20000 in
theorem b_X9_readWord_0 {l : Launch} {σ : ax_Sg} {P : Option Value → ax_Sg → Prop}  (h : Ev l 66 4 [some (.ref 3), some (.int 0), some (.int 0), none, none] [] σ P) : Ev l 66 0 [some (.ref 3), none, none, none, none] [] σ P := bl_X9_readWord (ct := ct_X9_readWord) (n := 6) h
set_option maxRecDepth 20000 in
theorem b_X9_readWord_4 {l : Launch} {σ : ax_Sg} {P : Option Value → ax_Sg → Prop} (x1 : Int32) (x2 : Int32) (h : ax_br (5 < x2) (P (some (.int (-1))) (ax_us σ 3 3 ((σ 3 3) + x1))) (Ev l 67 0 [some (.int x2)] [] σ (fun o1 σ2 => ax_or o1 (fun r3 => Ev l 68 0 [some (.ref 3), some (.ref r3), none] [] σ2 (fun o4 σ5 => ax_oi o4 (fun v6 => (match ax_tx[r3 - 1000]? with | some t7 => cond (Nat.ble 1000 r3) (ax_br (v6 = Int32.ofNat (List.length t7)) (P (some (.int x2)) (ax_us σ5 3 3 ((σ5 3 3) + v6))) (Ev l 175 0 [some (.int x1), some (.int v6)] [] σ5 (fun o8 σ9 => ax_oi o8 (fun v10 => Ev l 66 4 [some (.ref 3), some (.int v10), some (.int (x2 + 1)), none, none] [] σ9 P)))) False | none => False))))))) : Ev l 66 4 [some (.ref 3), some (.int x1), some (.int x2), none, none] [] σ P := bl_X9_readWord (ct := ct_X9_readWord) (n := 23) h
def ct_X9_readClause : List (Nat × List Bool) := []
theorem hm_X9_readClause : ax_m 65 = mi_X9_readClause := rfl
theorem bl_X9_readClause {l : Launch} {ct : List (Nat × List Bool)} {n pc : Nat} {L : ax_Lc} {st : List Value} {σ : ax_Sg} {P : Option Value → ax_Sg → Prop} (h : ax_bk tb_X9_readClause ct (fun pc L st σ => Ev l 65 pc L st σ P) (fun a L σ Q => Ev l a 0 L [] σ Q) P none n pc L st σ) : Ev l 65 pc L st σ P := ax_blk (m0 := mi_X9_readClause) (t := tb_X9_readClause) hm_X9_readClause ck_X9_readClause h
set_option maxRecDepth 20000 in
theorem b_X9_readClause_0 {l : Launch} {σ : ax_Sg} {P : Option Value → ax_Sg → Prop}  (h : Ev l 66 0 [some (.ref 3), none, none, none, none] [] σ (fun o1 σ2 => ax_oi o1 (fun v3 => ax_br (v3 = (-1)) ((vp_nar .boolean 0 = 0 ∧ P (some (.int 0)) σ2)) (ax_br (v3 = 3) (Ev l 70 0 [some (.ref 3), some (.int 4)] [] σ2 (fun o4 σ5 => ax_oi o4 (fun v6 => ax_br (v6 = (-1)) ((vp_nar .boolean 0 = 0 ∧ P (some (.int 0)) σ5)) (Ev l 69 0 [some (.ref 3), some (.int 32)] [] σ5 (fun o7 σ8 => ax_oi o7 (fun v9 => ax_br (v9 = 0) ((vp_nar .boolean 0 = 0 ∧ P (some (.int 0)) σ8)) (Ev l 71 0 [some (.ref 3), none, none, none] [] σ8 (fun o10 σ11 => ax_oi o10 (fun v12 => ax_br (v12 = (-1)) ((vp_nar .boolean 0 = 0 ∧ P (some (.int 0)) σ11)) (Ev l 37 0 [some (.ref 12), some (.int v3), some (.int v6), some (.int v12)] [] σ11 (fun o13 σ14 => ax_ov o13 ((vp_nar .boolean 1 = 1 ∧ P (some (.int 1)) σ14))))))))))))) (Ev l 71 0 [some (.ref 3), none, none, none] [] σ2 (fun o15 σ16 => ax_oi o15 (fun v17 => ax_br (v17 = (-1)) ((vp_nar .boolean 0 = 0 ∧ P (some (.int 0)) σ16)) (Ev l 37 0 [some (.ref 12), some (.int v3), some (.int (-1)), some (.int v17)] [] σ16 (fun o18 σ19 => ax_ov o18 ((vp_nar .boolean 1 = 1 ∧ P (some (.int 1)) σ19))))))))))) : Ev l 65 0 [some (.ref 3), none, none, none] [] σ P := bl_X9_readClause (ct := ct_X9_readClause) (n := 37) h
def ct_X9_readClauses : List (Nat × List Bool) := [(2, [true, true])]
theorem hm_X9_readClauses : ax_m 64 = mi_X9_readClauses := rfl
theorem bl_X9_readClauses {l : Launch} {ct : List (Nat × List Bool)} {n pc : Nat} {L : ax_Lc} {st : List Value} {σ : ax_Sg} {P : Option Value → ax_Sg → Prop} (h : ax_bk tb_X9_readClauses ct (fun pc L st σ => Ev l 64 pc L st σ P) (fun a L σ Q => Ev l a 0 L [] σ Q) P none n pc L st σ) : Ev l 64 pc L st σ P := ax_blk (m0 := mi_X9_readClauses) (t := tb_X9_readClauses) hm_X9_readClauses ck_X9_readClauses h
set_option maxRecDepth 20000 in
theorem b_X9_readClauses_0 {l : Launch} {σ : ax_Sg} {P : Option Value → ax_Sg → Prop}  (h : Ev l 64 2 [some (.ref 3), some (.int 1)] [] σ P) : Ev l 64 0 [some (.ref 3), none] [] σ P := bl_X9_readClauses (ct := ct_X9_readClauses) (n := 4) h
set_option maxRecDepth 20000 in
theorem b_X9_readClauses_2 {l : Launch} {σ : ax_Sg} {P : Option Value → ax_Sg → Prop} (x1 : Int32) (h : ax_br (6 < x1) ((vp_nar .boolean 0 = 0 ∧ P (some (.int 0)) σ)) (Ev l 65 0 [some (.ref 3), none, none, none] [] σ (fun o1 σ2 => ax_oi o1 (fun v3 => ax_br (v3 = 0) ((vp_nar .boolean 0 = 0 ∧ P (some (.int 0)) σ2)) (ax_br (σ2 3 3 = σ2 3 2) ((vp_nar .boolean 1 = 1 ∧ P (some (.int 1)) σ2)) (ax_br (x1 = 6) ((vp_nar .boolean 0 = 0 ∧ P (some (.int 0)) σ2)) (Ev l 69 0 [some (.ref 3), some (.int 59)] [] σ2 (fun o4 σ5 => ax_oi o4 (fun v6 => ax_br (v6 = 0) ((vp_nar .boolean 0 = 0 ∧ P (some (.int 0)) σ5)) (Ev l 64 2 [some (.ref 3), some (.int (x1 + 1))] [] σ5 P)))))))))) : Ev l 64 2 [some (.ref 3), some (.int x1)] [] σ P := bl_X9_readClauses (ct := ct_X9_readClauses) (n := 22) h
def ct_X9_read : List (Nat × List Bool) := []
theorem hm_X9_read : ax_m 63 = mi_X9_read := rfl
theorem bl_X9_read {l : Launch} {ct : List (Nat × List Bool)} {n pc : Nat} {L : ax_Lc} {st : List Value} {σ : ax_Sg} {P : Option Value → ax_Sg → Prop} (h : ax_bk tb_X9_read ct (fun pc L st σ => Ev l 63 pc L st σ P) (fun a L σ Q => Ev l a 0 L [] σ Q) P none n pc L st σ) : Ev l 63 pc L st σ P := ax_blk (m0 := mi_X9_read) (t := tb_X9_read) hm_X9_read ck_X9_read h
set_option maxRecDepth 20000 in
theorem b_X9_read_0 {l : Launch} {σ : ax_Sg} {P : Option Value → ax_Sg → Prop}  (h : Ev l 64 0 [some (.ref 3), none] [] (ax_us (ax_us σ 3 3 0) 12 3 0) (fun o1 σ2 => ax_oi o1 (fun v3 => ax_br (v3 = 0) (P (some (.int (σ2 3 3))) (ax_us σ2 3 2 0)) (P (some (.int (-1))) (ax_us σ2 3 2 0))))) : Ev l 63 0 [some (.ref 3), none] [] σ P := bl_X9_read (ct := ct_X9_read) (n := 19) h
def ct_X10_law : List (Nat × List Bool) := []
theorem hm_X10_law : ax_m 79 = mi_X10_law := rfl
theorem bl_X10_law {l : Launch} {ct : List (Nat × List Bool)} {n pc : Nat} {L : ax_Lc} {st : List Value} {σ : ax_Sg} {P : Option Value → ax_Sg → Prop} (h : ax_bk tb_X10_law ct (fun pc L st σ => Ev l 79 pc L st σ P) (fun a L σ Q => Ev l a 0 L [] σ Q) P none n pc L st σ) : Ev l 79 pc L st σ P := ax_blk (m0 := mi_X10_law) (t := tb_X10_law) hm_X10_law ck_X10_law h
set_option maxRecDepth 20000 in
theorem b_X10_law_0 {l : Launch} {σ : ax_Sg} {P : Option Value → ax_Sg → Prop}  (h : Ev l 63 0 [some (.ref 3), none] [] σ (fun o1 σ2 => ax_oi o1 (fun v3 => ax_br (v3 = (-1)) (Ev l 38 0 [some (.ref 4), some (.ref 12), none] [] σ2 (fun o4 σ5 => ax_ov o4 (P (some (.int (σ5 4 3))) σ5))) (P (some (.int ((-10) - v3))) σ2)))) : Ev l 79 0 [some (.ref 0), none] [] σ P := bl_X10_law (ct := ct_X10_law) (n := 18) h
def ct_X10_isWard : List (Nat × List Bool) := []
theorem hm_X10_isWard : ax_m 103 = mi_X10_isWard := rfl
theorem bl_X10_isWard {l : Launch} {ct : List (Nat × List Bool)} {n pc : Nat} {L : ax_Lc} {st : List Value} {σ : ax_Sg} {P : Option Value → ax_Sg → Prop} (h : ax_bk tb_X10_isWard ct (fun pc L st σ => Ev l 103 pc L st σ P) (fun a L σ Q => Ev l a 0 L [] σ Q) P none n pc L st σ) : Ev l 103 pc L st σ P := ax_blk (m0 := mi_X10_isWard) (t := tb_X10_isWard) hm_X10_isWard ck_X10_isWard h
set_option maxRecDepth 20000 in
theorem b_X10_isWard_0 {l : Launch} {σ : ax_Sg} {P : Option Value → ax_Sg → Prop} (x0 : Int32) (h : Ev l 102 0 [some (.int x0), some (.int 0), some (.int 4)] [] σ (fun o1 σ2 => ax_oi o1 (fun v3 => (vp_nar .boolean v3 = v3 ∧ P (some (.int v3)) σ2)))) : Ev l 103 0 [some (.int x0)] [] σ P := bl_X10_isWard (ct := ct_X10_isWard) (n := 6) h
def ct_J9_abs_0f7a4 : List (Nat × List Bool) := []
theorem hm_J9_abs_0f7a4 : ax_m 174 = mi_J9_abs_0f7a4 := rfl
theorem bl_J9_abs_0f7a4 {l : Launch} {ct : List (Nat × List Bool)} {n pc : Nat} {L : ax_Lc} {st : List Value} {σ : ax_Sg} {P : Option Value → ax_Sg → Prop} (h : ax_bk tb_J9_abs_0f7a4 ct (fun pc L st σ => Ev l 174 pc L st σ P) (fun a L σ Q => Ev l a 0 L [] σ Q) P none n pc L st σ) : Ev l 174 pc L st σ P := ax_blk (m0 := mi_J9_abs_0f7a4) (t := tb_J9_abs_0f7a4) hm_J9_abs_0f7a4 ck_J9_abs_0f7a4 h
set_option maxRecDepth 20000 in
theorem b_J9_abs_0f7a4_0 {l : Launch} {σ : ax_Sg} {P : Option Value → ax_Sg → Prop} (x0 : Int32) (h : ax_br (x0 < 0) (P (some (.int (-x0))) σ) (P (some (.int x0)) σ)) : Ev l 174 0 [some (.int x0)] [] σ P := bl_J9_abs_0f7a4 (ct := ct_J9_abs_0f7a4) (n := 7) h
def ct_X5_timesDue : List (Nat × List Bool) := []
theorem hm_X5_timesDue : ax_m 40 = mi_X5_timesDue := rfl
theorem bl_X5_timesDue {l : Launch} {ct : List (Nat × List Bool)} {n pc : Nat} {L : ax_Lc} {st : List Value} {σ : ax_Sg} {P : Option Value → ax_Sg → Prop} (h : ax_bk tb_X5_timesDue ct (fun pc L st σ => Ev l 40 pc L st σ P) (fun a L σ Q => Ev l a 0 L [] σ Q) P none n pc L st σ) : Ev l 40 pc L st σ P := ax_blk (m0 := mi_X5_timesDue) (t := tb_X5_timesDue) hm_X5_timesDue ck_X5_timesDue h
set_option maxRecDepth 20000 in
theorem b_X5_timesDue_0 {l : Launch} {σ : ax_Sg} {P : Option Value → ax_Sg → Prop} (x1 : Int32) (x2 : Int32) (x3 : Int32) (x4 : Int32) (x5 : Int32) (h : (vp_in x1 6 ∧ ((σ 26 (Int32.toNatClampNeg x1) = 0 → P (some (.int 1)) σ) ∧ (¬ σ 26 (Int32.toNatClampNeg x1) = 0 → ((σ 26 (Int32.toNatClampNeg x1) = 1 → Ev l 174 0 [some (.int (x2 - x3))] [] σ (fun o1 σ2 => ax_oi o1 (fun v3 => P (some (.int v3)) σ2))) ∧ (¬ σ 26 (Int32.toNatClampNeg x1) = 1 → ((σ 26 (Int32.toNatClampNeg x1) = 2 → ax_br (x4 < 6) (P (some (.int 1)) σ) (ax_br (19 < x4) (P (some (.int 1)) σ) (P (some (.int 0)) σ))) ∧ (¬ σ 26 (Int32.toNatClampNeg x1) = 2 → ((σ 26 (Int32.toNatClampNeg x1) = 3 → (vp_in x1 6 ∧ ax_br (x2 = σ 27 (Int32.toNatClampNeg x1)) (P (some (.int 1)) σ) ((vp_in x1 6 ∧ ax_br (x3 = σ 27 (Int32.toNatClampNeg x1)) (P (some (.int 1)) σ) (P (some (.int 0)) σ))))) ∧ (¬ σ 26 (Int32.toNatClampNeg x1) = 3 → ((σ 26 (Int32.toNatClampNeg x1) = 4 → P (some (.int x5)) σ) ∧ (¬ σ 26 (Int32.toNatClampNeg x1) = 4 → P (some (.int 0)) σ)))))))))))) : Ev l 40 0 [some (.ref 4), some (.int x1), some (.int x2), some (.int x3), some (.int x4), some (.int x5)] [] σ P := bl_X5_timesDue (ct := ct_X5_timesDue) (n := 21) h
def ct_X5_price : List (Nat × List Bool) := [(10, [true, true, true, true, true, true, true, true])]
theorem hm_X5_price : ax_m 39 = mi_X5_price := rfl
theorem bl_X5_price {l : Launch} {ct : List (Nat × List Bool)} {n pc : Nat} {L : ax_Lc} {st : List Value} {σ : ax_Sg} {P : Option Value → ax_Sg → Prop} (h : ax_bk tb_X5_price ct (fun pc L st σ => Ev l 39 pc L st σ P) (fun a L σ Q => Ev l a 0 L [] σ Q) P none n pc L st σ) : Ev l 39 pc L st σ P := ax_blk (m0 := mi_X5_price) (t := tb_X5_price) hm_X5_price ck_X5_price h
set_option maxRecDepth 20000 in
theorem b_X5_price_0 {l : Launch} {σ : ax_Sg} {P : Option Value → ax_Sg → Prop} (x1 : Int32) (x2 : Int32) (x3 : Int32) (x4 : Int32) (h : Ev l 39 10 [some (.ref 4), some (.int x1), some (.int x2), some (.int x3), some (.int x4), some (.int 0), some (.int 99999), some (.int 0)] [] σ P) : Ev l 39 0 [some (.ref 4), some (.int x1), some (.int x2), some (.int x3), some (.int x4), none, none, none] [] σ P := bl_X5_price (ct := ct_X5_price) (n := 8) h
set_option maxRecDepth 20000 in
theorem b_X5_price_10 {l : Launch} {σ : ax_Sg} {P : Option Value → ax_Sg → Prop} (x1 : Int32) (x2 : Int32) (x3 : Int32) (x4 : Int32) (x5 : Int32) (x6 : Int32) (x7 : Int32) (h : ax_br (x7 < σ 4 3) ((vp_in x7 6 ∧ ax_br (σ 26 (Int32.toNatClampNeg x7) = 5) ((vp_in x7 6 ∧ Ev l 176 0 [some (.int x6), some (.int (σ 28 (Int32.toNatClampNeg x7)))] [] σ (fun o1 σ2 => ax_oi o1 (fun v3 => Ev l 39 10 [some (.ref 4), some (.int x1), some (.int x2), some (.int x3), some (.int x4), some (.int x5), some (.int v3), some (.int (x7 + 1))] [] σ2 P)))) ((vp_in x7 6 ∧ Ev l 40 0 [some (.ref 4), some (.int x7), some (.int x1), some (.int x2), some (.int x3), some (.int x4)] [] σ (fun o4 σ5 => ax_oi o4 (fun v6 => Ev l 39 10 [some (.ref 4), some (.int x1), some (.int x2), some (.int x3), some (.int x4), some (.int (x5 + ((σ 28 (Int32.toNatClampNeg x7)) * v6))), some (.int x6), some (.int (x7 + 1))] [] σ5 P)))))) (Ev l 176 0 [some (.int x5), some (.int x6)] [] σ (fun o7 σ8 => ax_oi o7 (fun v9 => P (some (.int v9)) σ8)))) : Ev l 39 10 [some (.ref 4), some (.int x1), some (.int x2), some (.int x3), some (.int x4), some (.int x5), some (.int x6), some (.int x7)] [] σ P := bl_X5_price (ct := ct_X5_price) (n := 29) h
end
section
/-! stretches of the class, between cuts: their verification conditions. Written by wip/whole/gen/gen_blocks.py -/
def ct_X10_fare : List (Nat × List Bool) := []
theorem hm_X10_fare : ax_m 80 = mi_X10_fare := rfl
theorem bl_X10_fare {l : Launch} {ct : List (Nat × List Bool)} {n pc : Nat} {L : ax_Lc} {st : List Value} {σ : ax_Sg} {P : Option Value → ax_Sg → Prop} (h : ax_bk tb_X10_fare ct (fun pc L st σ => Ev l 80 pc L st σ P) (fun a L σ Q => Ev l a 0 L [] σ Q) P none n pc L st σ) : Ev l 80 pc L st σ P := ax_blk (m0 := mi_X10_fare) (t := tb_X10_fare) hm_X10_fare ck_X10_fare h
set_option maxRecDepth 20000 in
theorem b_X10_fare_0 {l : Launch} {σ : ax_Sg} {P : Option Value → ax_Sg → Prop} (x1 : Int32) (x2 : Int32) (x3 : Int32) (x4 : Int32) (h : Ev l 103 0 [some (.int x1)] [] σ (fun o1 σ2 => ax_oi o1 (fun v3 => ax_br (v3 = 0) (P (some (.int (-1))) σ2) (Ev l 103 0 [some (.int x2)] [] σ2 (fun o4 σ5 => ax_oi o4 (fun v6 => ax_br (v6 = 0) (P (some (.int (-1))) σ5) (Ev l 102 0 [some (.int x3), some (.int 0), some (.int 23)] [] σ5 (fun o7 σ8 => ax_oi o7 (fun v9 => ax_br (v9 = 0) (P (some (.int (-2))) σ8) (Ev l 102 0 [some (.int x4), some (.int 0), some (.int 9)] [] σ8 (fun o10 σ11 => ax_oi o10 (fun v12 => ax_br (v12 = 0) (P (some (.int (-2))) σ11) (Ev l 39 0 [some (.ref 4), some (.int x1), some (.int x2), some (.int x3), some (.int x4), none, none, none] [] σ11 (fun o13 σ14 => ax_oi o13 (fun v15 => P (some (.int v15)) σ14))))))))))))))) : Ev l 80 0 [some (.ref 0), some (.int x1), some (.int x2), some (.int x3), some (.int x4)] [] σ P := bl_X10_fare (ct := ct_X10_fare) (n := 25) h
def ct_X0_at : List (Nat × List Bool) := []
theorem hm_X0_at : ax_m 1 = mi_X0_at := rfl
theorem bl_X0_at {l : Launch} {ct : List (Nat × List Bool)} {n pc : Nat} {L : ax_Lc} {st : List Value} {σ : ax_Sg} {P : Option Value → ax_Sg → Prop} (h : ax_bk tb_X0_at ct (fun pc L st σ => Ev l 1 pc L st σ P) (fun a L σ Q => Ev l a 0 L [] σ Q) P none n pc L st σ) : Ev l 1 pc L st σ P := ax_blk (m0 := mi_X0_at) (t := tb_X0_at) hm_X0_at ck_X0_at h
set_option maxRecDepth 20000 in
theorem b_X0_at_0 {l : Launch} {σ : ax_Sg} {P : Option Value → ax_Sg → Prop} (x1 : Int32) (x2 : Int32) (h : (vp_in ((x1 * 5) + x2) 120 ∧ P (some (.int (σ 29 (Int32.toNatClampNeg ((x1 * 5) + x2))))) σ)) : Ev l 1 0 [some (.ref 5), some (.int x1), some (.int x2)] [] σ P := bl_X0_at (ct := ct_X0_at) (n := 10) h
def ct_X0_replace : List (Nat × List Bool) := []
theorem hm_X0_replace : ax_m 2 = mi_X0_replace := rfl
theorem bl_X0_replace {l : Launch} {ct : List (Nat × List Bool)} {n pc : Nat} {L : ax_Lc} {st : List Value} {σ : ax_Sg} {P : Option Value → ax_Sg → Prop} (h : ax_bk tb_X0_replace ct (fun pc L st σ => Ev l 2 pc L st σ P) (fun a L σ Q => Ev l a 0 L [] σ Q) P none n pc L st σ) : Ev l 2 pc L st σ P := ax_blk (m0 := mi_X0_replace) (t := tb_X0_replace) hm_X0_replace ck_X0_replace h
set_option maxRecDepth 20000 in
theorem b_X0_replace_0 {l : Launch} {σ : ax_Sg} {P : Option Value → ax_Sg → Prop} (x1 : Int32) (x2 : Int32) (x3 : Int32) (h : Ev l 1 0 [some (.ref 5), some (.int x1), some (.int x2)] [] σ (fun o1 σ2 => ax_oi o1 (fun v3 => (vp_in ((x1 * 5) + x2) 120 ∧ P (some (.int v3)) (ax_us σ2 29 (Int32.toNatClampNeg ((x1 * 5) + x2)) x3))))) : Ev l 2 0 [some (.ref 5), some (.int x1), some (.int x2), some (.int x3), none] [] σ P := bl_X0_replace (ct := ct_X0_replace) (n := 17) h
def ct_X10_ask : List (Nat × List Bool) := []
theorem hm_X10_ask : ax_m 81 = mi_X10_ask := rfl
theorem bl_X10_ask {l : Launch} {ct : List (Nat × List Bool)} {n pc : Nat} {L : ax_Lc} {st : List Value} {σ : ax_Sg} {P : Option Value → ax_Sg → Prop} (h : ax_bk tb_X10_ask ct (fun pc L st σ => Ev l 81 pc L st σ P) (fun a L σ Q => Ev l a 0 L [] σ Q) P none n pc L st σ) : Ev l 81 pc L st σ P := ax_blk (m0 := mi_X10_ask) (t := tb_X10_ask) hm_X10_ask ck_X10_ask h
set_option maxRecDepth 20000 in
theorem b_X10_ask_0 {l : Launch} {σ : ax_Sg} {P : Option Value → ax_Sg → Prop} (x1 : Int32) (x2 : Int32) (x3 : Int32) (h : Ev l 102 0 [some (.int x1), some (.int 0), some (.int 23)] [] σ (fun o1 σ2 => ax_oi o1 (fun v3 => ax_br (v3 = 0) (P (some (.int (-1))) σ2) (Ev l 103 0 [some (.int x2)] [] σ2 (fun o4 σ5 => ax_oi o4 (fun v6 => ax_br (v6 = 0) (P (some (.int (-1))) σ5) (Ev l 102 0 [some (.int x3), some (.int 0), some (.int 20)] [] σ5 (fun o7 σ8 => ax_oi o7 (fun v9 => ax_br (v9 = 0) (P (some (.int (-2))) σ8) (Ev l 2 0 [some (.ref 5), some (.int x1), some (.int x2), some (.int x3), none] [] σ8 (fun o10 σ11 => ax_oi o10 (fun v12 => P (some (.int v12)) σ11)))))))))))) : Ev l 81 0 [some (.ref 0), some (.int x1), some (.int x2), some (.int x3)] [] σ P := bl_X10_ask (ct := ct_X10_ask) (n := 21) h
def ct_X1_put : List (Nat × List Bool) := []
theorem hm_X1_put : ax_m 6 = mi_X1_put := rfl
theorem bl_X1_put {l : Launch} {ct : List (Nat × List Bool)} {n pc : Nat} {L : ax_Lc} {st : List Value} {σ : ax_Sg} {P : Option Value → ax_Sg → Prop} (h : ax_bk tb_X1_put ct (fun pc L st σ => Ev l 6 pc L st σ P) (fun a L σ Q => Ev l a 0 L [] σ Q) P none n pc L st σ) : Ev l 6 pc L st σ P := ax_blk (m0 := mi_X1_put) (t := tb_X1_put) hm_X1_put ck_X1_put h
set_option maxRecDepth 20000 in
theorem b_X1_put_r7_0 {l : Launch} {σ : ax_Sg} {P : Option Value → ax_Sg → Prop} (x1 : Int32) (x2 : Int32) (h : (vp_in x1 12 ∧ (vp_in x1 12 ∧ P (some (.int (σ 31 (Int32.toNatClampNeg x1)))) (ax_us σ 31 (Int32.toNatClampNeg x1) x2)))) : Ev l 6 0 [some (.ref 7), some (.int x1), some (.int x2), none] [] σ P := bl_X1_put (ct := ct_X1_put) (n := 13) h
def ct_X6_mayStand : List (Nat × List Bool) := []
theorem hm_X6_mayStand : ax_m 44 = mi_X6_mayStand := rfl
theorem bl_X6_mayStand {l : Launch} {ct : List (Nat × List Bool)} {n pc : Nat} {L : ax_Lc} {st : List Value} {σ : ax_Sg} {P : Option Value → ax_Sg → Prop} (h : ax_bk tb_X6_mayStand ct (fun pc L st σ => Ev l 44 pc L st σ P) (fun a L σ Q => Ev l a 0 L [] σ Q) P none n pc L st σ) : Ev l 44 pc L st σ P := ax_blk (m0 := mi_X6_mayStand) (t := tb_X6_mayStand) hm_X6_mayStand ck_X6_mayStand h
set_option maxRecDepth 20000 in
theorem b_X6_mayStand_0 {l : Launch} {σ : ax_Sg} {P : Option Value → ax_Sg → Prop} (x1 : Int32) (x2 : Int32) (h : (vp_in x1 12 ∧ ax_br (σ 14 (Int32.toNatClampNeg x1) = 3) (ax_br (x2 < 2) ((vp_nar .boolean 0 = 0 ∧ P (some (.int 0)) σ)) ((vp_nar .boolean 1 = 1 ∧ P (some (.int 1)) σ))) ((vp_nar .boolean 1 = 1 ∧ P (some (.int 1)) σ)))) : Ev l 44 0 [some (.ref 1), some (.int x1), some (.int x2)] [] σ P := bl_X6_mayStand (ct := ct_X6_mayStand) (n := 13) h
def ct_X10_stand : List (Nat × List Bool) := []
theorem hm_X10_stand : ax_m 82 = mi_X10_stand := rfl
theorem bl_X10_stand {l : Launch} {ct : List (Nat × List Bool)} {n pc : Nat} {L : ax_Lc} {st : List Value} {σ : ax_Sg} {P : Option Value → ax_Sg → Prop} (h : ax_bk tb_X10_stand ct (fun pc L st σ => Ev l 82 pc L st σ P) (fun a L σ Q => Ev l a 0 L [] σ Q) P none n pc L st σ) : Ev l 82 pc L st σ P := ax_blk (m0 := mi_X10_stand) (t := tb_X10_stand) hm_X10_stand ck_X10_stand h
set_option maxRecDepth 20000 in
theorem b_X10_stand_0 {l : Launch} {σ : ax_Sg} {P : Option Value → ax_Sg → Prop} (x1 : Int32) (x2 : Int32) (h : Ev l 41 0 [some (.ref 1), some (.int x1)] [] σ (fun o1 σ2 => ax_oi o1 (fun v3 => ax_br (v3 = 0) (P (some (.int (-5))) σ2) (ax_br (x2 = (-1)) (ax_br (x2 = (-1)) (Ev l 6 0 [some (.ref 7), some (.int x1), some (.int x2), none] [] σ2 (fun o4 σ5 => ax_oi o4 (fun v6 => P (some (.int v6)) σ5))) (Ev l 44 0 [some (.ref 1), some (.int x1), some (.int x2)] [] σ2 (fun o7 σ8 => ax_oi o7 (fun v9 => ax_br (v9 = 0) (P (some (.int (-3))) σ8) (Ev l 6 0 [some (.ref 7), some (.int x1), some (.int x2), none] [] σ8 (fun o10 σ11 => ax_oi o10 (fun v12 => P (some (.int v12)) σ11))))))) (Ev l 103 0 [some (.int x2)] [] σ2 (fun o13 σ14 => ax_oi o13 (fun v15 => ax_br (v15 = 0) (P (some (.int (-5))) σ14) (ax_br (x2 = (-1)) (Ev l 6 0 [some (.ref 7), some (.int x1), some (.int x2), none] [] σ14 (fun o16 σ17 => ax_oi o16 (fun v18 => P (some (.int v18)) σ17))) (Ev l 44 0 [some (.ref 1), some (.int x1), some (.int x2)] [] σ14 (fun o19 σ20 => ax_oi o19 (fun v21 => ax_br (v21 = 0) (P (some (.int (-3))) σ20) (Ev l 6 0 [some (.ref 7), some (.int x1), some (.int x2), none] [] σ20 (fun o22 σ23 => ax_oi o22 (fun v24 => P (some (.int v24)) σ23)))))))))))))) : Ev l 82 0 [some (.ref 0), some (.int x1), some (.int x2)] [] σ P := bl_X10_stand (ct := ct_X10_stand) (n := 27) h
def ct_X1_waitingIn : List (Nat × List Bool) := [(4, [true, true, true, true])]
theorem hm_X1_waitingIn : ax_m 11 = mi_X1_waitingIn := rfl
theorem bl_X1_waitingIn {l : Launch} {ct : List (Nat × List Bool)} {n pc : Nat} {L : ax_Lc} {st : List Value} {σ : ax_Sg} {P : Option Value → ax_Sg → Prop} (h : ax_bk tb_X1_waitingIn ct (fun pc L st σ => Ev l 11 pc L st σ P) (fun a L σ Q => Ev l a 0 L [] σ Q) P none n pc L st σ) : Ev l 11 pc L st σ P := ax_blk (m0 := mi_X1_waitingIn) (t := tb_X1_waitingIn) hm_X1_waitingIn ck_X1_waitingIn h
set_option maxRecDepth 20000 in
theorem b_X1_waitingIn_r7_0 {l : Launch} {σ : ax_Sg} {P : Option Value → ax_Sg → Prop} (x1 : Int32) (h : Ev l 11 4 [some (.ref 7), some (.int x1), some (.int 0), some (.int 0)] [] σ P) : Ev l 11 0 [some (.ref 7), some (.int x1), none, none] [] σ P := bl_X1_waitingIn (ct := ct_X1_waitingIn) (n := 6) h
set_option maxRecDepth 20000 in
theorem b_X1_waitingIn_r7_4 {l : Launch} {σ : ax_Sg} {P : Option Value → ax_Sg → Prop} (x1 : Int32) (x2 : Int32) (x3 : Int32) (h : ax_br (x3 < 3) ((vp_in ((x1 * 3) + x3) 15 ∧ Ev l 11 4 [some (.ref 7), some (.int x1), some (.int (x2 + (σ 36 (Int32.toNatClampNeg ((x1 * 3) + x3))))), some (.int (x3 + 1))] [] σ P)) (P (some (.int x2)) σ)) : Ev l 11 4 [some (.ref 7), some (.int x1), some (.int x2), some (.int x3)] [] σ P := bl_X1_waitingIn (ct := ct_X1_waitingIn) (n := 18) h
def ct_X1_roam : List (Nat × List Bool) := [(16, [true, true, true, true, true])]
theorem hm_X1_roam : ax_m 12 = mi_X1_roam := rfl
theorem bl_X1_roam {l : Launch} {ct : List (Nat × List Bool)} {n pc : Nat} {L : ax_Lc} {st : List Value} {σ : ax_Sg} {P : Option Value → ax_Sg → Prop} (h : ax_bk tb_X1_roam ct (fun pc L st σ => Ev l 12 pc L st σ P) (fun a L σ Q => Ev l a 0 L [] σ Q) P none n pc L st σ) : Ev l 12 pc L st σ P := ax_blk (m0 := mi_X1_roam) (t := tb_X1_roam) hm_X1_roam ck_X1_roam h
set_option maxRecDepth 20000 in
theorem b_X1_roam_r7_0 {l : Launch} {σ : ax_Sg} {P : Option Value → ax_Sg → Prop} (x1 : Int32) (h : (vp_in x1 12 ∧ Ev l 11 0 [some (.ref 7), some (.int (σ 31 (Int32.toNatClampNeg x1))), none, none] [] σ (fun o1 σ2 => ax_oi o1 (fun v3 => Ev l 12 16 [some (.ref 7), some (.int x1), some (.int (σ 31 (Int32.toNatClampNeg x1))), some (.int v3), some (.int 0)] [] σ2 P)))) : Ev l 12 0 [some (.ref 7), some (.int x1), none, none, none] [] σ P := bl_X1_roam (ct := ct_X1_roam) (n := 13) h
set_option maxRecDepth 20000 in
theorem b_X1_roam_r7_16 {l : Launch} {σ : ax_Sg} {P : Option Value → ax_Sg → Prop} (x1 : Int32) (x2 : Int32) (x3 : Int32) (x4 : Int32) (h : ax_br (x4 < 5) (Ev l 44 0 [some (.ref 1), some (.int x1), some (.int x4)] [] σ (fun o1 σ2 => ax_oi o1 (fun v3 => ax_br (v3 = 0) (Ev l 12 16 [some (.ref 7), some (.int x1), some (.int x2), some (.int x3), some (.int (x4 + 1))] [] σ2 P) (Ev l 11 0 [some (.ref 7), some (.int x4), none, none] [] σ2 (fun o4 σ5 => ax_oi o4 (fun v6 => ax_br (x3 < v6) (Ev l 11 0 [some (.ref 7), some (.int x4), none, none] [] σ5 (fun o7 σ8 => ax_oi o7 (fun v9 => Ev l 12 16 [some (.ref 7), some (.int x1), some (.int x4), some (.int v9), some (.int (x4 + 1))] [] σ8 P))) (Ev l 12 16 [some (.ref 7), some (.int x1), some (.int x2), some (.int x3), some (.int (x4 + 1))] [] σ5 P))))))) ((vp_in x1 12 ∧ P none (ax_us σ 31 (Int32.toNatClampNeg x1) x2)))) : Ev l 12 16 [some (.ref 7), some (.int x1), some (.int x2), some (.int x3), some (.int x4)] [] σ P := bl_X1_roam (ct := ct_X1_roam) (n := 24) h
def ct_X1_longestWait : List (Nat × List Bool) := [(2, [true, true, true])]
theorem hm_X1_longestWait : ax_m 10 = mi_X1_longestWait := rfl
theorem bl_X1_longestWait {l : Launch} {ct : List (Nat × List Bool)} {n pc : Nat} {L : ax_Lc} {st : List Value} {σ : ax_Sg} {P : Option Value → ax_Sg → Prop} (h : ax_bk tb_X1_longestWait ct (fun pc L st σ => Ev l 10 pc L st σ P) (fun a L σ Q => Ev l a 0 L [] σ Q) P none n pc L st σ) : Ev l 10 pc L st σ P := ax_blk (m0 := mi_X1_longestWait) (t := tb_X1_longestWait) hm_X1_longestWait ck_X1_longestWait h
set_option maxRecDepth 20000 in
theorem b_X1_longestWait_r7_0 {l : Launch} {σ : ax_Sg} {P : Option Value → ax_Sg → Prop} (x1 : Int32) (h : Ev l 10 2 [some (.ref 7), some (.int x1), some (.int 2)] [] σ P) : Ev l 10 0 [some (.ref 7), some (.int x1), none] [] σ P := bl_X1_longestWait (ct := ct_X1_longestWait) (n := 4) h
set_option maxRecDepth 20000 in
theorem b_X1_longestWait_r7_2 {l : Launch} {σ : ax_Sg} {P : Option Value → ax_Sg → Prop} (x1 : Int32) (x2 : Int32) (h : ax_br (x2 < 0) (P (some (.int (-1))) σ) ((vp_in ((x1 * 3) + x2) 15 ∧ ax_br (0 < σ 36 (Int32.toNatClampNeg ((x1 * 3) + x2))) (P (some (.int x2)) σ) (Ev l 10 2 [some (.ref 7), some (.int x1), some (.int (x2 + (-1)))] [] σ P)))) : Ev l 10 2 [some (.ref 7), some (.int x1), some (.int x2)] [] σ P := bl_X1_longestWait (ct := ct_X1_longestWait) (n := 15) h
def ct_X6_restingWard : List (Nat × List Bool) := []
theorem hm_X6_restingWard : ax_m 45 = mi_X6_restingWard := rfl
theorem bl_X6_restingWard {l : Launch} {ct : List (Nat × List Bool)} {n pc : Nat} {L : ax_Lc} {st : List Value} {σ : ax_Sg} {P : Option Value → ax_Sg → Prop} (h : ax_bk tb_X6_restingWard ct (fun pc L st σ => Ev l 45 pc L st σ P) (fun a L σ Q => Ev l a 0 L [] σ Q) P none n pc L st σ) : Ev l 45 pc L st σ P := ax_blk (m0 := mi_X6_restingWard) (t := tb_X6_restingWard) hm_X6_restingWard ck_X6_restingWard h
set_option maxRecDepth 20000 in
theorem b_X6_restingWard_0 {l : Launch} {σ : ax_Sg} {P : Option Value → ax_Sg → Prop} (x1 : Int32) (x2 : Int32) (h : Ev l 44 0 [some (.ref 1), some (.int x1), some (.int x2)] [] σ (fun o1 σ2 => ax_oi o1 (fun v3 => ax_br (v3 = 0) (P (some (.int 2)) σ2) (P (some (.int x2)) σ2)))) : Ev l 45 0 [some (.ref 1), some (.int x1), some (.int x2)] [] σ P := bl_X6_restingWard (ct := ct_X6_restingWard) (n := 9) h
def ct_X7_keep : List (Nat × List Bool) := []
theorem hm_X7_keep : ax_m 50 = mi_X7_keep := rfl
theorem bl_X7_keep {l : Launch} {ct : List (Nat × List Bool)} {n pc : Nat} {L : ax_Lc} {st : List Value} {σ : ax_Sg} {P : Option Value → ax_Sg → Prop} (h : ax_bk tb_X7_keep ct (fun pc L st σ => Ev l 50 pc L st σ P) (fun a L σ Q => Ev l a 0 L [] σ Q) P none n pc L st σ) : Ev l 50 pc L st σ P := ax_blk (m0 := mi_X7_keep) (t := tb_X7_keep) hm_X7_keep ck_X7_keep h
set_option maxRecDepth 20000 in
theorem b_X7_keep_0 {l : Launch} {σ : ax_Sg} {P : Option Value → ax_Sg → Prop} (x1 : Int32) (x2 : Int32) (x3 : Int32) (x4 : Int32) (x5 : Int32) (h : ax_br (σ 6 1 = 300) (P none σ) ((vp_in (((σ 6 1) * 5) + 0) 1500 ∧ (vp_in (((σ 6 1) * 5) + 1) 1500 ∧ (vp_in (((σ 6 1) * 5) + 2) 1500 ∧ (vp_in (((σ 6 1) * 5) + 3) 1500 ∧ (vp_in (((σ 6 1) * 5) + 4) 1500 ∧ P none (ax_us (ax_us (ax_us (ax_us (ax_us (ax_us σ 30 (Int32.toNatClampNeg (((σ 6 1) * 5) + 0)) x1) 30 (Int32.toNatClampNeg (((σ 6 1) * 5) + 1)) x2) 30 (Int32.toNatClampNeg (((σ 6 1) * 5) + 2)) x3) 30 (Int32.toNatClampNeg (((σ 6 1) * 5) + 3)) x4) 30 (Int32.toNatClampNeg (((σ 6 1) * 5) + 4)) x5) 6 1 ((σ 6 1) + 1))))))))) : Ev l 50 0 [some (.ref 6), some (.int x1), some (.int x2), some (.int x3), some (.int x4), some (.int x5), none] [] σ P := bl_X7_keep (ct := ct_X7_keep) (n := 52) h
def ct_X1_serve : List (Nat × List Bool) := []
theorem hm_X1_serve : ax_m 9 = mi_X1_serve := rfl
theorem bl_X1_serve {l : Launch} {ct : List (Nat × List Bool)} {n pc : Nat} {L : ax_Lc} {st : List Value} {σ : ax_Sg} {P : Option Value → ax_Sg → Prop} (h : ax_bk tb_X1_serve ct (fun pc L st σ => Ev l 9 pc L st σ P) (fun a L σ Q => Ev l a 0 L [] σ Q) P none n pc L st σ) : Ev l 9 pc L st σ P := ax_blk (m0 := mi_X1_serve) (t := tb_X1_serve) hm_X1_serve ck_X1_serve h
set_option maxRecDepth 20000 in
theorem b_X1_serve_r7_0 {l : Launch} {σ : ax_Sg} {P : Option Value → ax_Sg → Prop} (x1 : Int32) (x2 : Int32) (x3 : Int32) (h : (vp_in x1 12 ∧ (vp_in x1 12 ∧ (vp_in x2 16 ∧ (vp_in x2 16 ∧ (vp_in x1 12 ∧ Ev l 10 0 [some (.ref 7), some (.int (σ 31 (Int32.toNatClampNeg x1))), none] [] (ax_us (ax_us σ 32 (Int32.toNatClampNeg x1) ((σ 32 (Int32.toNatClampNeg x1)) + 1)) 34 (Int32.toNatClampNeg x2) ((σ 34 (Int32.toNatClampNeg x2)) + 1)) (fun o1 σ2 => ax_oi o1 (fun v3 => ax_br (v3 = (-1)) ((vp_nar .boolean 0 = 0 ∧ P (some (.int 0)) σ2)) ((vp_in (((σ 31 (Int32.toNatClampNeg x1)) * 3) + v3) 15 ∧ (vp_in (((σ 31 (Int32.toNatClampNeg x1)) * 3) + v3) 15 ∧ (vp_in (σ 31 (Int32.toNatClampNeg x1)) 5 ∧ (¬ (5 : Int32) = 0 ∧ (vp_in (σ 31 (Int32.toNatClampNeg x1)) 5 ∧ (¬ (5 : Int32) = 0 ∧ (vp_in (σ 31 (Int32.toNatClampNeg x1)) 5 ∧ Ev l 39 0 [some (.ref 4), some (.int (σ 31 (Int32.toNatClampNeg x1))), some (.int ((((σ 31 (Int32.toNatClampNeg x1)) + 1) + (σ2 37 (Int32.toNatClampNeg (σ 31 (Int32.toNatClampNeg x1))))) - (((σ 31 (Int32.toNatClampNeg x1)) + 1) + (σ2 37 (Int32.toNatClampNeg (σ 31 (Int32.toNatClampNeg x1))))) / 5 * 5)), some (.int x3), some (.int v3), none, none, none] [] (ax_us (ax_us σ2 36 (Int32.toNatClampNeg (((σ 31 (Int32.toNatClampNeg x1)) * 3) + v3)) ((σ2 36 (Int32.toNatClampNeg (((σ 31 (Int32.toNatClampNeg x1)) * 3) + v3))) - 1)) 37 (Int32.toNatClampNeg (σ 31 (Int32.toNatClampNeg x1))) (((σ2 37 (Int32.toNatClampNeg (σ 31 (Int32.toNatClampNeg x1)))) + 1) - ((σ2 37 (Int32.toNatClampNeg (σ 31 (Int32.toNatClampNeg x1)))) + 1) / 5 * 5)) (fun o4 σ5 => ax_oi o4 (fun v6 => (vp_in x1 12 ∧ (vp_in x1 12 ∧ (vp_in x2 16 ∧ (vp_in x2 16 ∧ Ev l 50 0 [some (.ref 6), some (.int (σ5 7 13)), some (.int x1), some (.int (σ 31 (Int32.toNatClampNeg x1))), some (.int ((((σ 31 (Int32.toNatClampNeg x1)) + 1) + (σ2 37 (Int32.toNatClampNeg (σ 31 (Int32.toNatClampNeg x1))))) - (((σ 31 (Int32.toNatClampNeg x1)) + 1) + (σ2 37 (Int32.toNatClampNeg (σ 31 (Int32.toNatClampNeg x1))))) / 5 * 5)), some (.int v6), none] [] (ax_us (ax_us (ax_us (ax_us σ5 33 (Int32.toNatClampNeg x1) ((σ5 33 (Int32.toNatClampNeg x1)) + v6)) 35 (Int32.toNatClampNeg x2) ((σ5 35 (Int32.toNatClampNeg x2)) + v6)) 7 17 ((σ5 7 17) + v6)) 7 14 ((σ5 7 14) + 1)) (fun o7 σ8 => ax_ov o7 (Ev l 45 0 [some (.ref 1), some (.int x1), some (.int ((((σ 31 (Int32.toNatClampNeg x1)) + 1) + (σ2 37 (Int32.toNatClampNeg (σ 31 (Int32.toNatClampNeg x1))))) - (((σ 31 (Int32.toNatClampNeg x1)) + 1) + (σ2 37 (Int32.toNatClampNeg (σ 31 (Int32.toNatClampNeg x1))))) / 5 * 5))] [] σ8 (fun o9 σ10 => ax_oi o9 (fun v11 => (vp_in x1 12 ∧ (vp_nar .boolean 1 = 1 ∧ P (some (.int 1)) (ax_us σ10 31 (Int32.toNatClampNeg x1) v11))))))))))))))))))))))))))))) : Ev l 9 0 [some (.ref 7), some (.int x1), some (.int x2), some (.int x3), none, none, none, none] [] σ P := bl_X1_serve (ct := ct_X1_serve) (n := 123) h
def ct_X1_tire : List (Nat × List Bool) := [(19, [true, true, true])]
theorem hm_X1_tire : ax_m 13 = mi_X1_tire := rfl
theorem bl_X1_tire {l : Launch} {ct : List (Nat × List Bool)} {n pc : Nat} {L : ax_Lc} {st : List Value} {σ : ax_Sg} {P : Option Value → ax_Sg → Prop} (h : ax_bk tb_X1_tire ct (fun pc L st σ => Ev l 13 pc L st σ P) (fun a L σ Q => Ev l a 0 L [] σ Q) P none n pc L st σ) : Ev l 13 pc L st σ P := ax_blk (m0 := mi_X1_tire) (t := tb_X1_tire) hm_X1_tire ck_X1_tire h
set_option maxRecDepth 20000 in
theorem b_X1_tire_r7_0 {l : Launch} {σ : ax_Sg} {P : Option Value → ax_Sg → Prop} (x1 : Int32) (h : (vp_in (x1 + 2) 15 ∧ Ev l 13 19 [some (.ref 7), some (.int x1), some (.int 2)] [] (ax_us σ 7 15 ((σ 7 15) + (σ 36 (Int32.toNatClampNeg (x1 + 2))))) P)) : Ev l 13 0 [some (.ref 7), some (.int x1), none] [] σ P := bl_X1_tire (ct := ct_X1_tire) (n := 15) h
set_option maxRecDepth 20000 in
theorem b_X1_tire_r7_19 {l : Launch} {σ : ax_Sg} {P : Option Value → ax_Sg → Prop} (x1 : Int32) (x2 : Int32) (h : ax_br (0 < x2) ((vp_in ((x1 + x2) - 1) 15 ∧ (vp_in (x1 + x2) 15 ∧ Ev l 13 19 [some (.ref 7), some (.int x1), some (.int (x2 + (-1)))] [] (ax_us σ 36 (Int32.toNatClampNeg (x1 + x2)) (σ 36 (Int32.toNatClampNeg ((x1 + x2) - 1)))) P))) ((vp_in x1 15 ∧ P none (ax_us σ 36 (Int32.toNatClampNeg x1) 0)))) : Ev l 13 19 [some (.ref 7), some (.int x1), some (.int x2)] [] σ P := bl_X1_tire (ct := ct_X1_tire) (n := 20) h
def ct_X1_passHour : List (Nat × List Bool) := [(2, [true, true, true, false, false, false]), (51, [true, true, true, true, false, false]), (135, [true, false, false, true, false, false]), (178, [true, false, false, true, false, false])]
theorem hm_X1_passHour : ax_m 8 = mi_X1_passHour := rfl
theorem bl_X1_passHour {l : Launch} {ct : List (Nat × List Bool)} {n pc : Nat} {L : ax_Lc} {st : List Value} {σ : ax_Sg} {P : Option Value → ax_Sg → Prop} (h : ax_bk tb_X1_passHour ct (fun pc L st σ => Ev l 8 pc L st σ P) (fun a L σ Q => Ev l a 0 L [] σ Q) P none n pc L st σ) : Ev l 8 pc L st σ P := ax_blk (m0 := mi_X1_passHour) (t := tb_X1_passHour) hm_X1_passHour ck_X1_passHour h
set_option maxRecDepth 20000 in
theorem b_X1_passHour_r7_0 {l : Launch} {σ : ax_Sg} {P : Option Value → ax_Sg → Prop} (x1 : Int32) (h : Ev l 8 2 [some (.ref 7), some (.int x1), some (.int 0), none, none, none] [] σ P) : Ev l 8 0 [some (.ref 7), some (.int x1), none, none, none, none] [] σ P := bl_X1_passHour (ct := ct_X1_passHour) (n := 4) h
set_option maxRecDepth 20000 in
theorem b_X1_passHour_r7_2 {l : Launch} {σ : ax_Sg} {P : Option Value → ax_Sg → Prop} (x1 : Int32) (x2 : Int32) (h : ax_br (x2 < 5) ((vp_in (x2 * 3) 15 ∧ Ev l 1 0 [some (.ref 5), some (.int x1), some (.int x2)] [] σ (fun o1 σ2 => ax_oi o1 (fun v3 => (vp_in (x2 * 3) 15 ∧ Ev l 8 2 [some (.ref 7), some (.int x1), some (.int (x2 + 1)), none, none, none] [] (ax_us σ2 36 (Int32.toNatClampNeg (x2 * 3)) ((σ 36 (Int32.toNatClampNeg (x2 * 3))) + v3)) P))))) (Ev l 102 0 [some (.int x1), some (.int 4), some (.int 15)] [] σ (fun o4 σ5 => ax_oi o4 (fun v6 => ax_br (v6 = 0) (Ev l 8 51 [some (.ref 7), some (.int x1), some (.int 1), some (.int 0), none, none] [] σ5 P) (Ev l 8 51 [some (.ref 7), some (.int x1), some (.int 0), some (.int 0), none, none] [] σ5 P))))) : Ev l 8 2 [some (.ref 7), some (.int x1), some (.int x2), none, none, none] [] σ P := bl_X1_passHour (ct := ct_X1_passHour) (n := 21) h
set_option maxRecDepth 20000 in
theorem b_X1_passHour_r7_51 {l : Launch} {σ : ax_Sg} {P : Option Value → ax_Sg → Prop} (x1 : Int32) (x2 : Int32) (x3 : Int32) (h : ax_br (x3 < σ 1 4) ((vp_in ((x3 * 2) + x2) 24 ∧ (vp_in x3 12 ∧ ax_br (σ 31 (Int32.toNatClampNeg x3) = (-1)) (ax_br ((0 : Int32) = 0) ((vp_in x3 12 ∧ Ev l 8 51 [some (.ref 7), some (.int x1), some (.int x2), some (.int (x3 + 1)), none, none] [] (ax_us σ 38 (Int32.toNatClampNeg x3) (vp_nar .boolean 0)) P)) (Ev l 9 0 [some (.ref 7), some (.int x3), some (.int (σ 19 (Int32.toNatClampNeg ((x3 * 2) + x2)))), some (.int x1), none, none, none, none] [] σ (fun o1 σ2 => ax_oi o1 (fun v3 => ax_br (v3 = 0) ((vp_in x3 12 ∧ Ev l 8 51 [some (.ref 7), some (.int x1), some (.int x2), some (.int (x3 + 1)), none, none] [] (ax_us σ2 38 (Int32.toNatClampNeg x3) (vp_nar .boolean 1)) P)) ((vp_in x3 12 ∧ Ev l 8 51 [some (.ref 7), some (.int x1), some (.int x2), some (.int (x3 + 1)), none, none] [] (ax_us σ2 38 (Int32.toNatClampNeg x3) (vp_nar .boolean 0)) P)))))) (ax_br (σ 19 (Int32.toNatClampNeg ((x3 * 2) + x2)) = (-1)) (ax_br ((0 : Int32) = 0) ((vp_in x3 12 ∧ Ev l 8 51 [some (.ref 7), some (.int x1), some (.int x2), some (.int (x3 + 1)), none, none] [] (ax_us σ 38 (Int32.toNatClampNeg x3) (vp_nar .boolean 0)) P)) (Ev l 9 0 [some (.ref 7), some (.int x3), some (.int (σ 19 (Int32.toNatClampNeg ((x3 * 2) + x2)))), some (.int x1), none, none, none, none] [] σ (fun o4 σ5 => ax_oi o4 (fun v6 => ax_br (v6 = 0) ((vp_in x3 12 ∧ Ev l 8 51 [some (.ref 7), some (.int x1), some (.int x2), some (.int (x3 + 1)), none, none] [] (ax_us σ5 38 (Int32.toNatClampNeg x3) (vp_nar .boolean 1)) P)) ((vp_in x3 12 ∧ Ev l 8 51 [some (.ref 7), some (.int x1), some (.int x2), some (.int (x3 + 1)), none, none] [] (ax_us σ5 38 (Int32.toNatClampNeg x3) (vp_nar .boolean 0)) P)))))) (ax_br ((1 : Int32) = 0) ((vp_in x3 12 ∧ Ev l 8 51 [some (.ref 7), some (.int x1), some (.int x2), some (.int (x3 + 1)), none, none] [] (ax_us σ 38 (Int32.toNatClampNeg x3) (vp_nar .boolean 0)) P)) (Ev l 9 0 [some (.ref 7), some (.int x3), some (.int (σ 19 (Int32.toNatClampNeg ((x3 * 2) + x2)))), some (.int x1), none, none, none, none] [] σ (fun o7 σ8 => ax_oi o7 (fun v9 => ax_br (v9 = 0) ((vp_in x3 12 ∧ Ev l 8 51 [some (.ref 7), some (.int x1), some (.int x2), some (.int (x3 + 1)), none, none] [] (ax_us σ8 38 (Int32.toNatClampNeg x3) (vp_nar .boolean 1)) P)) ((vp_in x3 12 ∧ Ev l 8 51 [some (.ref 7), some (.int x1), some (.int x2), some (.int (x3 + 1)), none, none] [] (ax_us σ8 38 (Int32.toNatClampNeg x3) (vp_nar .boolean 0)) P)))))))))) (Ev l 8 135 [some (.ref 7), none, none, some (.int 0), none, none] [] σ P)) : Ev l 8 51 [some (.ref 7), some (.int x1), some (.int x2), some (.int x3), none, none] [] σ P := bl_X1_passHour (ct := ct_X1_passHour) (n := 45) h
set_option maxRecDepth 20000 in
theorem b_X1_passHour_r7_135 {l : Launch} {σ : ax_Sg} {P : Option Value → ax_Sg → Prop} (x3 : Int32) (h : ax_br (x3 < σ 1 4) ((vp_in x3 12 ∧ ax_br (σ 38 (Int32.toNatClampNeg x3) = 0) (Ev l 8 135 [some (.ref 7), none, none, some (.int (x3 + 1)), none, none] [] σ P) (Ev l 12 0 [some (.ref 7), some (.int x3), none, none, none] [] (ax_us σ 7 16 ((σ 7 16) + 1)) (fun o1 σ2 => ax_ov o1 (Ev l 8 135 [some (.ref 7), none, none, some (.int (x3 + 1)), none, none] [] σ2 P))))) (Ev l 8 178 [some (.ref 7), none, none, some (.int 0), none, none] [] σ P)) : Ev l 8 135 [some (.ref 7), none, none, some (.int x3), none, none] [] σ P := bl_X1_passHour (ct := ct_X1_passHour) (n := 23) h
set_option maxRecDepth 20000 in
theorem b_X1_passHour_r7_178 {l : Launch} {σ : ax_Sg} {P : Option Value → ax_Sg → Prop} (x3 : Int32) (h : ax_br (x3 < 5) (Ev l 13 0 [some (.ref 7), some (.int (x3 * 3)), none] [] σ (fun o1 σ2 => ax_ov o1 (Ev l 8 178 [some (.ref 7), none, none, some (.int (x3 + 1)), none, none] [] σ2 P))) (P none σ)) : Ev l 8 178 [some (.ref 7), none, none, some (.int x3), none, none] [] σ P := bl_X1_passHour (ct := ct_X1_passHour) (n := 12) h
def ct_X1_passHours : List (Nat × List Bool) := [(2, [true, true, true])]
theorem hm_X1_passHours : ax_m 7 = mi_X1_passHours := rfl
theorem bl_X1_passHours {l : Launch} {ct : List (Nat × List Bool)} {n pc : Nat} {L : ax_Lc} {st : List Value} {σ : ax_Sg} {P : Option Value → ax_Sg → Prop} (h : ax_bk tb_X1_passHours ct (fun pc L st σ => Ev l 7 pc L st σ P) (fun a L σ Q => Ev l a 0 L [] σ Q) P none n pc L st σ) : Ev l 7 pc L st σ P := ax_blk (m0 := mi_X1_passHours) (t := tb_X1_passHours) hm_X1_passHours ck_X1_passHours h
set_option maxRecDepth 20000 in
theorem b_X1_passHours_r7_0 {l : Launch} {σ : ax_Sg} {P : Option Value → ax_Sg → Prop} (x1 : Int32) (h : Ev l 7 2 [some (.ref 7), some (.int x1), some (.int 0)] [] σ P) : Ev l 7 0 [some (.ref 7), some (.int x1), none] [] σ P := bl_X1_passHours (ct := ct_X1_passHours) (n := 4) h
set_option maxRecDepth 20000 in
theorem b_X1_passHours_r7_2 {l : Launch} {σ : ax_Sg} {P : Option Value → ax_Sg → Prop} (x1 : Int32) (x2 : Int32) (h : ax_br (x2 < x1) ((¬ (24 : Int32) = 0 ∧ Ev l 8 0 [some (.ref 7), some (.int ((σ 7 13) - (σ 7 13) / 24 * 24)), none, none, none, none] [] σ (fun o1 σ2 => ax_ov o1 (Ev l 7 2 [some (.ref 7), some (.int x1), some (.int (x2 + 1))] [] (ax_us σ2 7 13 ((σ2 7 13) + 1)) P)))) (P none σ)) : Ev l 7 2 [some (.ref 7), some (.int x1), some (.int x2)] [] σ P := bl_X1_passHours (ct := ct_X1_passHours) (n := 19) h
def ct_X10_step : List (Nat × List Bool) := []
theorem hm_X10_step : ax_m 83 = mi_X10_step := rfl
theorem bl_X10_step {l : Launch} {ct : List (Nat × List Bool)} {n pc : Nat} {L : ax_Lc} {st : List Value} {σ : ax_Sg} {P : Option Value → ax_Sg → Prop} (h : ax_bk tb_X10_step ct (fun pc L st σ => Ev l 83 pc L st σ P) (fun a L σ Q => Ev l a 0 L [] σ Q) P none n pc L st σ) : Ev l 83 pc L st σ P := ax_blk (m0 := mi_X10_step) (t := tb_X10_step) hm_X10_step ck_X10_step h
set_option maxRecDepth 20000 in
theorem b_X10_step_0 {l : Launch} {σ : ax_Sg} {P : Option Value → ax_Sg → Prop} (x1 : Int32) (h : Ev l 102 0 [some (.int x1), some (.int 1), some (.int 24)] [] σ (fun o1 σ2 => ax_oi o1 (fun v3 => ax_br (v3 = 0) (P (some (.int (-2))) σ2) (ax_br (400 < (σ2 7 13) + x1) (P (some (.int (-4))) σ2) (Ev l 7 0 [some (.ref 7), some (.int x1), none] [] σ2 (fun o4 σ5 => ax_ov o4 (P (some (.int ((σ5 7 14) - (σ2 7 14)))) σ5))))))) : Ev l 83 0 [some (.ref 0), some (.int x1), none] [] σ P := bl_X10_step (ct := ct_X10_step) (n := 27) h
def ct_X1_clearSums : List (Nat × List Bool) := []
theorem hm_X1_clearSums : ax_m 5 = mi_X1_clearSums := rfl
theorem bl_X1_clearSums {l : Launch} {ct : List (Nat × List Bool)} {n pc : Nat} {L : ax_Lc} {st : List Value} {σ : ax_Sg} {P : Option Value → ax_Sg → Prop} (h : ax_bk tb_X1_clearSums ct (fun pc L st σ => Ev l 5 pc L st σ P) (fun a L σ Q => Ev l a 0 L [] σ Q) P none n pc L st σ) : Ev l 5 pc L st σ P := ax_blk (m0 := mi_X1_clearSums) (t := tb_X1_clearSums) hm_X1_clearSums ck_X1_clearSums h
set_option maxRecDepth 20000 in
theorem b_X1_clearSums_0 {l : Launch} {σ : ax_Sg} {P : Option Value → ax_Sg → Prop}  (h : P none (ax_us (ax_us (ax_us (ax_us σ 8 14 0) 8 15 0) 8 16 0) 8 17 0)) : Ev l 5 0 [some (.ref 8)] [] σ P := bl_X1_clearSums (ct := ct_X1_clearSums) (n := 14) h
def ct_X1_copy : List (Nat × List Bool) := []
theorem hm_X1_copy : ax_m 4 = mi_X1_copy := rfl
theorem bl_X1_copy {l : Launch} {ct : List (Nat × List Bool)} {n pc : Nat} {L : ax_Lc} {st : List Value} {σ : ax_Sg} {P : Option Value → ax_Sg → Prop} (h : ax_bk tb_X1_copy ct (fun pc L st σ => Ev l 4 pc L st σ P) (fun a L σ Q => Ev l a 0 L [] σ Q) P none n pc L st σ) : Ev l 4 pc L st σ P := ax_blk (m0 := mi_X1_copy) (t := tb_X1_copy) hm_X1_copy ck_X1_copy h
set_option maxRecDepth 20000 in
theorem b_X1_copy_0 {l : Launch} {σ : ax_Sg} {P : Option Value → ax_Sg → Prop}  (h : ((¬ (0 : Int32) < 0 ∧ ¬ (0 : Int32) < 0 ∧ ¬ (12 : Int32) < 0 ∧ Int32.toNatClampNeg 0 + Int32.toNatClampNeg 12 ≤ 12 ∧ Int32.toNatClampNeg 0 + Int32.toNatClampNeg 12 ≤ 12) ∧ ((¬ (0 : Int32) < 0 ∧ ¬ (0 : Int32) < 0 ∧ ¬ (15 : Int32) < 0 ∧ Int32.toNatClampNeg 0 + Int32.toNatClampNeg 15 ≤ 15 ∧ Int32.toNatClampNeg 0 + Int32.toNatClampNeg 15 ≤ 15) ∧ ((¬ (0 : Int32) < 0 ∧ ¬ (0 : Int32) < 0 ∧ ¬ (5 : Int32) < 0 ∧ Int32.toNatClampNeg 0 + Int32.toNatClampNeg 5 ≤ 5 ∧ Int32.toNatClampNeg 0 + Int32.toNatClampNeg 5 ≤ 5) ∧ P none (ax_us (ax_uc (ax_uc (ax_uc σ 39 (va_cpy (σ 31) (σ 39) (Int32.toNatClampNeg 0) (Int32.toNatClampNeg 0) (Int32.toNatClampNeg 12))) 44 (va_cpy (σ 36) (σ 44) (Int32.toNatClampNeg 0) (Int32.toNatClampNeg 0) (Int32.toNatClampNeg 15))) 45 (va_cpy (σ 37) (σ 45) (Int32.toNatClampNeg 0) (Int32.toNatClampNeg 0) (Int32.toNatClampNeg 5))) 8 13 (σ 7 13)))))) : Ev l 4 0 [some (.ref 8), some (.ref 7)] [] σ P := bl_X1_copy (ct := ct_X1_copy) (n := 30) h
set_option maxRecDepth 20000 in
theorem b_X1_waitingIn_r8_0 {l : Launch} {σ : ax_Sg} {P : Option Value → ax_Sg → Prop} (x1 : Int32) (h : Ev l 11 4 [some (.ref 8), some (.int x1), some (.int 0), some (.int 0)] [] σ P) : Ev l 11 0 [some (.ref 8), some (.int x1), none, none] [] σ P := bl_X1_waitingIn (ct := ct_X1_waitingIn) (n := 6) h
set_option maxRecDepth 20000 in
theorem b_X1_waitingIn_r8_4 {l : Launch} {σ : ax_Sg} {P : Option Value → ax_Sg → Prop} (x1 : Int32) (x2 : Int32) (x3 : Int32) (h : ax_br (x3 < 3) ((vp_in ((x1 * 3) + x3) 15 ∧ Ev l 11 4 [some (.ref 8), some (.int x1), some (.int (x2 + (σ 44 (Int32.toNatClampNeg ((x1 * 3) + x3))))), some (.int (x3 + 1))] [] σ P)) (P (some (.int x2)) σ)) : Ev l 11 4 [some (.ref 8), some (.int x1), some (.int x2), some (.int x3)] [] σ P := bl_X1_waitingIn (ct := ct_X1_waitingIn) (n := 18) h
set_option maxRecDepth 20000 in
theorem b_X1_roam_r8_0 {l : Launch} {σ : ax_Sg} {P : Option Value → ax_Sg → Prop} (x1 : Int32) (h : (vp_in x1 12 ∧ Ev l 11 0 [some (.ref 8), some (.int (σ 39 (Int32.toNatClampNeg x1))), none, none] [] σ (fun o1 σ2 => ax_oi o1 (fun v3 => Ev l 12 16 [some (.ref 8), some (.int x1), some (.int (σ 39 (Int32.toNatClampNeg x1))), some (.int v3), some (.int 0)] [] σ2 P)))) : Ev l 12 0 [some (.ref 8), some (.int x1), none, none, none] [] σ P := bl_X1_roam (ct := ct_X1_roam) (n := 13) h
set_option maxRecDepth 20000 in
theorem b_X1_roam_r8_16 {l : Launch} {σ : ax_Sg} {P : Option Value → ax_Sg → Prop} (x1 : Int32) (x2 : Int32) (x3 : Int32) (x4 : Int32) (h : ax_br (x4 < 5) (Ev l 44 0 [some (.ref 1), some (.int x1), some (.int x4)] [] σ (fun o1 σ2 => ax_oi o1 (fun v3 => ax_br (v3 = 0) (Ev l 12 16 [some (.ref 8), some (.int x1), some (.int x2), some (.int x3), some (.int (x4 + 1))] [] σ2 P) (Ev l 11 0 [some (.ref 8), some (.int x4), none, none] [] σ2 (fun o4 σ5 => ax_oi o4 (fun v6 => ax_br (x3 < v6) (Ev l 11 0 [some (.ref 8), some (.int x4), none, none] [] σ5 (fun o7 σ8 => ax_oi o7 (fun v9 => Ev l 12 16 [some (.ref 8), some (.int x1), some (.int x4), some (.int v9), some (.int (x4 + 1))] [] σ8 P))) (Ev l 12 16 [some (.ref 8), some (.int x1), some (.int x2), some (.int x3), some (.int (x4 + 1))] [] σ5 P))))))) ((vp_in x1 12 ∧ P none (ax_us σ 39 (Int32.toNatClampNeg x1) x2)))) : Ev l 12 16 [some (.ref 8), some (.int x1), some (.int x2), some (.int x3), some (.int x4)] [] σ P := bl_X1_roam (ct := ct_X1_roam) (n := 24) h
set_option maxRecDepth 20000 in
theorem b_X1_longestWait_r8_0 {l : Launch} {σ : ax_Sg} {P : Option Value → ax_Sg → Prop} (x1 : Int32) (h : Ev l 10 2 [some (.ref 8), some (.int x1), some (.int 2)] [] σ P) : Ev l 10 0 [some (.ref 8), some (.int x1), none] [] σ P := bl_X1_longestWait (ct := ct_X1_longestWait) (n := 4) h
set_option maxRecDepth 20000 in
theorem b_X1_longestWait_r8_2 {l : Launch} {σ : ax_Sg} {P : Option Value → ax_Sg → Prop} (x1 : Int32) (x2 : Int32) (h : ax_br (x2 < 0) (P (some (.int (-1))) σ) ((vp_in ((x1 * 3) + x2) 15 ∧ ax_br (0 < σ 44 (Int32.toNatClampNeg ((x1 * 3) + x2))) (P (some (.int x2)) σ) (Ev l 10 2 [some (.ref 8), some (.int x1), some (.int (x2 + (-1)))] [] σ P)))) : Ev l 10 2 [some (.ref 8), some (.int x1), some (.int x2)] [] σ P := bl_X1_longestWait (ct := ct_X1_longestWait) (n := 15) h
set_option maxRecDepth 20000 in
theorem b_X1_serve_r8_0 {l : Launch} {σ : ax_Sg} {P : Option Value → ax_Sg → Prop} (x1 : Int32) (x2 : Int32) (x3 : Int32) (h : (vp_in x1 12 ∧ (vp_in x1 12 ∧ (vp_in x2 16 ∧ (vp_in x2 16 ∧ (vp_in x1 12 ∧ Ev l 10 0 [some (.ref 8), some (.int (σ 39 (Int32.toNatClampNeg x1))), none] [] (ax_us (ax_us σ 40 (Int32.toNatClampNeg x1) ((σ 40 (Int32.toNatClampNeg x1)) + 1)) 42 (Int32.toNatClampNeg x2) ((σ 42 (Int32.toNatClampNeg x2)) + 1)) (fun o1 σ2 => ax_oi o1 (fun v3 => ax_br (v3 = (-1)) ((vp_nar .boolean 0 = 0 ∧ P (some (.int 0)) σ2)) ((vp_in (((σ 39 (Int32.toNatClampNeg x1)) * 3) + v3) 15 ∧ (vp_in (((σ 39 (Int32.toNatClampNeg x1)) * 3) + v3) 15 ∧ (vp_in (σ 39 (Int32.toNatClampNeg x1)) 5 ∧ (¬ (5 : Int32) = 0 ∧ (vp_in (σ 39 (Int32.toNatClampNeg x1)) 5 ∧ (¬ (5 : Int32) = 0 ∧ (vp_in (σ 39 (Int32.toNatClampNeg x1)) 5 ∧ Ev l 39 0 [some (.ref 4), some (.int (σ 39 (Int32.toNatClampNeg x1))), some (.int ((((σ 39 (Int32.toNatClampNeg x1)) + 1) + (σ2 45 (Int32.toNatClampNeg (σ 39 (Int32.toNatClampNeg x1))))) - (((σ 39 (Int32.toNatClampNeg x1)) + 1) + (σ2 45 (Int32.toNatClampNeg (σ 39 (Int32.toNatClampNeg x1))))) / 5 * 5)), some (.int x3), some (.int v3), none, none, none] [] (ax_us (ax_us σ2 44 (Int32.toNatClampNeg (((σ 39 (Int32.toNatClampNeg x1)) * 3) + v3)) ((σ2 44 (Int32.toNatClampNeg (((σ 39 (Int32.toNatClampNeg x1)) * 3) + v3))) - 1)) 45 (Int32.toNatClampNeg (σ 39 (Int32.toNatClampNeg x1))) (((σ2 45 (Int32.toNatClampNeg (σ 39 (Int32.toNatClampNeg x1)))) + 1) - ((σ2 45 (Int32.toNatClampNeg (σ 39 (Int32.toNatClampNeg x1)))) + 1) / 5 * 5)) (fun o4 σ5 => ax_oi o4 (fun v6 => (vp_in x1 12 ∧ (vp_in x1 12 ∧ (vp_in x2 16 ∧ (vp_in x2 16 ∧ Ev l 45 0 [some (.ref 1), some (.int x1), some (.int ((((σ 39 (Int32.toNatClampNeg x1)) + 1) + (σ2 45 (Int32.toNatClampNeg (σ 39 (Int32.toNatClampNeg x1))))) - (((σ 39 (Int32.toNatClampNeg x1)) + 1) + (σ2 45 (Int32.toNatClampNeg (σ 39 (Int32.toNatClampNeg x1))))) / 5 * 5))] [] (ax_us (ax_us (ax_us (ax_us σ5 41 (Int32.toNatClampNeg x1) ((σ5 41 (Int32.toNatClampNeg x1)) + v6)) 43 (Int32.toNatClampNeg x2) ((σ5 43 (Int32.toNatClampNeg x2)) + v6)) 8 17 ((σ5 8 17) + v6)) 8 14 ((σ5 8 14) + 1)) (fun o7 σ8 => ax_oi o7 (fun v9 => (vp_in x1 12 ∧ (vp_nar .boolean 1 = 1 ∧ P (some (.int 1)) (ax_us σ8 39 (Int32.toNatClampNeg x1) v9))))))))))))))))))))))))))) : Ev l 9 0 [some (.ref 8), some (.int x1), some (.int x2), some (.int x3), none, none, none, none] [] σ P := bl_X1_serve (ct := ct_X1_serve) (n := 114) h
set_option maxRecDepth 20000 in
theorem b_X1_tire_r8_0 {l : Launch} {σ : ax_Sg} {P : Option Value → ax_Sg → Prop} (x1 : Int32) (h : (vp_in (x1 + 2) 15 ∧ Ev l 13 19 [some (.ref 8), some (.int x1), some (.int 2)] [] (ax_us σ 8 15 ((σ 8 15) + (σ 44 (Int32.toNatClampNeg (x1 + 2))))) P)) : Ev l 13 0 [some (.ref 8), some (.int x1), none] [] σ P := bl_X1_tire (ct := ct_X1_tire) (n := 15) h
set_option maxRecDepth 20000 in
theorem b_X1_tire_r8_19 {l : Launch} {σ : ax_Sg} {P : Option Value → ax_Sg → Prop} (x1 : Int32) (x2 : Int32) (h : ax_br (0 < x2) ((vp_in ((x1 + x2) - 1) 15 ∧ (vp_in (x1 + x2) 15 ∧ Ev l 13 19 [some (.ref 8), some (.int x1), some (.int (x2 + (-1)))] [] (ax_us σ 44 (Int32.toNatClampNeg (x1 + x2)) (σ 44 (Int32.toNatClampNeg ((x1 + x2) - 1)))) P))) ((vp_in x1 15 ∧ P none (ax_us σ 44 (Int32.toNatClampNeg x1) 0)))) : Ev l 13 19 [some (.ref 8), some (.int x1), some (.int x2)] [] σ P := bl_X1_tire (ct := ct_X1_tire) (n := 20) h
set_option maxRecDepth 20000 in
theorem b_X1_passHour_r8_0 {l : Launch} {σ : ax_Sg} {P : Option Value → ax_Sg → Prop} (x1 : Int32) (h : Ev l 8 2 [some (.ref 8), some (.int x1), some (.int 0), none, none, none] [] σ P) : Ev l 8 0 [some (.ref 8), some (.int x1), none, none, none, none] [] σ P := bl_X1_passHour (ct := ct_X1_passHour) (n := 4) h
set_option maxRecDepth 20000 in
theorem b_X1_passHour_r8_2 {l : Launch} {σ : ax_Sg} {P : Option Value → ax_Sg → Prop} (x1 : Int32) (x2 : Int32) (h : ax_br (x2 < 5) ((vp_in (x2 * 3) 15 ∧ Ev l 1 0 [some (.ref 5), some (.int x1), some (.int x2)] [] σ (fun o1 σ2 => ax_oi o1 (fun v3 => (vp_in (x2 * 3) 15 ∧ Ev l 8 2 [some (.ref 8), some (.int x1), some (.int (x2 + 1)), none, none, none] [] (ax_us σ2 44 (Int32.toNatClampNeg (x2 * 3)) ((σ 44 (Int32.toNatClampNeg (x2 * 3))) + v3)) P))))) (Ev l 102 0 [some (.int x1), some (.int 4), some (.int 15)] [] σ (fun o4 σ5 => ax_oi o4 (fun v6 => ax_br (v6 = 0) (Ev l 8 51 [some (.ref 8), some (.int x1), some (.int 1), some (.int 0), none, none] [] σ5 P) (Ev l 8 51 [some (.ref 8), some (.int x1), some (.int 0), some (.int 0), none, none] [] σ5 P))))) : Ev l 8 2 [some (.ref 8), some (.int x1), some (.int x2), none, none, none] [] σ P := bl_X1_passHour (ct := ct_X1_passHour) (n := 21) h
set_option maxRecDepth 20000 in
theorem b_X1_passHour_r8_51 {l : Launch} {σ : ax_Sg} {P : Option Value → ax_Sg → Prop} (x1 : Int32) (x2 : Int32) (x3 : Int32) (h : ax_br (x3 < σ 1 4) ((vp_in ((x3 * 2) + x2) 24 ∧ (vp_in x3 12 ∧ ax_br (σ 39 (Int32.toNatClampNeg x3) = (-1)) (ax_br ((0 : Int32) = 0) ((vp_in x3 12 ∧ Ev l 8 51 [some (.ref 8), some (.int x1), some (.int x2), some (.int (x3 + 1)), none, none] [] (ax_us σ 46 (Int32.toNatClampNeg x3) (vp_nar .boolean 0)) P)) (Ev l 9 0 [some (.ref 8), some (.int x3), some (.int (σ 19 (Int32.toNatClampNeg ((x3 * 2) + x2)))), some (.int x1), none, none, none, none] [] σ (fun o1 σ2 => ax_oi o1 (fun v3 => ax_br (v3 = 0) ((vp_in x3 12 ∧ Ev l 8 51 [some (.ref 8), some (.int x1), some (.int x2), some (.int (x3 + 1)), none, none] [] (ax_us σ2 46 (Int32.toNatClampNeg x3) (vp_nar .boolean 1)) P)) ((vp_in x3 12 ∧ Ev l 8 51 [some (.ref 8), some (.int x1), some (.int x2), some (.int (x3 + 1)), none, none] [] (ax_us σ2 46 (Int32.toNatClampNeg x3) (vp_nar .boolean 0)) P)))))) (ax_br (σ 19 (Int32.toNatClampNeg ((x3 * 2) + x2)) = (-1)) (ax_br ((0 : Int32) = 0) ((vp_in x3 12 ∧ Ev l 8 51 [some (.ref 8), some (.int x1), some (.int x2), some (.int (x3 + 1)), none, none] [] (ax_us σ 46 (Int32.toNatClampNeg x3) (vp_nar .boolean 0)) P)) (Ev l 9 0 [some (.ref 8), some (.int x3), some (.int (σ 19 (Int32.toNatClampNeg ((x3 * 2) + x2)))), some (.int x1), none, none, none, none] [] σ (fun o4 σ5 => ax_oi o4 (fun v6 => ax_br (v6 = 0) ((vp_in x3 12 ∧ Ev l 8 51 [some (.ref 8), some (.int x1), some (.int x2), some (.int (x3 + 1)), none, none] [] (ax_us σ5 46 (Int32.toNatClampNeg x3) (vp_nar .boolean 1)) P)) ((vp_in x3 12 ∧ Ev l 8 51 [some (.ref 8), some (.int x1), some (.int x2), some (.int (x3 + 1)), none, none] [] (ax_us σ5 46 (Int32.toNatClampNeg x3) (vp_nar .boolean 0)) P)))))) (ax_br ((1 : Int32) = 0) ((vp_in x3 12 ∧ Ev l 8 51 [some (.ref 8), some (.int x1), some (.int x2), some (.int (x3 + 1)), none, none] [] (ax_us σ 46 (Int32.toNatClampNeg x3) (vp_nar .boolean 0)) P)) (Ev l 9 0 [some (.ref 8), some (.int x3), some (.int (σ 19 (Int32.toNatClampNeg ((x3 * 2) + x2)))), some (.int x1), none, none, none, none] [] σ (fun o7 σ8 => ax_oi o7 (fun v9 => ax_br (v9 = 0) ((vp_in x3 12 ∧ Ev l 8 51 [some (.ref 8), some (.int x1), some (.int x2), some (.int (x3 + 1)), none, none] [] (ax_us σ8 46 (Int32.toNatClampNeg x3) (vp_nar .boolean 1)) P)) ((vp_in x3 12 ∧ Ev l 8 51 [some (.ref 8), some (.int x1), some (.int x2), some (.int (x3 + 1)), none, none] [] (ax_us σ8 46 (Int32.toNatClampNeg x3) (vp_nar .boolean 0)) P)))))))))) (Ev l 8 135 [some (.ref 8), none, none, some (.int 0), none, none] [] σ P)) : Ev l 8 51 [some (.ref 8), some (.int x1), some (.int x2), some (.int x3), none, none] [] σ P := bl_X1_passHour (ct := ct_X1_passHour) (n := 45) h
set_option maxRecDepth 20000 in
theorem b_X1_passHour_r8_135 {l : Launch} {σ : ax_Sg} {P : Option Value → ax_Sg → Prop} (x3 : Int32) (h : ax_br (x3 < σ 1 4) ((vp_in x3 12 ∧ ax_br (σ 46 (Int32.toNatClampNeg x3) = 0) (Ev l 8 135 [some (.ref 8), none, none, some (.int (x3 + 1)), none, none] [] σ P) (Ev l 12 0 [some (.ref 8), some (.int x3), none, none, none] [] (ax_us σ 8 16 ((σ 8 16) + 1)) (fun o1 σ2 => ax_ov o1 (Ev l 8 135 [some (.ref 8), none, none, some (.int (x3 + 1)), none, none] [] σ2 P))))) (Ev l 8 178 [some (.ref 8), none, none, some (.int 0), none, none] [] σ P)) : Ev l 8 135 [some (.ref 8), none, none, some (.int x3), none, none] [] σ P := bl_X1_passHour (ct := ct_X1_passHour) (n := 23) h
set_option maxRecDepth 20000 in
theorem b_X1_passHour_r8_178 {l : Launch} {σ : ax_Sg} {P : Option Value → ax_Sg → Prop} (x3 : Int32) (h : ax_br (x3 < 5) (Ev l 13 0 [some (.ref 8), some (.int (x3 * 3)), none] [] σ (fun o1 σ2 => ax_ov o1 (Ev l 8 178 [some (.ref 8), none, none, some (.int (x3 + 1)), none, none] [] σ2 P))) (P none σ)) : Ev l 8 178 [some (.ref 8), none, none, some (.int x3), none, none] [] σ P := bl_X1_passHour (ct := ct_X1_passHour) (n := 12) h
set_option maxRecDepth 20000 in
theorem b_X1_passHours_r8_0 {l : Launch} {σ : ax_Sg} {P : Option Value → ax_Sg → Prop} (x1 : Int32) (h : Ev l 7 2 [some (.ref 8), some (.int x1), some (.int 0)] [] σ P) : Ev l 7 0 [some (.ref 8), some (.int x1), none] [] σ P := bl_X1_passHours (ct := ct_X1_passHours) (n := 4) h
set_option maxRecDepth 20000 in
theorem b_X1_passHours_r8_2 {l : Launch} {σ : ax_Sg} {P : Option Value → ax_Sg → Prop} (x1 : Int32) (x2 : Int32) (h : ax_br (x2 < x1) ((¬ (24 : Int32) = 0 ∧ Ev l 8 0 [some (.ref 8), some (.int ((σ 8 13) - (σ 8 13) / 24 * 24)), none, none, none, none] [] σ (fun o1 σ2 => ax_ov o1 (Ev l 7 2 [some (.ref 8), some (.int x1), some (.int (x2 + 1))] [] (ax_us σ2 8 13 ((σ2 8 13) + 1)) P)))) (P none σ)) : Ev l 7 2 [some (.ref 8), some (.int x1), some (.int x2)] [] σ P := bl_X1_passHours (ct := ct_X1_passHours) (n := 19) h
set_option maxRecDepth 20000 in
theorem b_X1_put_r8_0 {l : Launch} {σ : ax_Sg} {P : Option Value → ax_Sg → Prop} (x1 : Int32) (x2 : Int32) (h : (vp_in x1 12 ∧ (vp_in x1 12 ∧ P (some (.int (σ 39 (Int32.toNatClampNeg x1)))) (ax_us σ 39 (Int32.toNatClampNeg x1) x2)))) : Ev l 6 0 [some (.ref 8), some (.int x1), some (.int x2), none] [] σ P := bl_X1_put (ct := ct_X1_put) (n := 13) h
def ct_X10_tried : List (Nat × List Bool) := [(68, [true, false, true, true, true])]
theorem hm_X10_tried : ax_m 84 = mi_X10_tried := rfl
theorem bl_X10_tried {l : Launch} {ct : List (Nat × List Bool)} {n pc : Nat} {L : ax_Lc} {st : List Value} {σ : ax_Sg} {P : Option Value → ax_Sg → Prop} (h : ax_bk tb_X10_tried ct (fun pc L st σ => Ev l 84 pc L st σ P) (fun a L σ Q => Ev l a 0 L [] σ Q) P none n pc L st σ) : Ev l 84 pc L st σ P := ax_blk (m0 := mi_X10_tried) (t := tb_X10_tried) hm_X10_tried ck_X10_tried h
set_option maxRecDepth 20000 in
theorem b_X10_tried_0 {l : Launch} {σ : ax_Sg} {P : Option Value → ax_Sg → Prop} (x1 : Int32) (x2 : Int32) (x3 : Int32) (h : Ev l 102 0 [some (.int x3), some (.int 0), some (.int 3)] [] σ (fun o1 σ2 => ax_oi o1 (fun v3 => ax_br (v3 = 0) (P (some (.int (-1))) σ2) (Ev l 102 0 [some (.int x1), some (.int 0), some (.int (σ2 1 4))] [] σ2 (fun o4 σ5 => ax_oi o4 (fun v6 => ax_br (v6 = 0) (P (some (.int (-2))) σ5) (Ev l 102 0 [some (.int x2), some (.int 1), some (.int 40)] [] σ5 (fun o7 σ8 => ax_oi o7 (fun v9 => ax_br (v9 = 0) (P (some (.int (-2))) σ8) (Ev l 4 0 [some (.ref 8), some (.ref 7)] [] σ8 (fun o10 σ11 => ax_ov o10 (Ev l 5 0 [some (.ref 8)] [] σ11 (fun o12 σ13 => ax_ov o12 (Ev l 84 68 [some (.ref 0), none, some (.int x2), some (.int x3), some (.int ((σ13 1 4) - x1))] [] σ13 P)))))))))))))) : Ev l 84 0 [some (.ref 0), some (.int x1), some (.int x2), some (.int x3), none] [] σ P := bl_X10_tried (ct := ct_X10_tried) (n := 33) h
set_option maxRecDepth 20000 in
theorem b_X10_tried_68 {l : Launch} {σ : ax_Sg} {P : Option Value → ax_Sg → Prop} (x2 : Int32) (x3 : Int32) (x4 : Int32) (h : ax_br (x4 < σ 1 4) (Ev l 6 0 [some (.ref 8), some (.int x4), some (.int (-1)), none] [] σ (fun o1 σ2 => ax_oi o1 (fun v3 => Ev l 84 68 [some (.ref 0), none, some (.int x2), some (.int x3), some (.int (x4 + 1))] [] σ2 P))) (Ev l 7 0 [some (.ref 8), some (.int x2), none] [] σ (fun o4 σ5 => ax_ov o4 (((x3 = 0 → P (some (.int (σ5 8 14))) σ5) ∧ (¬ x3 = 0 → ((x3 = 1 → P (some (.int (σ5 8 15))) σ5) ∧ (¬ x3 = 1 → ((x3 = 2 → P (some (.int (σ5 8 16))) σ5) ∧ (¬ x3 = 2 → P (some (.int (σ5 8 17))) σ5)))))))))) : Ev l 84 68 [some (.ref 0), none, some (.int x2), some (.int x3), some (.int x4)] [] σ P := bl_X10_tried (ct := ct_X10_tried) (n := 16) h
def ct_X7_detail : List (Nat × List Bool) := []
theorem hm_X7_detail : ax_m 49 = mi_X7_detail := rfl
theorem bl_X7_detail {l : Launch} {ct : List (Nat × List Bool)} {n pc : Nat} {L : ax_Lc} {st : List Value} {σ : ax_Sg} {P : Option Value → ax_Sg → Prop} (h : ax_bk tb_X7_detail ct (fun pc L st σ => Ev l 49 pc L st σ P) (fun a L σ Q => Ev l a 0 L [] σ Q) P none n pc L st σ) : Ev l 49 pc L st σ P := ax_blk (m0 := mi_X7_detail) (t := tb_X7_detail) hm_X7_detail ck_X7_detail h
set_option maxRecDepth 20000 in
theorem b_X7_detail_0 {l : Launch} {σ : ax_Sg} {P : Option Value → ax_Sg → Prop} (x1 : Int32) (x2 : Int32) (h : (vp_in ((x1 * 5) + x2) 1500 ∧ P (some (.int (σ 30 (Int32.toNatClampNeg ((x1 * 5) + x2))))) σ)) : Ev l 49 0 [some (.ref 6), some (.int x1), some (.int x2)] [] σ P := bl_X7_detail (ct := ct_X7_detail) (n := 10) h
def ct_X7_fits : List (Nat × List Bool) := []
theorem hm_X7_fits : ax_m 52 = mi_X7_fits := rfl
theorem bl_X7_fits {l : Launch} {ct : List (Nat × List Bool)} {n pc : Nat} {L : ax_Lc} {st : List Value} {σ : ax_Sg} {P : Option Value → ax_Sg → Prop} (h : ax_bk tb_X7_fits ct (fun pc L st σ => Ev l 52 pc L st σ P) (fun a L σ Q => Ev l a 0 L [] σ Q) P none n pc L st σ) : Ev l 52 pc L st σ P := ax_blk (m0 := mi_X7_fits) (t := tb_X7_fits) hm_X7_fits ck_X7_fits h
set_option maxRecDepth 20000 in
theorem b_X7_fits_0 {l : Launch} {σ : ax_Sg} {P : Option Value → ax_Sg → Prop} (x1 : Int32) (x2 : Int32) (x3 : Int32) (h : ax_br (x3 = (-1)) ((vp_nar .boolean 1 = 1 ∧ P (some (.int 1)) σ)) (Ev l 49 0 [some (.ref 6), some (.int x1), some (.int x2)] [] σ (fun o1 σ2 => ax_oi o1 (fun v3 => ax_br (v3 = x3) ((vp_nar .boolean 1 = 1 ∧ P (some (.int 1)) σ2)) ((vp_nar .boolean 0 = 0 ∧ P (some (.int 0)) σ2)))))) : Ev l 52 0 [some (.ref 6), some (.int x1), some (.int x2), some (.int x3)] [] σ P := bl_X7_fits (ct := ct_X7_fits) (n := 13) h
def ct_X7_search : List (Nat × List Bool) := [(6, [true, true, true, true, true, true, true, true])]
theorem hm_X7_search : ax_m 51 = mi_X7_search := rfl
theorem bl_X7_search {l : Launch} {ct : List (Nat × List Bool)} {n pc : Nat} {L : ax_Lc} {st : List Value} {σ : ax_Sg} {P : Option Value → ax_Sg → Prop} (h : ax_bk tb_X7_search ct (fun pc L st σ => Ev l 51 pc L st σ P) (fun a L σ Q => Ev l a 0 L [] σ Q) P none n pc L st σ) : Ev l 51 pc L st σ P := ax_blk (m0 := mi_X7_search) (t := tb_X7_search) hm_X7_search ck_X7_search h
set_option maxRecDepth 20000 in
theorem b_X7_search_0 {l : Launch} {σ : ax_Sg} {P : Option Value → ax_Sg → Prop} (x1 : Int32) (x2 : Int32) (x3 : Int32) (x4 : Int32) (x5 : Int32) (h : Ev l 51 6 [some (.ref 6), some (.int x1), some (.int x2), some (.int x3), some (.int x4), some (.int x5), some (.int 0), some (.int 0)] [] σ P) : Ev l 51 0 [some (.ref 6), some (.int x1), some (.int x2), some (.int x3), some (.int x4), some (.int x5), none, none] [] σ P := bl_X7_search (ct := ct_X7_search) (n := 6) h
set_option maxRecDepth 20000 in
theorem b_X7_search_6 {l : Launch} {σ : ax_Sg} {P : Option Value → ax_Sg → Prop} (x1 : Int32) (x2 : Int32) (x3 : Int32) (x4 : Int32) (x5 : Int32) (x6 : Int32) (x7 : Int32) (h : ax_br (x7 < σ 6 1) (Ev l 49 0 [some (.ref 6), some (.int x7), some (.int 0)] [] σ (fun o1 σ2 => ax_oi o1 (fun v3 => Ev l 102 0 [some (.int v3), some (.int x1), some (.int x2)] [] σ2 (fun o4 σ5 => ax_oi o4 (fun v6 => ax_br (v6 = 0) (Ev l 51 6 [some (.ref 6), some (.int x1), some (.int x2), some (.int x3), some (.int x4), some (.int x5), some (.int x6), some (.int (x7 + 1))] [] σ5 P) (Ev l 52 0 [some (.ref 6), some (.int x7), some (.int 2), some (.int x3)] [] σ5 (fun o7 σ8 => ax_oi o7 (fun v9 => ax_br (v9 = 0) (Ev l 51 6 [some (.ref 6), some (.int x1), some (.int x2), some (.int x3), some (.int x4), some (.int x5), some (.int x6), some (.int (x7 + 1))] [] σ8 P) (Ev l 52 0 [some (.ref 6), some (.int x7), some (.int 3), some (.int x4)] [] σ8 (fun o10 σ11 => ax_oi o10 (fun v12 => ax_br (v12 = 0) (Ev l 51 6 [some (.ref 6), some (.int x1), some (.int x2), some (.int x3), some (.int x4), some (.int x5), some (.int x6), some (.int (x7 + 1))] [] σ11 P) (ax_br (x6 = x5) (P (some (.int x7)) σ11) (Ev l 51 6 [some (.ref 6), some (.int x1), some (.int x2), some (.int x3), some (.int x4), some (.int x5), some (.int (x6 + 1)), some (.int (x7 + 1))] [] σ11 P))))))))))))) (P (some (.int (-1))) σ)) : Ev l 51 6 [some (.ref 6), some (.int x1), some (.int x2), some (.int x3), some (.int x4), some (.int x5), some (.int x6), some (.int x7)] [] σ P := bl_X7_search (ct := ct_X7_search) (n := 32) h
def ct_X10_found : List (Nat × List Bool) := []
theorem hm_X10_found : ax_m 85 = mi_X10_found := rfl
theorem bl_X10_found {l : Launch} {ct : List (Nat × List Bool)} {n pc : Nat} {L : ax_Lc} {st : List Value} {σ : ax_Sg} {P : Option Value → ax_Sg → Prop} (h : ax_bk tb_X10_found ct (fun pc L st σ => Ev l 85 pc L st σ P) (fun a L σ Q => Ev l a 0 L [] σ Q) P none n pc L st σ) : Ev l 85 pc L st σ P := ax_blk (m0 := mi_X10_found) (t := tb_X10_found) hm_X10_found ck_X10_found h
set_option maxRecDepth 20000 in
theorem b_X10_found_0 {l : Launch} {σ : ax_Sg} {P : Option Value → ax_Sg → Prop} (x1 : Int32) (x2 : Int32) (x3 : Int32) (x4 : Int32) (x5 : Int32) (h : Ev l 51 0 [some (.ref 6), some (.int x1), some (.int x2), some (.int x3), some (.int x4), some (.int x5), none, none] [] σ (fun o1 σ2 => ax_oi o1 (fun v3 => P (some (.int v3)) σ2))) : Ev l 85 0 [some (.ref 0), some (.int x1), some (.int x2), some (.int x3), some (.int x4), some (.int x5)] [] σ P := bl_X10_found (ct := ct_X10_found) (n := 10) h
def ct_X7_has : List (Nat × List Bool) := []
theorem hm_X7_has : ax_m 48 = mi_X7_has := rfl
theorem bl_X7_has {l : Launch} {ct : List (Nat × List Bool)} {n pc : Nat} {L : ax_Lc} {st : List Value} {σ : ax_Sg} {P : Option Value → ax_Sg → Prop} (h : ax_bk tb_X7_has ct (fun pc L st σ => Ev l 48 pc L st σ P) (fun a L σ Q => Ev l a 0 L [] σ Q) P none n pc L st σ) : Ev l 48 pc L st σ P := ax_blk (m0 := mi_X7_has) (t := tb_X7_has) hm_X7_has ck_X7_has h
set_option maxRecDepth 20000 in
theorem b_X7_has_0 {l : Launch} {σ : ax_Sg} {P : Option Value → ax_Sg → Prop} (x1 : Int32) (h : Ev l 102 0 [some (.int x1), some (.int 0), some (.int ((σ 6 1) - 1))] [] σ (fun o1 σ2 => ax_oi o1 (fun v3 => (vp_nar .boolean v3 = v3 ∧ P (some (.int v3)) σ2)))) : Ev l 48 0 [some (.ref 6), some (.int x1)] [] σ P := bl_X7_has (ct := ct_X7_has) (n := 9) h
def ct_X10_rode : List (Nat × List Bool) := []
theorem hm_X10_rode : ax_m 86 = mi_X10_rode := rfl
theorem bl_X10_rode {l : Launch} {ct : List (Nat × List Bool)} {n pc : Nat} {L : ax_Lc} {st : List Value} {σ : ax_Sg} {P : Option Value → ax_Sg → Prop} (h : ax_bk tb_X10_rode ct (fun pc L st σ => Ev l 86 pc L st σ P) (fun a L σ Q => Ev l a 0 L [] σ Q) P none n pc L st σ) : Ev l 86 pc L st σ P := ax_blk (m0 := mi_X10_rode) (t := tb_X10_rode) hm_X10_rode ck_X10_rode h
set_option maxRecDepth 20000 in
theorem b_X10_rode_0 {l : Launch} {σ : ax_Sg} {P : Option Value → ax_Sg → Prop} (x1 : Int32) (x2 : Int32) (h : Ev l 48 0 [some (.ref 6), some (.int x1)] [] σ (fun o1 σ2 => ax_oi o1 (fun v3 => ax_br (v3 = 0) (P (some (.int (-1))) σ2) (Ev l 102 0 [some (.int x2), some (.int 0), some (.int 4)] [] σ2 (fun o4 σ5 => ax_oi o4 (fun v6 => ax_br (v6 = 0) (P (some (.int (-1))) σ5) (Ev l 49 0 [some (.ref 6), some (.int x1), some (.int x2)] [] σ5 (fun o7 σ8 => ax_oi o7 (fun v9 => P (some (.int v9)) σ8))))))))) : Ev l 86 0 [some (.ref 0), some (.int x1), some (.int x2)] [] σ P := bl_X10_rode (ct := ct_X10_rode) (n := 17) h
def ct_X10_isTerm : List (Nat × List Bool) := []
theorem hm_X10_isTerm : ax_m 105 = mi_X10_isTerm := rfl
theorem bl_X10_isTerm {l : Launch} {ct : List (Nat × List Bool)} {n pc : Nat} {L : ax_Lc} {st : List Value} {σ : ax_Sg} {P : Option Value → ax_Sg → Prop} (h : ax_bk tb_X10_isTerm ct (fun pc L st σ => Ev l 105 pc L st σ P) (fun a L σ Q => Ev l a 0 L [] σ Q) P none n pc L st σ) : Ev l 105 pc L st σ P := ax_blk (m0 := mi_X10_isTerm) (t := tb_X10_isTerm) hm_X10_isTerm ck_X10_isTerm h
set_option maxRecDepth 20000 in
theorem b_X10_isTerm_0 {l : Launch} {σ : ax_Sg} {P : Option Value → ax_Sg → Prop} (x0 : Int32) (x1 : Int32) (h : Ev l 102 0 [some (.int x0), some (.int 1), some (.int 40)] [] σ (fun o1 σ2 => ax_oi o1 (fun v3 => ax_br (v3 = 0) ((vp_nar .boolean 0 = 0 ∧ P (some (.int 0)) σ2)) (Ev l 102 0 [some (.int x1), some (.int 0), some (.int 500)] [] σ2 (fun o4 σ5 => ax_oi o4 (fun v6 => ax_br (v6 = 0) ((vp_nar .boolean 0 = 0 ∧ P (some (.int 0)) σ5)) ((vp_nar .boolean 1 = 1 ∧ P (some (.int 1)) σ5)))))))) : Ev l 105 0 [some (.int x0), some (.int x1)] [] σ P := bl_X10_isTerm (ct := ct_X10_isTerm) (n := 14) h
def ct_X6_worth : List (Nat × List Bool) := [(50, [false, false, true, true, false, true, true, true])]
theorem hm_X6_worth : ax_m 47 = mi_X6_worth := rfl
theorem bl_X6_worth {l : Launch} {ct : List (Nat × List Bool)} {n pc : Nat} {L : ax_Lc} {st : List Value} {σ : ax_Sg} {P : Option Value → ax_Sg → Prop} (h : ax_bk tb_X6_worth ct (fun pc L st σ => Ev l 47 pc L st σ P) (fun a L σ Q => Ev l a 0 L [] σ Q) P none n pc L st σ) : Ev l 47 pc L st σ P := ax_blk (m0 := mi_X6_worth) (t := tb_X6_worth) hm_X6_worth ck_X6_worth h
set_option maxRecDepth 20000 in
theorem b_X6_worth_0 {l : Launch} {σ : ax_Sg} {P : Option Value → ax_Sg → Prop} (x1 : Int32) (x2 : Int32) (x3 : Int32) (h : (vp_in x1 12 ∧ ax_br (σ 14 (Int32.toNatClampNeg x1) = 2) ((vp_in x1 12 ∧ (¬ (10 : Int32) = 0 ∧ (vp_in x1 12 ∧ Ev l 47 50 [none, none, some (.int x2), some (.int x3), none, some (.int ((((σ 16 (Int32.toNatClampNeg x1)) * 9) / 10) - (σ 17 (Int32.toNatClampNeg x1)))), some (.int 0), some (.int 0)] [] σ P)))) ((vp_in x1 12 ∧ (vp_in x1 12 ∧ Ev l 47 50 [none, none, some (.int x2), some (.int x3), none, some (.int ((σ 16 (Int32.toNatClampNeg x1)) - (σ 17 (Int32.toNatClampNeg x1)))), some (.int 0), some (.int 0)] [] σ P))))) : Ev l 47 0 [some (.ref 1), some (.int x1), some (.int x2), some (.int x3), none, none, none, none] [] σ P := bl_X6_worth (ct := ct_X6_worth) (n := 29) h
set_option maxRecDepth 20000 in
theorem b_X6_worth_50 {l : Launch} {σ : ax_Sg} {P : Option Value → ax_Sg → Prop} (x2 : Int32) (x3 : Int32) (x5 : Int32) (x6 : Int32) (x7 : Int32) (h : ax_br (x7 < x2) ((¬ 1000 + x3 = 0 ∧ Ev l 175 0 [some (.int 0), some (.int (((x6 + x5) * 1000) / (1000 + x3)))] [] σ (fun o1 σ2 => ax_oi o1 (fun v3 => Ev l 47 50 [none, none, some (.int x2), some (.int x3), none, some (.int x5), some (.int v3), some (.int (x7 + 1))] [] σ2 P)))) (P (some (.int x6)) σ)) : Ev l 47 50 [none, none, some (.int x2), some (.int x3), none, some (.int x5), some (.int x6), some (.int x7)] [] σ P := bl_X6_worth (ct := ct_X6_worth) (n := 19) h
def ct_X10_value : List (Nat × List Bool) := []
theorem hm_X10_value : ax_m 87 = mi_X10_value := rfl
theorem bl_X10_value {l : Launch} {ct : List (Nat × List Bool)} {n pc : Nat} {L : ax_Lc} {st : List Value} {σ : ax_Sg} {P : Option Value → ax_Sg → Prop} (h : ax_bk tb_X10_value ct (fun pc L st σ => Ev l 87 pc L st σ P) (fun a L σ Q => Ev l a 0 L [] σ Q) P none n pc L st σ) : Ev l 87 pc L st σ P := ax_blk (m0 := mi_X10_value) (t := tb_X10_value) hm_X10_value ck_X10_value h
set_option maxRecDepth 20000 in
theorem b_X10_value_0 {l : Launch} {σ : ax_Sg} {P : Option Value → ax_Sg → Prop} (x1 : Int32) (x2 : Int32) (x3 : Int32) (h : Ev l 41 0 [some (.ref 1), some (.int x1)] [] σ (fun o1 σ2 => ax_oi o1 (fun v3 => ax_br (v3 = 0) (P (some (.int (-1))) σ2) (Ev l 105 0 [some (.int x2), some (.int x3)] [] σ2 (fun o4 σ5 => ax_oi o4 (fun v6 => ax_br (v6 = 0) (P (some (.int (-2))) σ5) (Ev l 47 0 [some (.ref 1), some (.int x1), some (.int x2), some (.int x3), none, none, none, none] [] σ5 (fun o7 σ8 => ax_oi o7 (fun v9 => P (some (.int v9)) σ8))))))))) : Ev l 87 0 [some (.ref 0), some (.int x1), some (.int x2), some (.int x3)] [] σ P := bl_X10_value (ct := ct_X10_value) (n := 17) h
def ct_X6_replaceRent : List (Nat × List Bool) := []
theorem hm_X6_replaceRent : ax_m 43 = mi_X6_replaceRent := rfl
theorem bl_X6_replaceRent {l : Launch} {ct : List (Nat × List Bool)} {n pc : Nat} {L : ax_Lc} {st : List Value} {σ : ax_Sg} {P : Option Value → ax_Sg → Prop} (h : ax_bk tb_X6_replaceRent ct (fun pc L st σ => Ev l 43 pc L st σ P) (fun a L σ Q => Ev l a 0 L [] σ Q) P none n pc L st σ) : Ev l 43 pc L st σ P := ax_blk (m0 := mi_X6_replaceRent) (t := tb_X6_replaceRent) hm_X6_replaceRent ck_X6_replaceRent h
set_option maxRecDepth 20000 in
theorem b_X6_replaceRent_0 {l : Launch} {σ : ax_Sg} {P : Option Value → ax_Sg → Prop} (x1 : Int32) (x2 : Int32) (x3 : Int32) (h : (vp_in x1 12 ∧ (vp_in x1 12 ∧ (vp_in x1 12 ∧ P (some (.int (σ 16 (Int32.toNatClampNeg x1)))) (ax_us (ax_us σ 16 (Int32.toNatClampNeg x1) x2) 17 (Int32.toNatClampNeg x1) x3))))) : Ev l 43 0 [some (.ref 1), some (.int x1), some (.int x2), some (.int x3), none] [] σ P := bl_X6_replaceRent (ct := ct_X6_replaceRent) (n := 18) h
def ct_X10_rent : List (Nat × List Bool) := []
theorem hm_X10_rent : ax_m 88 = mi_X10_rent := rfl
theorem bl_X10_rent {l : Launch} {ct : List (Nat × List Bool)} {n pc : Nat} {L : ax_Lc} {st : List Value} {σ : ax_Sg} {P : Option Value → ax_Sg → Prop} (h : ax_bk tb_X10_rent ct (fun pc L st σ => Ev l 88 pc L st σ P) (fun a L σ Q => Ev l a 0 L [] σ Q) P none n pc L st σ) : Ev l 88 pc L st σ P := ax_blk (m0 := mi_X10_rent) (t := tb_X10_rent) hm_X10_rent ck_X10_rent h
set_option maxRecDepth 20000 in
theorem b_X10_rent_0 {l : Launch} {σ : ax_Sg} {P : Option Value → ax_Sg → Prop} (x1 : Int32) (x2 : Int32) (x3 : Int32) (h : Ev l 41 0 [some (.ref 1), some (.int x1)] [] σ (fun o1 σ2 => ax_oi o1 (fun v3 => ax_br (v3 = 0) (P (some (.int (-1))) σ2) (Ev l 104 0 [some (.int x2), some (.int x3)] [] σ2 (fun o4 σ5 => ax_oi o4 (fun v6 => ax_br (v6 = 0) (P (some (.int (-2))) σ5) (Ev l 43 0 [some (.ref 1), some (.int x1), some (.int x2), some (.int x3), none] [] σ5 (fun o7 σ8 => ax_oi o7 (fun v9 => P (some (.int v9)) σ8))))))))) : Ev l 88 0 [some (.ref 0), some (.int x1), some (.int x2), some (.int x3)] [] σ P := bl_X10_rent (ct := ct_X10_rent) (n := 17) h
def ct_X4_add : List (Nat × List Bool) := []
theorem hm_X4_add : ax_m 29 = mi_X4_add := rfl
theorem bl_X4_add {l : Launch} {ct : List (Nat × List Bool)} {n pc : Nat} {L : ax_Lc} {st : List Value} {σ : ax_Sg} {P : Option Value → ax_Sg → Prop} (h : ax_bk tb_X4_add ct (fun pc L st σ => Ev l 29 pc L st σ P) (fun a L σ Q => Ev l a 0 L [] σ Q) P none n pc L st σ) : Ev l 29 pc L st σ P := ax_blk (m0 := mi_X4_add) (t := tb_X4_add) hm_X4_add ck_X4_add h
set_option maxRecDepth 20000 in
theorem b_X4_add_0 {l : Launch} {σ : ax_Sg} {P : Option Value → ax_Sg → Prop} (x1 : Int32) (x2 : Int32) (x3 : Int32) (h : (vp_in (σ 9 4) 30 ∧ (vp_in (σ 9 4) 30 ∧ (vp_in (σ 9 4) 30 ∧ P (some (.int (((σ 9 4) + 1) - 1))) (ax_us (ax_us (ax_us (ax_us σ 47 (Int32.toNatClampNeg (σ 9 4)) x1) 48 (Int32.toNatClampNeg (σ 9 4)) x2) 49 (Int32.toNatClampNeg (σ 9 4)) x3) 9 4 ((σ 9 4) + 1)))))) : Ev l 29 0 [some (.ref 9), some (.int x1), some (.int x2), some (.int x3)] [] σ P := bl_X4_add (ct := ct_X4_add) (n := 30) h
end
section
/-! stretches of the class, between cuts: their verification conditions. Written by wip/whole/gen/gen_blocks.py -/
def ct_X10_loan : List (Nat × List Bool) := []
theorem hm_X10_loan : ax_m 89 = mi_X10_loan := rfl
theorem bl_X10_loan {l : Launch} {ct : List (Nat × List Bool)} {n pc : Nat} {L : ax_Lc} {st : List Value} {σ : ax_Sg} {P : Option Value → ax_Sg → Prop} (h : ax_bk tb_X10_loan ct (fun pc L st σ => Ev l 89 pc L st σ P) (fun a L σ Q => Ev l a 0 L [] σ Q) P none n pc L st σ) : Ev l 89 pc L st σ P := ax_blk (m0 := mi_X10_loan) (t := tb_X10_loan) hm_X10_loan ck_X10_loan h
set_option maxRecDepth 20000 in
theorem b_X10_loan_0 {l : Launch} {σ : ax_Sg} {P : Option Value → ax_Sg → Prop} (x1 : Int32) (x2 : Int32) (x3 : Int32) (h : Ev l 41 0 [some (.ref 1), some (.int x1)] [] σ (fun o1 σ2 => ax_oi o1 (fun v3 => ax_br (v3 = 0) (P (some (.int (-1))) σ2) (Ev l 102 0 [some (.int x2), some (.int 0), some (.int 9)] [] σ2 (fun o4 σ5 => ax_oi o4 (fun v6 => ax_br (v6 = 0) (P (some (.int (-2))) σ5) (Ev l 102 0 [some (.int x3), some (.int 1), some (.int 99999)] [] σ5 (fun o7 σ8 => ax_oi o7 (fun v9 => ax_br (v9 = 0) (P (some (.int (-2))) σ8) (ax_br (σ8 9 4 = 30) (P (some (.int (-4))) σ8) (Ev l 29 0 [some (.ref 9), some (.int x1), some (.int x2), some (.int x3)] [] σ8 (fun o10 σ11 => ax_oi o10 (fun v12 => P (some (.int v12)) σ11))))))))))))) : Ev l 89 0 [some (.ref 0), some (.int x1), some (.int x2), some (.int x3)] [] σ P := bl_X10_loan (ct := ct_X10_loan) (n := 28) h
def ct_X4_debt : List (Nat × List Bool) := [(4, [true, true, true, true])]
theorem hm_X4_debt : ax_m 30 = mi_X4_debt := rfl
theorem bl_X4_debt {l : Launch} {ct : List (Nat × List Bool)} {n pc : Nat} {L : ax_Lc} {st : List Value} {σ : ax_Sg} {P : Option Value → ax_Sg → Prop} (h : ax_bk tb_X4_debt ct (fun pc L st σ => Ev l 30 pc L st σ P) (fun a L σ Q => Ev l a 0 L [] σ Q) P none n pc L st σ) : Ev l 30 pc L st σ P := ax_blk (m0 := mi_X4_debt) (t := tb_X4_debt) hm_X4_debt ck_X4_debt h
set_option maxRecDepth 20000 in
theorem b_X4_debt_0 {l : Launch} {σ : ax_Sg} {P : Option Value → ax_Sg → Prop} (x1 : Int32) (h : Ev l 30 4 [some (.ref 9), some (.int x1), some (.int 0), some (.int 0)] [] σ P) : Ev l 30 0 [some (.ref 9), some (.int x1), none, none] [] σ P := bl_X4_debt (ct := ct_X4_debt) (n := 6) h
set_option maxRecDepth 20000 in
theorem b_X4_debt_4 {l : Launch} {σ : ax_Sg} {P : Option Value → ax_Sg → Prop} (x1 : Int32) (x2 : Int32) (x3 : Int32) (h : ax_br (x3 < σ 9 4) ((vp_in x3 30 ∧ ax_br (σ 47 (Int32.toNatClampNeg x3) = x1) ((vp_in x3 30 ∧ Ev l 30 4 [some (.ref 9), some (.int x1), some (.int (x2 + (σ 49 (Int32.toNatClampNeg x3)))), some (.int (x3 + 1))] [] σ P)) (Ev l 30 4 [some (.ref 9), some (.int x1), some (.int x2), some (.int (x3 + 1))] [] σ P))) (P (some (.int x2)) σ)) : Ev l 30 4 [some (.ref 9), some (.int x1), some (.int x2), some (.int x3)] [] σ P := bl_X4_debt (ct := ct_X4_debt) (n := 21) h
def ct_X10_owes : List (Nat × List Bool) := []
theorem hm_X10_owes : ax_m 90 = mi_X10_owes := rfl
theorem bl_X10_owes {l : Launch} {ct : List (Nat × List Bool)} {n pc : Nat} {L : ax_Lc} {st : List Value} {σ : ax_Sg} {P : Option Value → ax_Sg → Prop} (h : ax_bk tb_X10_owes ct (fun pc L st σ => Ev l 90 pc L st σ P) (fun a L σ Q => Ev l a 0 L [] σ Q) P none n pc L st σ) : Ev l 90 pc L st σ P := ax_blk (m0 := mi_X10_owes) (t := tb_X10_owes) hm_X10_owes ck_X10_owes h
set_option maxRecDepth 20000 in
theorem b_X10_owes_0 {l : Launch} {σ : ax_Sg} {P : Option Value → ax_Sg → Prop} (x1 : Int32) (h : Ev l 41 0 [some (.ref 1), some (.int x1)] [] σ (fun o1 σ2 => ax_oi o1 (fun v3 => ax_br (v3 = 0) (P (some (.int (-1))) σ2) (Ev l 30 0 [some (.ref 9), some (.int x1), none, none] [] σ2 (fun o4 σ5 => ax_oi o4 (fun v6 => P (some (.int v6)) σ5)))))) : Ev l 90 0 [some (.ref 0), some (.int x1)] [] σ P := bl_X10_owes (ct := ct_X10_owes) (n := 11) h
def ct_X10_isFailing : List (Nat × List Bool) := []
theorem hm_X10_isFailing : ax_m 107 = mi_X10_isFailing := rfl
theorem bl_X10_isFailing {l : Launch} {ct : List (Nat × List Bool)} {n pc : Nat} {L : ax_Lc} {st : List Value} {σ : ax_Sg} {P : Option Value → ax_Sg → Prop} (h : ax_bk tb_X10_isFailing ct (fun pc L st σ => Ev l 107 pc L st σ P) (fun a L σ Q => Ev l a 0 L [] σ Q) P none n pc L st σ) : Ev l 107 pc L st σ P := ax_blk (m0 := mi_X10_isFailing) (t := tb_X10_isFailing) hm_X10_isFailing ck_X10_isFailing h
set_option maxRecDepth 20000 in
theorem b_X10_isFailing_0 {l : Launch} {σ : ax_Sg} {P : Option Value → ax_Sg → Prop} (x1 : Int32) (x2 : Int32) (x3 : Int32) (h : Ev l 30 0 [some (.ref 9), some (.int x1), none, none] [] σ (fun o1 σ2 => ax_oi o1 (fun v3 => Ev l 47 0 [some (.ref 1), some (.int x1), some (.int x2), some (.int x3), none, none, none, none] [] σ2 (fun o4 σ5 => ax_oi o4 (fun v6 => ax_br (v6 < v3) ((vp_nar .boolean 1 = 1 ∧ P (some (.int 1)) σ5)) ((vp_nar .boolean 0 = 0 ∧ P (some (.int 0)) σ5))))))) : Ev l 107 0 [some (.ref 0), some (.int x1), some (.int x2), some (.int x3)] [] σ P := bl_X10_isFailing (ct := ct_X10_isFailing) (n := 15) h
def ct_X10_fails : List (Nat × List Bool) := [(16, [true, true, true, true, true])]
theorem hm_X10_fails : ax_m 91 = mi_X10_fails := rfl
theorem bl_X10_fails {l : Launch} {ct : List (Nat × List Bool)} {n pc : Nat} {L : ax_Lc} {st : List Value} {σ : ax_Sg} {P : Option Value → ax_Sg → Prop} (h : ax_bk tb_X10_fails ct (fun pc L st σ => Ev l 91 pc L st σ P) (fun a L σ Q => Ev l a 0 L [] σ Q) P none n pc L st σ) : Ev l 91 pc L st σ P := ax_blk (m0 := mi_X10_fails) (t := tb_X10_fails) hm_X10_fails ck_X10_fails h
set_option maxRecDepth 20000 in
theorem b_X10_fails_0 {l : Launch} {σ : ax_Sg} {P : Option Value → ax_Sg → Prop} (x1 : Int32) (x2 : Int32) (h : Ev l 105 0 [some (.int x1), some (.int x2)] [] σ (fun o1 σ2 => ax_oi o1 (fun v3 => ax_br (v3 = 0) (P (some (.int (-2))) σ2) (Ev l 91 16 [some (.ref 0), some (.int x1), some (.int x2), some (.int 0), some (.int 0)] [] σ2 P)))) : Ev l 91 0 [some (.ref 0), some (.int x1), some (.int x2), none, none] [] σ P := bl_X10_fails (ct := ct_X10_fails) (n := 10) h
set_option maxRecDepth 20000 in
theorem b_X10_fails_16 {l : Launch} {σ : ax_Sg} {P : Option Value → ax_Sg → Prop} (x1 : Int32) (x2 : Int32) (x3 : Int32) (x4 : Int32) (h : ax_br (x4 < σ 1 4) (Ev l 107 0 [some (.ref 0), some (.int x4), some (.int x1), some (.int x2)] [] σ (fun o1 σ2 => ax_oi o1 (fun v3 => ax_br (v3 = 0) (Ev l 91 16 [some (.ref 0), some (.int x1), some (.int x2), some (.int x3), some (.int (x4 + 1))] [] σ2 P) (Ev l 91 16 [some (.ref 0), some (.int x1), some (.int x2), some (.int (x3 ||| ((1 : Int32) <<< (x4 &&& 31)))), some (.int (x4 + 1))] [] σ2 P)))) (P (some (.int x3)) σ)) : Ev l 91 16 [some (.ref 0), some (.int x1), some (.int x2), some (.int x3), some (.int x4)] [] σ P := bl_X10_fails (ct := ct_X10_fails) (n := 21) h
def ct_X10_isPartable : List (Nat × List Bool) := []
theorem hm_X10_isPartable : ax_m 106 = mi_X10_isPartable := rfl
theorem bl_X10_isPartable {l : Launch} {ct : List (Nat × List Bool)} {n pc : Nat} {L : ax_Lc} {st : List Value} {σ : ax_Sg} {P : Option Value → ax_Sg → Prop} (h : ax_bk tb_X10_isPartable ct (fun pc L st σ => Ev l 106 pc L st σ P) (fun a L σ Q => Ev l a 0 L [] σ Q) P none n pc L st σ) : Ev l 106 pc L st σ P := ax_blk (m0 := mi_X10_isPartable) (t := tb_X10_isPartable) hm_X10_isPartable ck_X10_isPartable h
set_option maxRecDepth 20000 in
theorem b_X10_isPartable_0 {l : Launch} {σ : ax_Sg} {P : Option Value → ax_Sg → Prop} (x0 : Int32) (h : Ev l 102 0 [some (.int x0), some (.int 0), some (.int 999999)] [] σ (fun o1 σ2 => ax_oi o1 (fun v3 => (vp_nar .boolean v3 = v3 ∧ P (some (.int v3)) σ2)))) : Ev l 106 0 [some (.int x0)] [] σ P := bl_X10_isPartable (ct := ct_X10_isPartable) (n := 6) h
def ct_X4_isOf : List (Nat × List Bool) := []
theorem hm_X4_isOf : ax_m 33 = mi_X4_isOf := rfl
theorem bl_X4_isOf {l : Launch} {ct : List (Nat × List Bool)} {n pc : Nat} {L : ax_Lc} {st : List Value} {σ : ax_Sg} {P : Option Value → ax_Sg → Prop} (h : ax_bk tb_X4_isOf ct (fun pc L st σ => Ev l 33 pc L st σ P) (fun a L σ Q => Ev l a 0 L [] σ Q) P none n pc L st σ) : Ev l 33 pc L st σ P := ax_blk (m0 := mi_X4_isOf) (t := tb_X4_isOf) hm_X4_isOf ck_X4_isOf h
set_option maxRecDepth 20000 in
theorem b_X4_isOf_0 {l : Launch} {σ : ax_Sg} {P : Option Value → ax_Sg → Prop} (x1 : Int32) (x2 : Int32) (x3 : Int32) (h : (vp_in x1 30 ∧ ax_br (σ 47 (Int32.toNatClampNeg x1) = x2) ((vp_in x1 30 ∧ ax_br (σ 48 (Int32.toNatClampNeg x1) = x3) ((vp_nar .boolean 1 = 1 ∧ P (some (.int 1)) σ)) ((vp_nar .boolean 0 = 0 ∧ P (some (.int 0)) σ)))) ((vp_nar .boolean 0 = 0 ∧ P (some (.int 0)) σ)))) : Ev l 33 0 [some (.ref 9), some (.int x1), some (.int x2), some (.int x3)] [] σ P := bl_X4_isOf (ct := ct_X4_isOf) (n := 16) h
def ct_X4_payRank : List (Nat × List Bool) := [(2, [true, true, true, true])]
theorem hm_X4_payRank : ax_m 35 = mi_X4_payRank := rfl
theorem bl_X4_payRank {l : Launch} {ct : List (Nat × List Bool)} {n pc : Nat} {L : ax_Lc} {st : List Value} {σ : ax_Sg} {P : Option Value → ax_Sg → Prop} (h : ax_bk tb_X4_payRank ct (fun pc L st σ => Ev l 35 pc L st σ P) (fun a L σ Q => Ev l a 0 L [] σ Q) P none n pc L st σ) : Ev l 35 pc L st σ P := ax_blk (m0 := mi_X4_payRank) (t := tb_X4_payRank) hm_X4_payRank ck_X4_payRank h
set_option maxRecDepth 20000 in
theorem b_X4_payRank_0 {l : Launch} {σ : ax_Sg} {P : Option Value → ax_Sg → Prop} (x1 : Int32) (x2 : Int32) (h : Ev l 35 2 [some (.ref 9), some (.int x1), some (.int x2), some (.int 0)] [] σ P) : Ev l 35 0 [some (.ref 9), some (.int x1), some (.int x2), none] [] σ P := bl_X4_payRank (ct := ct_X4_payRank) (n := 4) h
set_option maxRecDepth 20000 in
theorem b_X4_payRank_2 {l : Launch} {σ : ax_Sg} {P : Option Value → ax_Sg → Prop} (x1 : Int32) (x2 : Int32) (x3 : Int32) (h : ax_br (x3 < σ 9 4) (Ev l 33 0 [some (.ref 9), some (.int x3), some (.int x1), some (.int x2)] [] σ (fun o1 σ2 => ax_oi o1 (fun v3 => ax_br (v3 = 0) (Ev l 35 2 [some (.ref 9), some (.int x1), some (.int x2), some (.int (x3 + 1))] [] σ2 P) ((vp_in x3 30 ∧ (vp_in x3 30 ∧ Ev l 35 2 [some (.ref 9), some (.int x1), some (.int x2), some (.int (x3 + 1))] [] (ax_us σ2 50 (Int32.toNatClampNeg x3) (σ2 49 (Int32.toNatClampNeg x3))) P)))))) (P none σ)) : Ev l 35 2 [some (.ref 9), some (.int x1), some (.int x2), some (.int x3)] [] σ P := bl_X4_payRank (ct := ct_X4_payRank) (n := 22) h
def ct_X4_rankDebt : List (Nat × List Bool) := [(5, [true, true, true, true, true])]
theorem hm_X4_rankDebt : ax_m 34 = mi_X4_rankDebt := rfl
theorem bl_X4_rankDebt {l : Launch} {ct : List (Nat × List Bool)} {n pc : Nat} {L : ax_Lc} {st : List Value} {σ : ax_Sg} {P : Option Value → ax_Sg → Prop} (h : ax_bk tb_X4_rankDebt ct (fun pc L st σ => Ev l 34 pc L st σ P) (fun a L σ Q => Ev l a 0 L [] σ Q) P none n pc L st σ) : Ev l 34 pc L st σ P := ax_blk (m0 := mi_X4_rankDebt) (t := tb_X4_rankDebt) hm_X4_rankDebt ck_X4_rankDebt h
set_option maxRecDepth 20000 in
theorem b_X4_rankDebt_0 {l : Launch} {σ : ax_Sg} {P : Option Value → ax_Sg → Prop} (x1 : Int32) (x2 : Int32) (h : Ev l 34 5 [some (.ref 9), some (.int x1), some (.int x2), some (.int 0), some (.int 0)] [] σ P) : Ev l 34 0 [some (.ref 9), some (.int x1), some (.int x2), none, none] [] σ P := bl_X4_rankDebt (ct := ct_X4_rankDebt) (n := 6) h
set_option maxRecDepth 20000 in
theorem b_X4_rankDebt_5 {l : Launch} {σ : ax_Sg} {P : Option Value → ax_Sg → Prop} (x1 : Int32) (x2 : Int32) (x3 : Int32) (x4 : Int32) (h : ax_br (x4 < σ 9 4) (Ev l 33 0 [some (.ref 9), some (.int x4), some (.int x1), some (.int x2)] [] σ (fun o1 σ2 => ax_oi o1 (fun v3 => ax_br (v3 = 0) (Ev l 34 5 [some (.ref 9), some (.int x1), some (.int x2), some (.int x3), some (.int (x4 + 1))] [] σ2 P) ((vp_in x4 30 ∧ Ev l 34 5 [some (.ref 9), some (.int x1), some (.int x2), some (.int (x3 + (σ2 49 (Int32.toNatClampNeg x4)))), some (.int (x4 + 1))] [] σ2 P))))) (P (some (.int x3)) σ)) : Ev l 34 5 [some (.ref 9), some (.int x1), some (.int x2), some (.int x3), some (.int x4)] [] σ P := bl_X4_rankDebt (ct := ct_X4_rankDebt) (n := 21) h
def ct_X4_shareRank : List (Nat × List Bool) := [(6, [true, true, true, true, true, true, true]), (75, [true, true, true, false, false, true, true])]
theorem hm_X4_shareRank : ax_m 36 = mi_X4_shareRank := rfl
theorem bl_X4_shareRank {l : Launch} {ct : List (Nat × List Bool)} {n pc : Nat} {L : ax_Lc} {st : List Value} {σ : ax_Sg} {P : Option Value → ax_Sg → Prop} (h : ax_bk tb_X4_shareRank ct (fun pc L st σ => Ev l 36 pc L st σ P) (fun a L σ Q => Ev l a 0 L [] σ Q) P none n pc L st σ) : Ev l 36 pc L st σ P := ax_blk (m0 := mi_X4_shareRank) (t := tb_X4_shareRank) hm_X4_shareRank ck_X4_shareRank h
set_option maxRecDepth 20000 in
theorem b_X4_shareRank_0 {l : Launch} {σ : ax_Sg} {P : Option Value → ax_Sg → Prop} (x1 : Int32) (x2 : Int32) (x3 : Int32) (x4 : Int32) (h : Ev l 36 6 [some (.ref 9), some (.int x1), some (.int x2), some (.int x3), some (.int x4), some (.int x3), some (.int 0)] [] σ P) : Ev l 36 0 [some (.ref 9), some (.int x1), some (.int x2), some (.int x3), some (.int x4), none, none] [] σ P := bl_X4_shareRank (ct := ct_X4_shareRank) (n := 6) h
set_option maxRecDepth 20000 in
theorem b_X4_shareRank_6 {l : Launch} {σ : ax_Sg} {P : Option Value → ax_Sg → Prop} (x1 : Int32) (x2 : Int32) (x3 : Int32) (x4 : Int32) (x5 : Int32) (x6 : Int32) (h : ax_br (x6 < σ 9 4) (Ev l 33 0 [some (.ref 9), some (.int x6), some (.int x1), some (.int x2)] [] σ (fun o1 σ2 => ax_oi o1 (fun v3 => ax_br (v3 = 0) (Ev l 36 6 [some (.ref 9), some (.int x1), some (.int x2), some (.int x3), some (.int x4), some (.int x5), some (.int (x6 + 1))] [] σ2 P) (ax_br (0 < x4) ((vp_in x6 30 ∧ (¬ Int32.toInt64 x4 = 0 ∧ (vp_in x6 30 ∧ (vp_in x6 30 ∧ Ev l 36 6 [some (.ref 9), some (.int x1), some (.int x2), some (.int x3), some (.int x4), some (.int (x5 - ((upd (σ2 50) (Int32.toNatClampNeg x6) (Int64.toInt32 (((Int32.toInt64 x3) * (Int32.toInt64 (σ2 49 (Int32.toNatClampNeg x6)))) / (Int32.toInt64 x4)))) (Int32.toNatClampNeg x6)))), some (.int (x6 + 1))] [] (ax_us σ2 50 (Int32.toNatClampNeg x6) (Int64.toInt32 (((Int32.toInt64 x3) * (Int32.toInt64 (σ2 49 (Int32.toNatClampNeg x6)))) / (Int32.toInt64 x4)))) P))))) (Ev l 36 6 [some (.ref 9), some (.int x1), some (.int x2), some (.int x3), some (.int x4), some (.int x5), some (.int (x6 + 1))] [] σ2 P))))) (Ev l 36 75 [some (.ref 9), some (.int x1), some (.int x2), none, none, some (.int x5), some (.int 0)] [] σ P)) : Ev l 36 6 [some (.ref 9), some (.int x1), some (.int x2), some (.int x3), some (.int x4), some (.int x5), some (.int x6)] [] σ P := bl_X4_shareRank (ct := ct_X4_shareRank) (n := 39) h
set_option maxRecDepth 20000 in
theorem b_X4_shareRank_75 {l : Launch} {σ : ax_Sg} {P : Option Value → ax_Sg → Prop} (x1 : Int32) (x2 : Int32) (x5 : Int32) (x6 : Int32) (h : ax_br (x6 < σ 9 4) (ax_br (0 < x5) (Ev l 33 0 [some (.ref 9), some (.int x6), some (.int x1), some (.int x2)] [] σ (fun o1 σ2 => ax_oi o1 (fun v3 => ax_br (v3 = 0) (Ev l 36 75 [some (.ref 9), some (.int x1), some (.int x2), none, none, some (.int x5), some (.int (x6 + 1))] [] σ2 P) ((vp_in x6 30 ∧ (vp_in x6 30 ∧ ax_br (σ2 50 (Int32.toNatClampNeg x6) < σ2 49 (Int32.toNatClampNeg x6)) ((vp_in x6 30 ∧ (vp_in x6 30 ∧ Ev l 36 75 [some (.ref 9), some (.int x1), some (.int x2), none, none, some (.int (x5 + (-1))), some (.int (x6 + 1))] [] (ax_us σ2 50 (Int32.toNatClampNeg x6) ((σ2 50 (Int32.toNatClampNeg x6)) + 1)) P))) (Ev l 36 75 [some (.ref 9), some (.int x1), some (.int x2), none, none, some (.int x5), some (.int (x6 + 1))] [] σ2 P))))))) (P none σ)) (P none σ)) : Ev l 36 75 [some (.ref 9), some (.int x1), some (.int x2), none, none, some (.int x5), some (.int x6)] [] σ P := bl_X4_shareRank (ct := ct_X4_shareRank) (n := 34) h
def ct_X4_divide : List (Nat × List Bool) := [(5, [true, true, false, true, true, false])]
theorem hm_X4_divide : ax_m 31 = mi_X4_divide := rfl
theorem bl_X4_divide {l : Launch} {ct : List (Nat × List Bool)} {n pc : Nat} {L : ax_Lc} {st : List Value} {σ : ax_Sg} {P : Option Value → ax_Sg → Prop} (h : ax_bk tb_X4_divide ct (fun pc L st σ => Ev l 31 pc L st σ P) (fun a L σ Q => Ev l a 0 L [] σ Q) P none n pc L st σ) : Ev l 31 pc L st σ P := ax_blk (m0 := mi_X4_divide) (t := tb_X4_divide) hm_X4_divide ck_X4_divide h
set_option maxRecDepth 20000 in
theorem b_X4_divide_0 {l : Launch} {σ : ax_Sg} {P : Option Value → ax_Sg → Prop} (x1 : Int32) (x2 : Int32) (h : Ev l 31 5 [some (.ref 9), some (.int x1), none, some (.int x2), some (.int 0), none] [] σ P) : Ev l 31 0 [some (.ref 9), some (.int x1), some (.int x2), none, none, none] [] σ P := bl_X4_divide (ct := ct_X4_divide) (n := 6) h
set_option maxRecDepth 20000 in
theorem b_X4_divide_5 {l : Launch} {σ : ax_Sg} {P : Option Value → ax_Sg → Prop} (x1 : Int32) (x3 : Int32) (x4 : Int32) (h : ax_br (9 < x4) (P none σ) (Ev l 34 0 [some (.ref 9), some (.int x1), some (.int x4), none, none] [] σ (fun o1 σ2 => ax_oi o1 (fun v3 => ax_br (x3 < v3) (Ev l 36 0 [some (.ref 9), some (.int x1), some (.int x4), some (.int x3), some (.int v3), none, none] [] σ2 (fun o4 σ5 => ax_ov o4 (Ev l 31 5 [some (.ref 9), some (.int x1), none, some (.int 0), some (.int (x4 + 1)), none] [] σ5 P))) (Ev l 35 0 [some (.ref 9), some (.int x1), some (.int x4), none] [] σ2 (fun o6 σ7 => ax_ov o6 (Ev l 31 5 [some (.ref 9), some (.int x1), none, some (.int (x3 - v3)), some (.int (x4 + 1)), none] [] σ7 P))))))) : Ev l 31 5 [some (.ref 9), some (.int x1), none, some (.int x3), some (.int x4), none] [] σ P := bl_X4_divide (ct := ct_X4_divide) (n := 24) h
def ct_X4_has : List (Nat × List Bool) := []
theorem hm_X4_has : ax_m 28 = mi_X4_has := rfl
theorem bl_X4_has {l : Launch} {ct : List (Nat × List Bool)} {n pc : Nat} {L : ax_Lc} {st : List Value} {σ : ax_Sg} {P : Option Value → ax_Sg → Prop} (h : ax_bk tb_X4_has ct (fun pc L st σ => Ev l 28 pc L st σ P) (fun a L σ Q => Ev l a 0 L [] σ Q) P none n pc L st σ) : Ev l 28 pc L st σ P := ax_blk (m0 := mi_X4_has) (t := tb_X4_has) hm_X4_has ck_X4_has h
set_option maxRecDepth 20000 in
theorem b_X4_has_0 {l : Launch} {σ : ax_Sg} {P : Option Value → ax_Sg → Prop} (x1 : Int32) (h : Ev l 102 0 [some (.int x1), some (.int 0), some (.int ((σ 9 4) - 1))] [] σ (fun o1 σ2 => ax_oi o1 (fun v3 => (vp_nar .boolean v3 = v3 ∧ P (some (.int v3)) σ2)))) : Ev l 28 0 [some (.ref 9), some (.int x1)] [] σ P := bl_X4_has (ct := ct_X4_has) (n := 9) h
def ct_X10_part : List (Nat × List Bool) := []
theorem hm_X10_part : ax_m 92 = mi_X10_part := rfl
theorem bl_X10_part {l : Launch} {ct : List (Nat × List Bool)} {n pc : Nat} {L : ax_Lc} {st : List Value} {σ : ax_Sg} {P : Option Value → ax_Sg → Prop} (h : ax_bk tb_X10_part ct (fun pc L st σ => Ev l 92 pc L st σ P) (fun a L σ Q => Ev l a 0 L [] σ Q) P none n pc L st σ) : Ev l 92 pc L st σ P := ax_blk (m0 := mi_X10_part) (t := tb_X10_part) hm_X10_part ck_X10_part h
set_option maxRecDepth 20000 in
theorem b_X10_part_0 {l : Launch} {σ : ax_Sg} {P : Option Value → ax_Sg → Prop} (x1 : Int32) (x2 : Int32) (h : Ev l 28 0 [some (.ref 9), some (.int x1)] [] σ (fun o1 σ2 => ax_oi o1 (fun v3 => ax_br (v3 = 0) (P (some (.int (-1))) σ2) (Ev l 106 0 [some (.int x2)] [] σ2 (fun o4 σ5 => ax_oi o4 (fun v6 => ax_br (v6 = 0) (P (some (.int (-2))) σ5) ((vp_in x1 30 ∧ Ev l 31 0 [some (.ref 9), some (.int (σ5 47 (Int32.toNatClampNeg x1))), some (.int x2), none, none, none] [] σ5 (fun o7 σ8 => ax_ov o7 ((vp_in x1 30 ∧ P (some (.int (σ8 50 (Int32.toNatClampNeg x1)))) σ8))))))))))) : Ev l 92 0 [some (.ref 0), some (.int x1), some (.int x2)] [] σ P := bl_X10_part (ct := ct_X10_part) (n := 24) h
def ct_X10_over : List (Nat × List Bool) := []
theorem hm_X10_over : ax_m 93 = mi_X10_over := rfl
theorem bl_X10_over {l : Launch} {ct : List (Nat × List Bool)} {n pc : Nat} {L : ax_Lc} {st : List Value} {σ : ax_Sg} {P : Option Value → ax_Sg → Prop} (h : ax_bk tb_X10_over ct (fun pc L st σ => Ev l 93 pc L st σ P) (fun a L σ Q => Ev l a 0 L [] σ Q) P none n pc L st σ) : Ev l 93 pc L st σ P := ax_blk (m0 := mi_X10_over) (t := tb_X10_over) hm_X10_over ck_X10_over h
set_option maxRecDepth 20000 in
theorem b_X10_over_0 {l : Launch} {σ : ax_Sg} {P : Option Value → ax_Sg → Prop} (x1 : Int32) (x2 : Int32) (h : Ev l 41 0 [some (.ref 1), some (.int x1)] [] σ (fun o1 σ2 => ax_oi o1 (fun v3 => ax_br (v3 = 0) (P (some (.int (-1))) σ2) (Ev l 106 0 [some (.int x2)] [] σ2 (fun o4 σ5 => ax_oi o4 (fun v6 => ax_br (v6 = 0) (P (some (.int (-2))) σ5) (Ev l 30 0 [some (.ref 9), some (.int x1), none, none] [] σ5 (fun o7 σ8 => ax_oi o7 (fun v9 => Ev l 175 0 [some (.int 0), some (.int (x2 - v9))] [] σ8 (fun o10 σ11 => ax_oi o10 (fun v12 => P (some (.int v12)) σ11))))))))))) : Ev l 93 0 [some (.ref 0), some (.int x1), some (.int x2)] [] σ P := bl_X10_over (ct := ct_X10_over) (n := 18) h
def ct_X4_settle : List (Nat × List Bool) := [(2, [true, true, true])]
theorem hm_X4_settle : ax_m 32 = mi_X4_settle := rfl
theorem bl_X4_settle {l : Launch} {ct : List (Nat × List Bool)} {n pc : Nat} {L : ax_Lc} {st : List Value} {σ : ax_Sg} {P : Option Value → ax_Sg → Prop} (h : ax_bk tb_X4_settle ct (fun pc L st σ => Ev l 32 pc L st σ P) (fun a L σ Q => Ev l a 0 L [] σ Q) P none n pc L st σ) : Ev l 32 pc L st σ P := ax_blk (m0 := mi_X4_settle) (t := tb_X4_settle) hm_X4_settle ck_X4_settle h
set_option maxRecDepth 20000 in
theorem b_X4_settle_0 {l : Launch} {σ : ax_Sg} {P : Option Value → ax_Sg → Prop} (x1 : Int32) (h : Ev l 32 2 [some (.ref 9), some (.int x1), some (.int 0)] [] σ P) : Ev l 32 0 [some (.ref 9), some (.int x1), none] [] σ P := bl_X4_settle (ct := ct_X4_settle) (n := 4) h
set_option maxRecDepth 20000 in
theorem b_X4_settle_2 {l : Launch} {σ : ax_Sg} {P : Option Value → ax_Sg → Prop} (x1 : Int32) (x2 : Int32) (h : ax_br (x2 < σ 9 4) ((vp_in x2 30 ∧ ax_br (σ 47 (Int32.toNatClampNeg x2) = x1) ((vp_in x2 30 ∧ (vp_in x2 30 ∧ Ev l 32 2 [some (.ref 9), some (.int x1), some (.int (x2 + 1))] [] (ax_us σ 49 (Int32.toNatClampNeg x2) (σ 50 (Int32.toNatClampNeg x2))) P))) (Ev l 32 2 [some (.ref 9), some (.int x1), some (.int (x2 + 1))] [] σ P))) (P none σ)) : Ev l 32 2 [some (.ref 9), some (.int x1), some (.int x2)] [] σ P := bl_X4_settle (ct := ct_X4_settle) (n := 22) h
def ct_X10_rescue : List (Nat × List Bool) := []
theorem hm_X10_rescue : ax_m 94 = mi_X10_rescue := rfl
theorem bl_X10_rescue {l : Launch} {ct : List (Nat × List Bool)} {n pc : Nat} {L : ax_Lc} {st : List Value} {σ : ax_Sg} {P : Option Value → ax_Sg → Prop} (h : ax_bk tb_X10_rescue ct (fun pc L st σ => Ev l 94 pc L st σ P) (fun a L σ Q => Ev l a 0 L [] σ Q) P none n pc L st σ) : Ev l 94 pc L st σ P := ax_blk (m0 := mi_X10_rescue) (t := tb_X10_rescue) hm_X10_rescue ck_X10_rescue h
set_option maxRecDepth 20000 in
theorem b_X10_rescue_0 {l : Launch} {σ : ax_Sg} {P : Option Value → ax_Sg → Prop} (x1 : Int32) (x2 : Int32) (x3 : Int32) (x4 : Int32) (h : Ev l 41 0 [some (.ref 1), some (.int x1)] [] σ (fun o1 σ2 => ax_oi o1 (fun v3 => ax_br (v3 = 0) (P (some (.int (-1))) σ2) (Ev l 102 0 [some (.int x2), some (.int 0), some (.int 100)] [] σ2 (fun o4 σ5 => ax_oi o4 (fun v6 => ax_br (v6 = 0) (P (some (.int (-2))) σ5) (Ev l 105 0 [some (.int x3), some (.int x4)] [] σ5 (fun o7 σ8 => ax_oi o7 (fun v9 => ax_br (v9 = 0) (P (some (.int (-2))) σ8) (Ev l 107 0 [some (.ref 0), some (.int x1), some (.int x3), some (.int x4)] [] σ8 (fun o10 σ11 => ax_oi o10 (fun v12 => ax_br (v12 = 0) (P (some (.int (-3))) σ11) (Ev l 30 0 [some (.ref 9), some (.int x1), none, none] [] σ11 (fun o13 σ14 => ax_oi o13 (fun v15 => Ev l 47 0 [some (.ref 1), some (.int x1), some (.int x3), some (.int x4), none, none, none, none] [] σ14 (fun o16 σ17 => ax_oi o16 (fun v18 => (¬ (100 : Int32) = 0 ∧ Ev l 31 0 [some (.ref 9), some (.int x1), some (.int ((v18 * x2) / 100)), none, none, none] [] σ17 (fun o19 σ20 => ax_ov o19 (Ev l 32 0 [some (.ref 9), some (.int x1), none] [] σ20 (fun o21 σ22 => ax_ov o21 (Ev l 30 0 [some (.ref 9), some (.int x1), none, none] [] σ22 (fun o23 σ24 => ax_oi o23 (fun v25 => P (some (.int (v15 - v25))) σ24)))))))))))))))))))))))) : Ev l 94 0 [some (.ref 0), some (.int x1), some (.int x2), some (.int x3), some (.int x4), none] [] σ P := bl_X10_rescue (ct := ct_X10_rescue) (n := 51) h
def ct_X2_add : List (Nat × List Bool) := []
theorem hm_X2_add : ax_m 14 = mi_X2_add := rfl
theorem bl_X2_add {l : Launch} {ct : List (Nat × List Bool)} {n pc : Nat} {L : ax_Lc} {st : List Value} {σ : ax_Sg} {P : Option Value → ax_Sg → Prop} (h : ax_bk tb_X2_add ct (fun pc L st σ => Ev l 14 pc L st σ P) (fun a L σ Q => Ev l a 0 L [] σ Q) P none n pc L st σ) : Ev l 14 pc L st σ P := ax_blk (m0 := mi_X2_add) (t := tb_X2_add) hm_X2_add ck_X2_add h
set_option maxRecDepth 20000 in
theorem b_X2_add_0 {l : Launch} {σ : ax_Sg} {P : Option Value → ax_Sg → Prop} (x1 : Int32) (h : (vp_in (σ 10 2) 6 ∧ P (some (.int (((σ 10 2) + 1) - 1))) (ax_us (ax_us σ 51 (Int32.toNatClampNeg (σ 10 2)) x1) 10 2 ((σ 10 2) + 1)))) : Ev l 14 0 [some (.ref 10), some (.int x1)] [] σ P := bl_X2_add (ct := ct_X2_add) (n := 18) h
def ct_X10_swap : List (Nat × List Bool) := []
theorem hm_X10_swap : ax_m 95 = mi_X10_swap := rfl
theorem bl_X10_swap {l : Launch} {ct : List (Nat × List Bool)} {n pc : Nat} {L : ax_Lc} {st : List Value} {σ : ax_Sg} {P : Option Value → ax_Sg → Prop} (h : ax_bk tb_X10_swap ct (fun pc L st σ => Ev l 95 pc L st σ P) (fun a L σ Q => Ev l a 0 L [] σ Q) P none n pc L st σ) : Ev l 95 pc L st σ P := ax_blk (m0 := mi_X10_swap) (t := tb_X10_swap) hm_X10_swap ck_X10_swap h
set_option maxRecDepth 20000 in
theorem b_X10_swap_0 {l : Launch} {σ : ax_Sg} {P : Option Value → ax_Sg → Prop} (x1 : Int32) (h : Ev l 102 0 [some (.int x1), some (.int 1), some (.int 255)] [] σ (fun o1 σ2 => ax_oi o1 (fun v3 => ax_br (v3 = 0) (P (some (.int (-2))) σ2) (ax_br (σ2 10 2 = 6) (P (some (.int (-4))) σ2) (Ev l 14 0 [some (.ref 10), some (.int x1)] [] σ2 (fun o4 σ5 => ax_oi o4 (fun v6 => P (some (.int v6)) σ5))))))) : Ev l 95 0 [some (.ref 0), some (.int x1)] [] σ P := bl_X10_swap (ct := ct_X10_swap) (n := 16) h
def ct_X2_clear : List (Nat × List Bool) := []
theorem hm_X2_clear : ax_m 15 = mi_X2_clear := rfl
theorem bl_X2_clear {l : Launch} {ct : List (Nat × List Bool)} {n pc : Nat} {L : ax_Lc} {st : List Value} {σ : ax_Sg} {P : Option Value → ax_Sg → Prop} (h : ax_bk tb_X2_clear ct (fun pc L st σ => Ev l 15 pc L st σ P) (fun a L σ Q => Ev l a 0 L [] σ Q) P none n pc L st σ) : Ev l 15 pc L st σ P := ax_blk (m0 := mi_X2_clear) (t := tb_X2_clear) hm_X2_clear ck_X2_clear h
set_option maxRecDepth 20000 in
theorem b_X2_clear_0 {l : Launch} {σ : ax_Sg} {P : Option Value → ax_Sg → Prop}  (h : P (some (.int (σ 10 2))) (ax_us σ 10 2 0)) : Ev l 15 0 [some (.ref 10), none] [] σ P := bl_X2_clear (ct := ct_X2_clear) (n := 9) h
def ct_X10_unswap : List (Nat × List Bool) := []
theorem hm_X10_unswap : ax_m 96 = mi_X10_unswap := rfl
theorem bl_X10_unswap {l : Launch} {ct : List (Nat × List Bool)} {n pc : Nat} {L : ax_Lc} {st : List Value} {σ : ax_Sg} {P : Option Value → ax_Sg → Prop} (h : ax_bk tb_X10_unswap ct (fun pc L st σ => Ev l 96 pc L st σ P) (fun a L σ Q => Ev l a 0 L [] σ Q) P none n pc L st σ) : Ev l 96 pc L st σ P := ax_blk (m0 := mi_X10_unswap) (t := tb_X10_unswap) hm_X10_unswap ck_X10_unswap h
set_option maxRecDepth 20000 in
theorem b_X10_unswap_0 {l : Launch} {σ : ax_Sg} {P : Option Value → ax_Sg → Prop}  (h : Ev l 15 0 [some (.ref 10), none] [] σ (fun o1 σ2 => ax_oi o1 (fun v3 => P (some (.int v3)) σ2))) : Ev l 96 0 [some (.ref 0)] [] σ P := bl_X10_unswap (ct := ct_X10_unswap) (n := 5) h
def ct_X2_everyFleet : List (Nat × List Bool) := []
theorem hm_X2_everyFleet : ax_m 19 = mi_X2_everyFleet := rfl
theorem bl_X2_everyFleet {l : Launch} {ct : List (Nat × List Bool)} {n pc : Nat} {L : ax_Lc} {st : List Value} {σ : ax_Sg} {P : Option Value → ax_Sg → Prop} (h : ax_bk tb_X2_everyFleet ct (fun pc L st σ => Ev l 19 pc L st σ P) (fun a L σ Q => Ev l a 0 L [] σ Q) P none n pc L st σ) : Ev l 19 pc L st σ P := ax_blk (m0 := mi_X2_everyFleet) (t := tb_X2_everyFleet) hm_X2_everyFleet ck_X2_everyFleet h
set_option maxRecDepth 20000 in
theorem b_X2_everyFleet_0 {l : Launch} {σ : ax_Sg} {P : Option Value → ax_Sg → Prop}  (h : P (some (.int (((1 : Int32) <<< ((σ 10 2) &&& 31)) - 1))) σ) : Ev l 19 0 [some (.ref 10)] [] σ P := bl_X2_everyFleet (ct := ct_X2_everyFleet) (n := 8) h
def ct_J6_bitCount_0f7a4 : List (Nat × List Bool) := []
theorem hm_J6_bitCount_0f7a4 : ax_m 173 = mi_J6_bitCount_0f7a4 := rfl
theorem bl_J6_bitCount_0f7a4 {l : Launch} {ct : List (Nat × List Bool)} {n pc : Nat} {L : ax_Lc} {st : List Value} {σ : ax_Sg} {P : Option Value → ax_Sg → Prop} (h : ax_bk tb_J6_bitCount_0f7a4 ct (fun pc L st σ => Ev l 173 pc L st σ P) (fun a L σ Q => Ev l a 0 L [] σ Q) P none n pc L st σ) : Ev l 173 pc L st σ P := ax_blk (m0 := mi_J6_bitCount_0f7a4) (t := tb_J6_bitCount_0f7a4) hm_J6_bitCount_0f7a4 ck_J6_bitCount_0f7a4 h
set_option maxRecDepth 20000 in
theorem b_J6_bitCount_0f7a4_0 {l : Launch} {σ : ax_Sg} {P : Option Value → ax_Sg → Prop} (x0 : Int32) (h : P (some (.int ((((((((x0 - (((Int32.toUInt32 x0 >>> (Int32.toUInt32 1 &&& Int32.toUInt32 31)).toInt32) &&& 1431655765)) &&& 858993459) + (((Int32.toUInt32 (x0 - (((Int32.toUInt32 x0 >>> (Int32.toUInt32 1 &&& Int32.toUInt32 31)).toInt32) &&& 1431655765)) >>> (Int32.toUInt32 2 &&& Int32.toUInt32 31)).toInt32) &&& 858993459)) + ((Int32.toUInt32 (((x0 - (((Int32.toUInt32 x0 >>> (Int32.toUInt32 1 &&& Int32.toUInt32 31)).toInt32) &&& 1431655765)) &&& 858993459) + (((Int32.toUInt32 (x0 - (((Int32.toUInt32 x0 >>> (Int32.toUInt32 1 &&& Int32.toUInt32 31)).toInt32) &&& 1431655765)) >>> (Int32.toUInt32 2 &&& Int32.toUInt32 31)).toInt32) &&& 858993459)) >>> (Int32.toUInt32 4 &&& Int32.toUInt32 31)).toInt32)) &&& 252645135) + ((Int32.toUInt32 (((((x0 - (((Int32.toUInt32 x0 >>> (Int32.toUInt32 1 &&& Int32.toUInt32 31)).toInt32) &&& 1431655765)) &&& 858993459) + (((Int32.toUInt32 (x0 - (((Int32.toUInt32 x0 >>> (Int32.toUInt32 1 &&& Int32.toUInt32 31)).toInt32) &&& 1431655765)) >>> (Int32.toUInt32 2 &&& Int32.toUInt32 31)).toInt32) &&& 858993459)) + ((Int32.toUInt32 (((x0 - (((Int32.toUInt32 x0 >>> (Int32.toUInt32 1 &&& Int32.toUInt32 31)).toInt32) &&& 1431655765)) &&& 858993459) + (((Int32.toUInt32 (x0 - (((Int32.toUInt32 x0 >>> (Int32.toUInt32 1 &&& Int32.toUInt32 31)).toInt32) &&& 1431655765)) >>> (Int32.toUInt32 2 &&& Int32.toUInt32 31)).toInt32) &&& 858993459)) >>> (Int32.toUInt32 4 &&& Int32.toUInt32 31)).toInt32)) &&& 252645135) >>> (Int32.toUInt32 8 &&& Int32.toUInt32 31)).toInt32)) + ((Int32.toUInt32 ((((((x0 - (((Int32.toUInt32 x0 >>> (Int32.toUInt32 1 &&& Int32.toUInt32 31)).toInt32) &&& 1431655765)) &&& 858993459) + (((Int32.toUInt32 (x0 - (((Int32.toUInt32 x0 >>> (Int32.toUInt32 1 &&& Int32.toUInt32 31)).toInt32) &&& 1431655765)) >>> (Int32.toUInt32 2 &&& Int32.toUInt32 31)).toInt32) &&& 858993459)) + ((Int32.toUInt32 (((x0 - (((Int32.toUInt32 x0 >>> (Int32.toUInt32 1 &&& Int32.toUInt32 31)).toInt32) &&& 1431655765)) &&& 858993459) + (((Int32.toUInt32 (x0 - (((Int32.toUInt32 x0 >>> (Int32.toUInt32 1 &&& Int32.toUInt32 31)).toInt32) &&& 1431655765)) >>> (Int32.toUInt32 2 &&& Int32.toUInt32 31)).toInt32) &&& 858993459)) >>> (Int32.toUInt32 4 &&& Int32.toUInt32 31)).toInt32)) &&& 252645135) + ((Int32.toUInt32 (((((x0 - (((Int32.toUInt32 x0 >>> (Int32.toUInt32 1 &&& Int32.toUInt32 31)).toInt32) &&& 1431655765)) &&& 858993459) + (((Int32.toUInt32 (x0 - (((Int32.toUInt32 x0 >>> (Int32.toUInt32 1 &&& Int32.toUInt32 31)).toInt32) &&& 1431655765)) >>> (Int32.toUInt32 2 &&& Int32.toUInt32 31)).toInt32) &&& 858993459)) + ((Int32.toUInt32 (((x0 - (((Int32.toUInt32 x0 >>> (Int32.toUInt32 1 &&& Int32.toUInt32 31)).toInt32) &&& 1431655765)) &&& 858993459) + (((Int32.toUInt32 (x0 - (((Int32.toUInt32 x0 >>> (Int32.toUInt32 1 &&& Int32.toUInt32 31)).toInt32) &&& 1431655765)) >>> (Int32.toUInt32 2 &&& Int32.toUInt32 31)).toInt32) &&& 858993459)) >>> (Int32.toUInt32 4 &&& Int32.toUInt32 31)).toInt32)) &&& 252645135) >>> (Int32.toUInt32 8 &&& Int32.toUInt32 31)).toInt32)) >>> (Int32.toUInt32 16 &&& Int32.toUInt32 31)).toInt32)) &&& 63))) σ) : Ev l 173 0 [some (.int x0)] [] σ P := bl_J6_bitCount_0f7a4 (ct := ct_J6_bitCount_0f7a4) (n := 43) h
def ct_X2_placeHour : List (Nat × List Bool) := [(5, [true, true, true, true, false, false, false]), (18, [true, true, true, true, true, true, false])]
theorem hm_X2_placeHour : ax_m 24 = mi_X2_placeHour := rfl
theorem bl_X2_placeHour {l : Launch} {ct : List (Nat × List Bool)} {n pc : Nat} {L : ax_Lc} {st : List Value} {σ : ax_Sg} {P : Option Value → ax_Sg → Prop} (h : ax_bk tb_X2_placeHour ct (fun pc L st σ => Ev l 24 pc L st σ P) (fun a L σ Q => Ev l a 0 L [] σ Q) P none n pc L st σ) : Ev l 24 pc L st σ P := ax_blk (m0 := mi_X2_placeHour) (t := tb_X2_placeHour) hm_X2_placeHour ck_X2_placeHour h
set_option maxRecDepth 20000 in
theorem b_X2_placeHour_0 {l : Launch} {σ : ax_Sg} {P : Option Value → ax_Sg → Prop} (x1 : Int32) (x2 : Int32) (h : Ev l 19 0 [some (.ref 10)] [] σ (fun o1 σ2 => ax_oi o1 (fun v3 => Ev l 24 5 [some (.ref 10), some (.int x1), some (.int x2), some (.int v3), none, none, none] [] σ2 P))) : Ev l 24 0 [some (.ref 10), some (.int x1), some (.int x2), none, none, none, none] [] σ P := bl_X2_placeHour (ct := ct_X2_placeHour) (n := 5) h
set_option maxRecDepth 20000 in
theorem b_X2_placeHour_5 {l : Launch} {σ : ax_Sg} {P : Option Value → ax_Sg → Prop} (x1 : Int32) (x2 : Int32) (x3 : Int32) (h : ax_br (0 < x3) (Ev l 24 18 [some (.ref 10), some (.int x1), some (.int x2), some (.int x3), some (.int (x3 &&& x1)), some (.int (x3 &&& x1)), none] [] σ P) (P none σ)) : Ev l 24 5 [some (.ref 10), some (.int x1), some (.int x2), some (.int x3), none, none, none] [] σ P := bl_X2_placeHour (ct := ct_X2_placeHour) (n := 10) h
set_option maxRecDepth 20000 in
theorem b_X2_placeHour_18 {l : Launch} {σ : ax_Sg} {P : Option Value → ax_Sg → Prop} (x1 : Int32) (x2 : Int32) (x3 : Int32) (x4 : Int32) (x5 : Int32) (h : ax_br (0 < x5) ((vp_in (x3 ^^^ x5) 64 ∧ ax_br (σ 52 (Int32.toNatClampNeg (x3 ^^^ x5)) = 1073741824) (Ev l 24 18 [some (.ref 10), some (.int x1), some (.int x2), some (.int x3), some (.int x4), some (.int ((x5 - 1) &&& x4)), none] [] σ P) (Ev l 173 0 [some (.int x5)] [] σ (fun o1 σ2 => ax_oi o1 (fun v3 => ax_br (x2 < v3) (Ev l 24 18 [some (.ref 10), some (.int x1), some (.int x2), some (.int x3), some (.int x4), some (.int ((x5 - 1) &&& x4)), none] [] σ2 P) ((vp_in x3 64 ∧ (vp_in x5 64 ∧ Ev l 176 0 [some (.int (σ2 52 (Int32.toNatClampNeg x3))), some (.int ((σ 52 (Int32.toNatClampNeg (x3 ^^^ x5))) + (σ2 53 (Int32.toNatClampNeg x5))))] [] σ2 (fun o4 σ5 => ax_oi o4 (fun v6 => (vp_in x3 64 ∧ Ev l 24 18 [some (.ref 10), some (.int x1), some (.int x2), some (.int x3), some (.int x4), some (.int ((x5 - 1) &&& x4)), none] [] (ax_us σ5 52 (Int32.toNatClampNeg x3) v6) P))))))))))) (Ev l 24 5 [some (.ref 10), some (.int x1), some (.int x2), some (.int (x3 + (-1))), none, none, none] [] σ P)) : Ev l 24 18 [some (.ref 10), some (.int x1), some (.int x2), some (.int x3), some (.int x4), some (.int x5), none] [] σ P := bl_X2_placeHour (ct := ct_X2_placeHour) (n := 40) h
def ct_X0_ofAllWards : List (Nat × List Bool) := [(4, [true, true, true, true])]
theorem hm_X0_ofAllWards : ax_m 3 = mi_X0_ofAllWards := rfl
theorem bl_X0_ofAllWards {l : Launch} {ct : List (Nat × List Bool)} {n pc : Nat} {L : ax_Lc} {st : List Value} {σ : ax_Sg} {P : Option Value → ax_Sg → Prop} (h : ax_bk tb_X0_ofAllWards ct (fun pc L st σ => Ev l 3 pc L st σ P) (fun a L σ Q => Ev l a 0 L [] σ Q) P none n pc L st σ) : Ev l 3 pc L st σ P := ax_blk (m0 := mi_X0_ofAllWards) (t := tb_X0_ofAllWards) hm_X0_ofAllWards ck_X0_ofAllWards h
set_option maxRecDepth 20000 in
theorem b_X0_ofAllWards_0 {l : Launch} {σ : ax_Sg} {P : Option Value → ax_Sg → Prop} (x1 : Int32) (h : Ev l 3 4 [some (.ref 5), some (.int x1), some (.int 0), some (.int 0)] [] σ P) : Ev l 3 0 [some (.ref 5), some (.int x1), none, none] [] σ P := bl_X0_ofAllWards (ct := ct_X0_ofAllWards) (n := 6) h
set_option maxRecDepth 20000 in
theorem b_X0_ofAllWards_4 {l : Launch} {σ : ax_Sg} {P : Option Value → ax_Sg → Prop} (x1 : Int32) (x2 : Int32) (x3 : Int32) (h : ax_br (x3 < 5) (Ev l 1 0 [some (.ref 5), some (.int x1), some (.int x3)] [] σ (fun o1 σ2 => ax_oi o1 (fun v3 => Ev l 3 4 [some (.ref 5), some (.int x1), some (.int (x2 + v3)), some (.int (x3 + 1))] [] σ2 P))) (P (some (.int x2)) σ)) : Ev l 3 4 [some (.ref 5), some (.int x1), some (.int x2), some (.int x3)] [] σ P := bl_X0_ofAllWards (ct := ct_X0_ofAllWards) (n := 14) h
def ct_X2_lowestBit : List (Nat × List Bool) := []
theorem hm_X2_lowestBit : ax_m 20 = mi_X2_lowestBit := rfl
theorem bl_X2_lowestBit {l : Launch} {ct : List (Nat × List Bool)} {n pc : Nat} {L : ax_Lc} {st : List Value} {σ : ax_Sg} {P : Option Value → ax_Sg → Prop} (h : ax_bk tb_X2_lowestBit ct (fun pc L st σ => Ev l 20 pc L st σ P) (fun a L σ Q => Ev l a 0 L [] σ Q) P none n pc L st σ) : Ev l 20 pc L st σ P := ax_blk (m0 := mi_X2_lowestBit) (t := tb_X2_lowestBit) hm_X2_lowestBit ck_X2_lowestBit h
set_option maxRecDepth 20000 in
theorem b_X2_lowestBit_0 {l : Launch} {σ : ax_Sg} {P : Option Value → ax_Sg → Prop} (x0 : Int32) (h : P (some (.int (3 * (5 - x0)))) σ) : Ev l 20 0 [some (.int x0)] [] σ P := bl_X2_lowestBit (ct := ct_X2_lowestBit) (n := 7) h
def ct_X2_rateHour : List (Nat × List Bool) := [(24, [true, true, true, true, false, false]), (41, [true, true, true, true, true, true])]
theorem hm_X2_rateHour : ax_m 23 = mi_X2_rateHour := rfl
theorem bl_X2_rateHour {l : Launch} {ct : List (Nat × List Bool)} {n pc : Nat} {L : ax_Lc} {st : List Value} {σ : ax_Sg} {P : Option Value → ax_Sg → Prop} (h : ax_bk tb_X2_rateHour ct (fun pc L st σ => Ev l 23 pc L st σ P) (fun a L σ Q => Ev l a 0 L [] σ Q) P none n pc L st σ) : Ev l 23 pc L st σ P := ax_blk (m0 := mi_X2_rateHour) (t := tb_X2_rateHour) hm_X2_rateHour ck_X2_rateHour h
set_option maxRecDepth 20000 in
theorem b_X2_rateHour_0 {l : Launch} {σ : ax_Sg} {P : Option Value → ax_Sg → Prop} (x1 : Int32) (h : Ev l 3 0 [some (.ref 5), some (.int (12 + x1)), none, none] [] σ (fun o1 σ2 => ax_oi o1 (fun v3 => (vp_in 0 64 ∧ Ev l 23 24 [some (.ref 10), some (.int x1), some (.int (v3 <<< (18 &&& 31))), some (.int 0), none, none] [] (ax_us σ2 53 (Int32.toNatClampNeg 0) 0) P)))) : Ev l 23 0 [some (.ref 10), some (.int x1), none, none, none, none] [] σ P := bl_X2_rateHour (ct := ct_X2_rateHour) (n := 18) h
set_option maxRecDepth 20000 in
theorem b_X2_rateHour_24 {l : Launch} {σ : ax_Sg} {P : Option Value → ax_Sg → Prop} (x1 : Int32) (x2 : Int32) (x3 : Int32) (h : ax_br (x3 < σ 10 2) (Ev l 23 41 [some (.ref 10), some (.int x1), some (.int x2), some (.int x3), some (.int ((1 : Int32) <<< (x3 &&& 31))), some (.int ((1 : Int32) <<< (x3 &&& 31)))] [] σ P) (P none σ)) : Ev l 23 24 [some (.ref 10), some (.int x1), some (.int x2), some (.int x3), none, none] [] σ P := bl_X2_rateHour (ct := ct_X2_rateHour) (n := 12) h
set_option maxRecDepth 20000 in
theorem b_X2_rateHour_41 {l : Launch} {σ : ax_Sg} {P : Option Value → ax_Sg → Prop} (x1 : Int32) (x2 : Int32) (x3 : Int32) (x4 : Int32) (x5 : Int32) (h : ax_br (x5 < 2 * x4) ((vp_in (x5 - x4) 64 ∧ Ev l 20 0 [some (.int x3)] [] σ (fun o1 σ2 => ax_oi o1 (fun v3 => (vp_in x5 64 ∧ Ev l 23 41 [some (.ref 10), some (.int x1), some (.int x2), some (.int x3), some (.int x4), some (.int (x5 + 1))] [] (ax_us σ2 53 (Int32.toNatClampNeg x5) (((σ 53 (Int32.toNatClampNeg (x5 - x4))) + x2) + (x1 <<< (v3 &&& 31)))) P))))) (Ev l 23 24 [some (.ref 10), some (.int x1), some (.int x2), some (.int (x3 + 1)), none, none] [] σ P)) : Ev l 23 41 [some (.ref 10), some (.int x1), some (.int x2), some (.int x3), some (.int x4), some (.int x5)] [] σ P := bl_X2_rateHour (ct := ct_X2_rateHour) (n := 26) h
def ct_X2_takersOf : List (Nat × List Bool) := [(4, [true, true, true, true])]
theorem hm_X2_takersOf : ax_m 22 = mi_X2_takersOf := rfl
theorem bl_X2_takersOf {l : Launch} {ct : List (Nat × List Bool)} {n pc : Nat} {L : ax_Lc} {st : List Value} {σ : ax_Sg} {P : Option Value → ax_Sg → Prop} (h : ax_bk tb_X2_takersOf ct (fun pc L st σ => Ev l 22 pc L st σ P) (fun a L σ Q => Ev l a 0 L [] σ Q) P none n pc L st σ) : Ev l 22 pc L st σ P := ax_blk (m0 := mi_X2_takersOf) (t := tb_X2_takersOf) hm_X2_takersOf ck_X2_takersOf h
set_option maxRecDepth 20000 in
theorem b_X2_takersOf_0 {l : Launch} {σ : ax_Sg} {P : Option Value → ax_Sg → Prop} (x1 : Int32) (h : Ev l 22 4 [some (.ref 10), some (.int x1), some (.int 0), some (.int 0)] [] σ P) : Ev l 22 0 [some (.ref 10), some (.int x1), none, none] [] σ P := bl_X2_takersOf (ct := ct_X2_takersOf) (n := 6) h
set_option maxRecDepth 20000 in
theorem b_X2_takersOf_4 {l : Launch} {σ : ax_Sg} {P : Option Value → ax_Sg → Prop} (x1 : Int32) (x2 : Int32) (x3 : Int32) (h : ax_br (x3 < σ 10 2) ((vp_in x3 6 ∧ Ev l 22 4 [some (.ref 10), some (.int x1), some (.int (x2 ||| ((((σ 51 (Int32.toNatClampNeg x3)) >>> (x1 &&& 31)) &&& 1) <<< (x3 &&& 31)))), some (.int (x3 + 1))] [] σ P)) (P (some (.int x2)) σ)) : Ev l 22 4 [some (.ref 10), some (.int x1), some (.int x2), some (.int x3)] [] σ P := bl_X2_takersOf (ct := ct_X2_takersOf) (n := 21) h
def ct_X2_placeAll : List (Nat × List Bool) := [(2, [true, true, true]), (31, [true, true, true])]
theorem hm_X2_placeAll : ax_m 21 = mi_X2_placeAll := rfl
theorem bl_X2_placeAll {l : Launch} {ct : List (Nat × List Bool)} {n pc : Nat} {L : ax_Lc} {st : List Value} {σ : ax_Sg} {P : Option Value → ax_Sg → Prop} (h : ax_bk tb_X2_placeAll ct (fun pc L st σ => Ev l 21 pc L st σ P) (fun a L σ Q => Ev l a 0 L [] σ Q) P none n pc L st σ) : Ev l 21 pc L st σ P := ax_blk (m0 := mi_X2_placeAll) (t := tb_X2_placeAll) hm_X2_placeAll ck_X2_placeAll h
set_option maxRecDepth 20000 in
theorem b_X2_placeAll_0 {l : Launch} {σ : ax_Sg} {P : Option Value → ax_Sg → Prop} (x1 : Int32) (h : Ev l 21 2 [some (.ref 10), some (.int x1), some (.int 1)] [] σ P) : Ev l 21 0 [some (.ref 10), some (.int x1), none] [] σ P := bl_X2_placeAll (ct := ct_X2_placeAll) (n := 4) h
set_option maxRecDepth 20000 in
theorem b_X2_placeAll_2 {l : Launch} {σ : ax_Sg} {P : Option Value → ax_Sg → Prop} (x1 : Int32) (x2 : Int32) (h : ax_br (x2 < 64) ((vp_in x2 64 ∧ Ev l 21 2 [some (.ref 10), some (.int x1), some (.int (x2 + 1))] [] (ax_us σ 52 (Int32.toNatClampNeg x2) 1073741824) P)) ((vp_in 0 64 ∧ Ev l 21 31 [some (.ref 10), some (.int x1), some (.int 0)] [] (ax_us σ 52 (Int32.toNatClampNeg 0) 0) P))) : Ev l 21 2 [some (.ref 10), some (.int x1), some (.int x2)] [] σ P := bl_X2_placeAll (ct := ct_X2_placeAll) (n := 12) h
set_option maxRecDepth 20000 in
theorem b_X2_placeAll_31 {l : Launch} {σ : ax_Sg} {P : Option Value → ax_Sg → Prop} (x1 : Int32) (x2 : Int32) (h : ax_br (x2 < 8) (Ev l 23 0 [some (.ref 10), some (.int x2), none, none, none, none] [] σ (fun o1 σ2 => ax_ov o1 (Ev l 22 0 [some (.ref 10), some (.int x2), none, none] [] σ2 (fun o3 σ4 => ax_oi o3 (fun v5 => Ev l 24 0 [some (.ref 10), some (.int v5), some (.int x1), none, none, none, none] [] σ4 (fun o6 σ7 => ax_ov o6 (Ev l 21 31 [some (.ref 10), some (.int x1), some (.int (x2 + 1))] [] σ7 P))))))) (P none σ)) : Ev l 21 31 [some (.ref 10), some (.int x1), some (.int x2)] [] σ P := bl_X2_placeAll (ct := ct_X2_placeAll) (n := 16) h
def ct_X2_arrange : List (Nat × List Bool) := [(10, [true])]
theorem hm_X2_arrange : ax_m 16 = mi_X2_arrange := rfl
theorem bl_X2_arrange {l : Launch} {ct : List (Nat × List Bool)} {n pc : Nat} {L : ax_Lc} {st : List Value} {σ : ax_Sg} {P : Option Value → ax_Sg → Prop} (h : ax_bk tb_X2_arrange ct (fun pc L st σ => Ev l 16 pc L st σ P) (fun a L σ Q => Ev l a 0 L [] σ Q) P none n pc L st σ) : Ev l 16 pc L st σ P := ax_blk (m0 := mi_X2_arrange) (t := tb_X2_arrange) hm_X2_arrange ck_X2_arrange h
set_option maxRecDepth 20000 in
theorem b_X2_arrange_0 {l : Launch} {σ : ax_Sg} {P : Option Value → ax_Sg → Prop}  (h : Ev l 21 0 [some (.ref 10), some (.int 0), none] [] (ax_us σ 10 5 0) (fun o1 σ2 => ax_ov o1 (Ev l 16 10 [some (.ref 10)] [] σ2 P))) : Ev l 16 0 [some (.ref 10)] [] σ P := bl_X2_arrange (ct := ct_X2_arrange) (n := 8) h
set_option maxRecDepth 20000 in
theorem b_X2_arrange_10 {l : Launch} {σ : ax_Sg} {P : Option Value → ax_Sg → Prop}  (h : Ev l 19 0 [some (.ref 10)] [] σ (fun o1 σ2 => ax_oi o1 (fun v3 => (vp_in v3 64 ∧ ax_br (σ2 52 (Int32.toNatClampNeg v3) = 1073741824) (ax_br (σ2 10 5 < σ2 10 2) (Ev l 21 0 [some (.ref 10), some (.int ((σ2 10 5) + 1)), none] [] (ax_us σ2 10 5 ((σ2 10 5) + 1)) (fun o4 σ5 => ax_ov o4 (Ev l 16 10 [some (.ref 10)] [] σ5 P))) (P none σ2)) (P none σ2))))) : Ev l 16 10 [some (.ref 10)] [] σ P := bl_X2_arrange (ct := ct_X2_arrange) (n := 25) h
def ct_X2_asksTogether : List (Nat × List Bool) := []
theorem hm_X2_asksTogether : ax_m 17 = mi_X2_asksTogether := rfl
theorem bl_X2_asksTogether {l : Launch} {ct : List (Nat × List Bool)} {n pc : Nat} {L : ax_Lc} {st : List Value} {σ : ax_Sg} {P : Option Value → ax_Sg → Prop} (h : ax_bk tb_X2_asksTogether ct (fun pc L st σ => Ev l 17 pc L st σ P) (fun a L σ Q => Ev l a 0 L [] σ Q) P none n pc L st σ) : Ev l 17 pc L st σ P := ax_blk (m0 := mi_X2_asksTogether) (t := tb_X2_asksTogether) hm_X2_asksTogether ck_X2_asksTogether h
set_option maxRecDepth 20000 in
theorem b_X2_asksTogether_0 {l : Launch} {σ : ax_Sg} {P : Option Value → ax_Sg → Prop}  (h : Ev l 19 0 [some (.ref 10)] [] σ (fun o1 σ2 => ax_oi o1 (fun v3 => (vp_in v3 64 ∧ P (some (.int ((σ2 52 (Int32.toNatClampNeg v3)) >>> (18 &&& 31)))) σ2)))) : Ev l 17 0 [some (.ref 10)] [] σ P := bl_X2_asksTogether (ct := ct_X2_asksTogether) (n := 9) h
def ct_X2_hourOf : List (Nat × List Bool) := []
theorem hm_X2_hourOf : ax_m 18 = mi_X2_hourOf := rfl
theorem bl_X2_hourOf {l : Launch} {ct : List (Nat × List Bool)} {n pc : Nat} {L : ax_Lc} {st : List Value} {σ : ax_Sg} {P : Option Value → ax_Sg → Prop} (h : ax_bk tb_X2_hourOf ct (fun pc L st σ => Ev l 18 pc L st σ P) (fun a L σ Q => Ev l a 0 L [] σ Q) P none n pc L st σ) : Ev l 18 pc L st σ P := ax_blk (m0 := mi_X2_hourOf) (t := tb_X2_hourOf) hm_X2_hourOf ck_X2_hourOf h
set_option maxRecDepth 20000 in
theorem b_X2_hourOf_0 {l : Launch} {σ : ax_Sg} {P : Option Value → ax_Sg → Prop} (x1 : Int32) (h : Ev l 19 0 [some (.ref 10)] [] σ (fun o1 σ2 => ax_oi o1 (fun v3 => (vp_in v3 64 ∧ Ev l 20 0 [some (.int x1)] [] σ2 (fun o4 σ5 => ax_oi o4 (fun v6 => P (some (.int (12 + (((σ2 52 (Int32.toNatClampNeg v3)) >>> (v6 &&& 31)) &&& 7)))) σ5)))))) : Ev l 18 0 [some (.ref 10), some (.int x1)] [] σ P := bl_X2_hourOf (ct := ct_X2_hourOf) (n := 14) h
def ct_X10_spread : List (Nat × List Bool) := []
theorem hm_X10_spread : ax_m 97 = mi_X10_spread := rfl
theorem bl_X10_spread {l : Launch} {ct : List (Nat × List Bool)} {n pc : Nat} {L : ax_Lc} {st : List Value} {σ : ax_Sg} {P : Option Value → ax_Sg → Prop} (h : ax_bk tb_X10_spread ct (fun pc L st σ => Ev l 97 pc L st σ P) (fun a L σ Q => Ev l a 0 L [] σ Q) P none n pc L st σ) : Ev l 97 pc L st σ P := ax_blk (m0 := mi_X10_spread) (t := tb_X10_spread) hm_X10_spread ck_X10_spread h
set_option maxRecDepth 20000 in
theorem b_X10_spread_0 {l : Launch} {σ : ax_Sg} {P : Option Value → ax_Sg → Prop} (x1 : Int32) (h : Ev l 102 0 [some (.int x1), some (.int 0), some (.int ((σ 10 2) + 1))] [] σ (fun o1 σ2 => ax_oi o1 (fun v3 => ax_br (v3 = 0) (P (some (.int (-1))) σ2) (Ev l 16 0 [some (.ref 10)] [] σ2 (fun o4 σ5 => ax_ov o4 (((x1 = 0 → P (some (.int (σ5 10 5))) σ5) ∧ (¬ x1 = 0 → ((x1 = 1 → Ev l 17 0 [some (.ref 10)] [] σ5 (fun o6 σ7 => ax_oi o6 (fun v8 => P (some (.int v8)) σ7))) ∧ (¬ x1 = 1 → Ev l 18 0 [some (.ref 10), some (.int (x1 - 2))] [] σ5 (fun o9 σ10 => ax_oi o9 (fun v11 => P (some (.int v11)) σ10)))))))))))) : Ev l 97 0 [some (.ref 0), some (.int x1)] [] σ P := bl_X10_spread (ct := ct_X10_spread) (n := 22) h
def ct_X3_append : List (Nat × List Bool) := []
theorem hm_X3_append : ax_m 26 = mi_X3_append := rfl
theorem bl_X3_append {l : Launch} {ct : List (Nat × List Bool)} {n pc : Nat} {L : ax_Lc} {st : List Value} {σ : ax_Sg} {P : Option Value → ax_Sg → Prop} (h : ax_bk tb_X3_append ct (fun pc L st σ => Ev l 26 pc L st σ P) (fun a L σ Q => Ev l a 0 L [] σ Q) P none n pc L st σ) : Ev l 26 pc L st σ P := ax_blk (m0 := mi_X3_append) (t := tb_X3_append) hm_X3_append ck_X3_append h
set_option maxRecDepth 20000 in
theorem b_X3_append_0 {l : Launch} {σ : ax_Sg} {P : Option Value → ax_Sg → Prop} (x1 : Int32) (h : (vp_in (σ 11 1) 12 ∧ P (some (.int ((σ 11 1) + 1))) (ax_us (ax_us σ 54 (Int32.toNatClampNeg (σ 11 1)) x1) 11 1 ((σ 11 1) + 1)))) : Ev l 26 0 [some (.ref 11), some (.int x1)] [] σ P := bl_X3_append (ct := ct_X3_append) (n := 16) h
def ct_X3_placeOf : List (Nat × List Bool) := [(2, [true, true, true])]
theorem hm_X3_placeOf : ax_m 25 = mi_X3_placeOf := rfl
theorem bl_X3_placeOf {l : Launch} {ct : List (Nat × List Bool)} {n pc : Nat} {L : ax_Lc} {st : List Value} {σ : ax_Sg} {P : Option Value → ax_Sg → Prop} (h : ax_bk tb_X3_placeOf ct (fun pc L st σ => Ev l 25 pc L st σ P) (fun a L σ Q => Ev l a 0 L [] σ Q) P none n pc L st σ) : Ev l 25 pc L st σ P := ax_blk (m0 := mi_X3_placeOf) (t := tb_X3_placeOf) hm_X3_placeOf ck_X3_placeOf h
set_option maxRecDepth 20000 in
theorem b_X3_placeOf_0 {l : Launch} {σ : ax_Sg} {P : Option Value → ax_Sg → Prop} (x1 : Int32) (h : Ev l 25 2 [some (.ref 11), some (.int x1), some (.int 0)] [] σ P) : Ev l 25 0 [some (.ref 11), some (.int x1), none] [] σ P := bl_X3_placeOf (ct := ct_X3_placeOf) (n := 4) h
set_option maxRecDepth 20000 in
theorem b_X3_placeOf_2 {l : Launch} {σ : ax_Sg} {P : Option Value → ax_Sg → Prop} (x1 : Int32) (x2 : Int32) (h : ax_br (x2 < σ 11 1) ((vp_in x2 12 ∧ ax_br (σ 54 (Int32.toNatClampNeg x2) = x1) (P (some (.int x2)) σ) (Ev l 25 2 [some (.ref 11), some (.int x1), some (.int (x2 + 1))] [] σ P))) (P (some (.int (-1))) σ)) : Ev l 25 2 [some (.ref 11), some (.int x1), some (.int x2)] [] σ P := bl_X3_placeOf (ct := ct_X3_placeOf) (n := 14) h
def ct_X10_join : List (Nat × List Bool) := []
theorem hm_X10_join : ax_m 98 = mi_X10_join := rfl
theorem bl_X10_join {l : Launch} {ct : List (Nat × List Bool)} {n pc : Nat} {L : ax_Lc} {st : List Value} {σ : ax_Sg} {P : Option Value → ax_Sg → Prop} (h : ax_bk tb_X10_join ct (fun pc L st σ => Ev l 98 pc L st σ P) (fun a L σ Q => Ev l a 0 L [] σ Q) P none n pc L st σ) : Ev l 98 pc L st σ P := ax_blk (m0 := mi_X10_join) (t := tb_X10_join) hm_X10_join ck_X10_join h
set_option maxRecDepth 20000 in
theorem b_X10_join_0 {l : Launch} {σ : ax_Sg} {P : Option Value → ax_Sg → Prop} (x1 : Int32) (h : Ev l 41 0 [some (.ref 1), some (.int x1)] [] σ (fun o1 σ2 => ax_oi o1 (fun v3 => ax_br (v3 = 0) (P (some (.int (-1))) σ2) (Ev l 25 0 [some (.ref 11), some (.int x1), none] [] σ2 (fun o4 σ5 => ax_oi o4 (fun v6 => ax_br (v6 = (-1)) (Ev l 26 0 [some (.ref 11), some (.int x1)] [] σ5 (fun o7 σ8 => ax_oi o7 (fun v9 => P (some (.int v9)) σ8))) (P (some (.int (-3))) σ5))))))) : Ev l 98 0 [some (.ref 0), some (.int x1)] [] σ P := bl_X10_join (ct := ct_X10_join) (n := 17) h
def ct_X3_removeAt : List (Nat × List Bool) := [(4, [true, false, true])]
theorem hm_X3_removeAt : ax_m 27 = mi_X3_removeAt := rfl
theorem bl_X3_removeAt {l : Launch} {ct : List (Nat × List Bool)} {n pc : Nat} {L : ax_Lc} {st : List Value} {σ : ax_Sg} {P : Option Value → ax_Sg → Prop} (h : ax_bk tb_X3_removeAt ct (fun pc L st σ => Ev l 27 pc L st σ P) (fun a L σ Q => Ev l a 0 L [] σ Q) P none n pc L st σ) : Ev l 27 pc L st σ P := ax_blk (m0 := mi_X3_removeAt) (t := tb_X3_removeAt) hm_X3_removeAt ck_X3_removeAt h
set_option maxRecDepth 20000 in
theorem b_X3_removeAt_0 {l : Launch} {σ : ax_Sg} {P : Option Value → ax_Sg → Prop} (x1 : Int32) (h : Ev l 27 4 [some (.ref 11), none, some (.int (x1 + 1))] [] σ P) : Ev l 27 0 [some (.ref 11), some (.int x1), none] [] σ P := bl_X3_removeAt (ct := ct_X3_removeAt) (n := 6) h
set_option maxRecDepth 20000 in
theorem b_X3_removeAt_4 {l : Launch} {σ : ax_Sg} {P : Option Value → ax_Sg → Prop} (x2 : Int32) (h : ax_br (x2 < σ 11 1) ((vp_in x2 12 ∧ (vp_in (x2 - 1) 12 ∧ Ev l 27 4 [some (.ref 11), none, some (.int (x2 + 1))] [] (ax_us σ 54 (Int32.toNatClampNeg (x2 - 1)) (σ 54 (Int32.toNatClampNeg x2))) P))) (P none (ax_us σ 11 1 ((σ 11 1) - 1)))) : Ev l 27 4 [some (.ref 11), none, some (.int x2)] [] σ P := bl_X3_removeAt (ct := ct_X3_removeAt) (n := 18) h
def ct_X10_call : List (Nat × List Bool) := [(14, [true, true, true, false])]
theorem hm_X10_call : ax_m 99 = mi_X10_call := rfl
theorem bl_X10_call {l : Launch} {ct : List (Nat × List Bool)} {n pc : Nat} {L : ax_Lc} {st : List Value} {σ : ax_Sg} {P : Option Value → ax_Sg → Prop} (h : ax_bk tb_X10_call ct (fun pc L st σ => Ev l 99 pc L st σ P) (fun a L σ Q => Ev l a 0 L [] σ Q) P none n pc L st σ) : Ev l 99 pc L st σ P := ax_blk (m0 := mi_X10_call) (t := tb_X10_call) hm_X10_call ck_X10_call h
set_option maxRecDepth 20000 in
theorem b_X10_call_0 {l : Launch} {σ : ax_Sg} {P : Option Value → ax_Sg → Prop} (x1 : Int32) (h : Ev l 102 0 [some (.int x1), some (.int 0), some (.int 1)] [] σ (fun o1 σ2 => ax_oi o1 (fun v3 => ax_br (v3 = 0) (P (some (.int (-2))) σ2) (Ev l 99 14 [some (.ref 0), some (.int x1), some (.int 0), none] [] σ2 P)))) : Ev l 99 0 [some (.ref 0), some (.int x1), none, none] [] σ P := bl_X10_call (ct := ct_X10_call) (n := 9) h
set_option maxRecDepth 20000 in
theorem b_X10_call_14 {l : Launch} {σ : ax_Sg} {P : Option Value → ax_Sg → Prop} (x1 : Int32) (x2 : Int32) (h : ax_br (x2 < σ 11 1) ((vp_in x2 12 ∧ ax_br (x1 = 0) (Ev l 27 0 [some (.ref 11), some (.int x2), none] [] σ (fun o1 σ2 => ax_ov o1 (P (some (.int (σ 54 (Int32.toNatClampNeg x2)))) σ2))) ((vp_in (σ 54 (Int32.toNatClampNeg x2)) 12 ∧ ax_br (σ 14 (Int32.toNatClampNeg (σ 54 (Int32.toNatClampNeg x2))) = 2) (Ev l 27 0 [some (.ref 11), some (.int x2), none] [] σ (fun o3 σ4 => ax_ov o3 (P (some (.int (σ 54 (Int32.toNatClampNeg x2)))) σ4))) (Ev l 99 14 [some (.ref 0), some (.int x1), some (.int (x2 + 1)), none] [] σ P))))) (P (some (.int (-1))) σ)) : Ev l 99 14 [some (.ref 0), some (.int x1), some (.int x2), none] [] σ P := bl_X10_call (ct := ct_X10_call) (n := 27) h
def ct_X10_leave : List (Nat × List Bool) := []
theorem hm_X10_leave : ax_m 100 = mi_X10_leave := rfl
theorem bl_X10_leave {l : Launch} {ct : List (Nat × List Bool)} {n pc : Nat} {L : ax_Lc} {st : List Value} {σ : ax_Sg} {P : Option Value → ax_Sg → Prop} (h : ax_bk tb_X10_leave ct (fun pc L st σ => Ev l 100 pc L st σ P) (fun a L σ Q => Ev l a 0 L [] σ Q) P none n pc L st σ) : Ev l 100 pc L st σ P := ax_blk (m0 := mi_X10_leave) (t := tb_X10_leave) hm_X10_leave ck_X10_leave h
set_option maxRecDepth 20000 in
theorem b_X10_leave_0 {l : Launch} {σ : ax_Sg} {P : Option Value → ax_Sg → Prop} (x1 : Int32) (h : Ev l 41 0 [some (.ref 1), some (.int x1)] [] σ (fun o1 σ2 => ax_oi o1 (fun v3 => ax_br (v3 = 0) (P (some (.int (-1))) σ2) (Ev l 25 0 [some (.ref 11), some (.int x1), none] [] σ2 (fun o4 σ5 => ax_oi o4 (fun v6 => ax_br (v6 = (-1)) (P (some (.int (-3))) σ5) (Ev l 27 0 [some (.ref 11), some (.int v6), none] [] σ5 (fun o7 σ8 => ax_ov o7 (P (some (.int v6)) σ8))))))))) : Ev l 100 0 [some (.ref 0), some (.int x1), none] [] σ P := bl_X10_leave (ct := ct_X10_leave) (n := 20) h
def ct_X10_count : List (Nat × List Bool) := []
theorem hm_X10_count : ax_m 101 = mi_X10_count := rfl
theorem bl_X10_count {l : Launch} {ct : List (Nat × List Bool)} {n pc : Nat} {L : ax_Lc} {st : List Value} {σ : ax_Sg} {P : Option Value → ax_Sg → Prop} (h : ax_bk tb_X10_count ct (fun pc L st σ => Ev l 101 pc L st σ P) (fun a L σ Q => Ev l a 0 L [] σ Q) P none n pc L st σ) : Ev l 101 pc L st σ P := ax_blk (m0 := mi_X10_count) (t := tb_X10_count) hm_X10_count ck_X10_count h
set_option maxRecDepth 20000 in
theorem b_X10_count_0 {l : Launch} {σ : ax_Sg} {P : Option Value → ax_Sg → Prop} (x1 : Int32) (h : ((x1 = 0 → P (some (.int (σ 1 4))) σ) ∧ (¬ x1 = 0 → ((x1 = 1 → P (some (.int (σ 2 2))) σ) ∧ (¬ x1 = 1 → ((x1 = 2 → P (some (.int (σ 7 13))) σ) ∧ (¬ x1 = 2 → ((x1 = 3 → P (some (.int (σ 7 14))) σ) ∧ (¬ x1 = 3 → ((x1 = 4 → P (some (.int (σ 7 15))) σ) ∧ (¬ x1 = 4 → ((x1 = 5 → P (some (.int (σ 7 16))) σ) ∧ (¬ x1 = 5 → ((x1 = 6 → P (some (.int (σ 9 4))) σ) ∧ (¬ x1 = 6 → ((x1 = 7 → P (some (.int (σ 11 1))) σ) ∧ (¬ x1 = 7 → ((x1 = 8 → P (some (.int (σ 10 2))) σ) ∧ (¬ x1 = 8 → ((x1 = 9 → P (some (.int (σ 3 2))) σ) ∧ (¬ x1 = 9 → ((x1 = 10 → P (some (.int (σ 6 1))) σ) ∧ (¬ x1 = 10 → P (some (.int (-1))) σ))))))))))))))))))))))) : Ev l 101 0 [some (.ref 0), some (.int x1)] [] σ P := bl_X10_count (ct := ct_X10_count) (n := 7) h
end
section
/-! stretches of the reference, between cuts. Written by wip/whole/gen/gen_blocks.py -/
def ct_X11_isIn : List (Nat × List Bool) := []
theorem hm_X11_isIn : ax_m 108 = mi_X11_isIn := rfl
theorem bl_X11_isIn {l : Launch} {ct : List (Nat × List Bool)} {n pc : Nat} {L : ax_Lc} {st : List Value} {σ : ax_Sg} {P : Option Value → ax_Sg → Prop} (h : ax_bk tb_X11_isIn ct (fun pc L st σ => Ev l 108 pc L st σ P) (fun a L σ Q => Ev l a 0 L [] σ Q) P none n pc L st σ) : Ev l 108 pc L st σ P := ax_blk (m0 := mi_X11_isIn) (t := tb_X11_isIn) hm_X11_isIn ck_X11_isIn h
set_option maxRecDepth 20000 in
theorem b_X11_isIn_0 {l : Launch} {σ : ax_Sg} {P : Option Value → ax_Sg → Prop} (j0 : Int64) (j2 : Int64) (j4 : Int64) (h : ax_br (lg_cmp j0 j2 < 0) ((vp_nar .boolean 0 = 0 ∧ P (some (.int 0)) σ)) (ax_br (0 < lg_cmp j0 j4) ((vp_nar .boolean 0 = 0 ∧ P (some (.int 0)) σ)) ((vp_nar .boolean 1 = 1 ∧ P (some (.int 1)) σ)))) : Ev l 108 0 [some (.long j0), none, some (.long j2), none, some (.long j4), none] [] σ P := bl_X11_isIn (ct := ct_X11_isIn) (n := 12) h
def ct_X11_plate : List (Nat × List Bool) := []
theorem hm_X11_plate : ax_m 112 = mi_X11_plate := rfl
theorem bl_X11_plate {l : Launch} {ct : List (Nat × List Bool)} {n pc : Nat} {L : ax_Lc} {st : List Value} {σ : ax_Sg} {P : Option Value → ax_Sg → Prop} (h : ax_bk tb_X11_plate ct (fun pc L st σ => Ev l 112 pc L st σ P) (fun a L σ Q => Ev l a 0 L [] σ Q) P none n pc L st σ) : Ev l 112 pc L st σ P := ax_blk (m0 := mi_X11_plate) (t := tb_X11_plate) hm_X11_plate ck_X11_plate h
set_option maxRecDepth 20000 in
theorem b_X11_plate_0 {l : Launch} {σ : ax_Sg} {P : Option Value → ax_Sg → Prop} (x1 : Int32) (x2 : Int32) (x3 : Int32) (x4 : Int32) (h : Ev l 108 0 [some (.long (Int32.toInt64 x1)), none, some (.long 0), none, some (.long 3), none] [] σ (fun o1 σ2 => ax_oi o1 (fun v3 => ax_br (v3 = 0) (P (some (.int (-2))) σ2) (Ev l 108 0 [some (.long (Int32.toInt64 x2)), none, some (.long 0), none, some (.long 5), none] [] σ2 (fun o4 σ5 => ax_oi o4 (fun v6 => ax_br (v6 = 0) (P (some (.int (-2))) σ5) (Ev l 108 0 [some (.long (Int32.toInt64 x3)), none, some (.long 0), none, some (.long 9999), none] [] σ5 (fun o7 σ8 => ax_oi o7 (fun v9 => ax_br (v9 = 0) (P (some (.int (-2))) σ8) (Ev l 108 0 [some (.long (Int32.toInt64 x4)), none, some (.long 0), none, some (.long 9999), none] [] σ8 (fun o10 σ11 => ax_oi o10 (fun v12 => ax_br (v12 = 0) (P (some (.int (-2))) σ11) (ax_br (σ11 13 7 = 12) (P (some (.int (-4))) σ11) ((vp_in (σ11 13 7) 12 ∧ (vp_in (σ11 13 7) 12 ∧ (vp_in (σ11 13 7) 12 ∧ (vp_in (σ11 13 7) 12 ∧ (vp_in (σ11 13 7) 12 ∧ (vp_in (σ11 13 7) 12 ∧ (vp_in (24 + (σ11 13 7)) 88 ∧ P (some (.int (σ11 13 7))) (ax_us (ax_us (ax_us (ax_us (ax_us (ax_us (ax_us (ax_us σ11 58 (Int32.toNatClampNeg (σ11 13 7)) x1) 59 (Int32.toNatClampNeg (σ11 13 7)) x2) 60 (Int32.toNatClampNeg (σ11 13 7)) x3) 61 (Int32.toNatClampNeg (σ11 13 7)) x4) 63 (Int32.toNatClampNeg (σ11 13 7)) (-1)) 64 (Int32.toNatClampNeg (σ11 13 7)) (-1)) 65 (Int32.toNatClampNeg (24 + (σ11 13 7))) (-1)) 13 7 ((σ11 13 7) + 1))))))))))))))))))))))) : Ev l 112 0 [some (.ref 13), some (.int x1), some (.int x2), some (.int x3), some (.int x4), none] [] σ P := bl_X11_plate (ct := ct_X11_plate) (n := 77) h
def ct_X11_driver : List (Nat × List Bool) := []
theorem hm_X11_driver : ax_m 113 = mi_X11_driver := rfl
theorem bl_X11_driver {l : Launch} {ct : List (Nat × List Bool)} {n pc : Nat} {L : ax_Lc} {st : List Value} {σ : ax_Sg} {P : Option Value → ax_Sg → Prop} (h : ax_bk tb_X11_driver ct (fun pc L st σ => Ev l 113 pc L st σ P) (fun a L σ Q => Ev l a 0 L [] σ Q) P none n pc L st σ) : Ev l 113 pc L st σ P := ax_blk (m0 := mi_X11_driver) (t := tb_X11_driver) hm_X11_driver ck_X11_driver h
set_option maxRecDepth 20000 in
theorem b_X11_driver_0 {l : Launch} {σ : ax_Sg} {P : Option Value → ax_Sg → Prop} (x1 : Int32) (h : Ev l 108 0 [some (.long (Int32.toInt64 x1)), none, some (.long 0), none, some (.long 2), none] [] σ (fun o1 σ2 => ax_oi o1 (fun v3 => ax_br (v3 = 0) (P (some (.int (-2))) σ2) (ax_br (σ2 13 8 = 16) (P (some (.int (-4))) σ2) ((vp_in (σ2 13 8) 16 ∧ P (some (.int (((σ2 13 8) + 1) - 1))) (ax_us (ax_us σ2 62 (Int32.toNatClampNeg (σ2 13 8)) x1) 13 8 ((σ2 13 8) + 1)))))))) : Ev l 113 0 [some (.ref 13), some (.int x1)] [] σ P := bl_X11_driver (ct := ct_X11_driver) (n := 28) h
def ct_X11_driverOf : List (Nat × List Bool) := []
theorem hm_X11_driverOf : ax_m 115 = mi_X11_driverOf := rfl
theorem bl_X11_driverOf {l : Launch} {ct : List (Nat × List Bool)} {n pc : Nat} {L : ax_Lc} {st : List Value} {σ : ax_Sg} {P : Option Value → ax_Sg → Prop} (h : ax_bk tb_X11_driverOf ct (fun pc L st σ => Ev l 115 pc L st σ P) (fun a L σ Q => Ev l a 0 L [] σ Q) P none n pc L st σ) : Ev l 115 pc L st σ P := ax_blk (m0 := mi_X11_driverOf) (t := tb_X11_driverOf) hm_X11_driverOf ck_X11_driverOf h
set_option maxRecDepth 20000 in
theorem b_X11_driverOf_0 {l : Launch} {σ : ax_Sg} {P : Option Value → ax_Sg → Prop} (x1 : Int32) (x2 : Int32) (h : ax_br (x2 = 0) ((vp_in x1 12 ∧ P (some (.int (σ 63 (Int32.toNatClampNeg x1)))) σ)) ((vp_in x1 12 ∧ P (some (.int (σ 64 (Int32.toNatClampNeg x1)))) σ))) : Ev l 115 0 [some (.ref 13), some (.int x1), some (.int x2)] [] σ P := bl_X11_driverOf (ct := ct_X11_driverOf) (n := 9) h
def ct_X11_frees : List (Nat × List Bool) := [(2, [true, true, true])]
theorem hm_X11_frees : ax_m 114 = mi_X11_frees := rfl
theorem bl_X11_frees {l : Launch} {ct : List (Nat × List Bool)} {n pc : Nat} {L : ax_Lc} {st : List Value} {σ : ax_Sg} {P : Option Value → ax_Sg → Prop} (h : ax_bk tb_X11_frees ct (fun pc L st σ => Ev l 114 pc L st σ P) (fun a L σ Q => Ev l a 0 L [] σ Q) P none n pc L st σ) : Ev l 114 pc L st σ P := ax_blk (m0 := mi_X11_frees) (t := tb_X11_frees) hm_X11_frees ck_X11_frees h
set_option maxRecDepth 20000 in
theorem b_X11_frees_0 {l : Launch} {σ : ax_Sg} {P : Option Value → ax_Sg → Prop} (x1 : Int32) (h : Ev l 114 2 [some (.ref 13), some (.int x1), some (.int 0)] [] σ P) : Ev l 114 0 [some (.ref 13), some (.int x1), none] [] σ P := bl_X11_frees (ct := ct_X11_frees) (n := 4) h
set_option maxRecDepth 20000 in
theorem b_X11_frees_2 {l : Launch} {σ : ax_Sg} {P : Option Value → ax_Sg → Prop} (x1 : Int32) (x2 : Int32) (h : ax_br (x2 < σ 13 7) ((vp_in x2 12 ∧ ax_br (σ 63 (Int32.toNatClampNeg x2) = x1) ((vp_in x2 12 ∧ (vp_in x2 12 ∧ ax_br (σ 64 (Int32.toNatClampNeg x2) = x1) ((vp_in x2 12 ∧ Ev l 114 2 [some (.ref 13), some (.int x1), some (.int (x2 + 1))] [] (ax_us (ax_us σ 63 (Int32.toNatClampNeg x2) (-1)) 64 (Int32.toNatClampNeg x2) (-1)) P)) (Ev l 114 2 [some (.ref 13), some (.int x1), some (.int (x2 + 1))] [] (ax_us σ 63 (Int32.toNatClampNeg x2) (-1)) P)))) ((vp_in x2 12 ∧ ax_br (σ 64 (Int32.toNatClampNeg x2) = x1) ((vp_in x2 12 ∧ Ev l 114 2 [some (.ref 13), some (.int x1), some (.int (x2 + 1))] [] (ax_us σ 64 (Int32.toNatClampNeg x2) (-1)) P)) (Ev l 114 2 [some (.ref 13), some (.int x1), some (.int (x2 + 1))] [] σ P))))) (P none σ)) : Ev l 114 2 [some (.ref 13), some (.int x1), some (.int x2)] [] σ P := bl_X11_frees (ct := ct_X11_frees) (n := 30) h
def ct_X11_gives : List (Nat × List Bool) := []
theorem hm_X11_gives : ax_m 116 = mi_X11_gives := rfl
theorem bl_X11_gives {l : Launch} {ct : List (Nat × List Bool)} {n pc : Nat} {L : ax_Lc} {st : List Value} {σ : ax_Sg} {P : Option Value → ax_Sg → Prop} (h : ax_bk tb_X11_gives ct (fun pc L st σ => Ev l 116 pc L st σ P) (fun a L σ Q => Ev l a 0 L [] σ Q) P none n pc L st σ) : Ev l 116 pc L st σ P := ax_blk (m0 := mi_X11_gives) (t := tb_X11_gives) hm_X11_gives ck_X11_gives h
set_option maxRecDepth 20000 in
theorem b_X11_gives_0 {l : Launch} {σ : ax_Sg} {P : Option Value → ax_Sg → Prop} (x1 : Int32) (x2 : Int32) (x3 : Int32) (h : ax_br (x3 < 0) (ax_br (x2 = 0) ((vp_in x1 12 ∧ P none (ax_us σ 63 (Int32.toNatClampNeg x1) x3))) ((vp_in x1 12 ∧ P none (ax_us σ 64 (Int32.toNatClampNeg x1) x3)))) (Ev l 114 0 [some (.ref 13), some (.int x3), none] [] σ (fun o1 σ2 => ax_ov o1 (ax_br (x2 = 0) ((vp_in x1 12 ∧ P none (ax_us σ2 63 (Int32.toNatClampNeg x1) x3))) ((vp_in x1 12 ∧ P none (ax_us σ2 64 (Int32.toNatClampNeg x1) x3))))))) : Ev l 116 0 [some (.ref 13), some (.int x1), some (.int x2), some (.int x3)] [] σ P := bl_X11_gives (ct := ct_X11_gives) (n := 15) h
def ct_X11_isDriver : List (Nat × List Bool) := []
theorem hm_X11_isDriver : ax_m 110 = mi_X11_isDriver := rfl
theorem bl_X11_isDriver {l : Launch} {ct : List (Nat × List Bool)} {n pc : Nat} {L : ax_Lc} {st : List Value} {σ : ax_Sg} {P : Option Value → ax_Sg → Prop} (h : ax_bk tb_X11_isDriver ct (fun pc L st σ => Ev l 110 pc L st σ P) (fun a L σ Q => Ev l a 0 L [] σ Q) P none n pc L st σ) : Ev l 110 pc L st σ P := ax_blk (m0 := mi_X11_isDriver) (t := tb_X11_isDriver) hm_X11_isDriver ck_X11_isDriver h
set_option maxRecDepth 20000 in
theorem b_X11_isDriver_0 {l : Launch} {σ : ax_Sg} {P : Option Value → ax_Sg → Prop} (x1 : Int32) (h : ax_br (x1 < 0) ((vp_nar .boolean 0 = 0 ∧ P (some (.int 0)) σ)) (ax_br (x1 < σ 13 8) ((vp_nar .boolean 1 = 1 ∧ P (some (.int 1)) σ)) ((vp_nar .boolean 0 = 0 ∧ P (some (.int 0)) σ)))) : Ev l 110 0 [some (.ref 13), some (.int x1)] [] σ P := bl_X11_isDriver (ct := ct_X11_isDriver) (n := 10) h
def ct_X11_isPlate : List (Nat × List Bool) := []
theorem hm_X11_isPlate : ax_m 109 = mi_X11_isPlate := rfl
theorem bl_X11_isPlate {l : Launch} {ct : List (Nat × List Bool)} {n pc : Nat} {L : ax_Lc} {st : List Value} {σ : ax_Sg} {P : Option Value → ax_Sg → Prop} (h : ax_bk tb_X11_isPlate ct (fun pc L st σ => Ev l 109 pc L st σ P) (fun a L σ Q => Ev l a 0 L [] σ Q) P none n pc L st σ) : Ev l 109 pc L st σ P := ax_blk (m0 := mi_X11_isPlate) (t := tb_X11_isPlate) hm_X11_isPlate ck_X11_isPlate h
set_option maxRecDepth 20000 in
theorem b_X11_isPlate_0 {l : Launch} {σ : ax_Sg} {P : Option Value → ax_Sg → Prop} (x1 : Int32) (h : ax_br (x1 < 0) ((vp_nar .boolean 0 = 0 ∧ P (some (.int 0)) σ)) (ax_br (x1 < σ 13 7) ((vp_nar .boolean 1 = 1 ∧ P (some (.int 1)) σ)) ((vp_nar .boolean 0 = 0 ∧ P (some (.int 0)) σ)))) : Ev l 109 0 [some (.ref 13), some (.int x1)] [] σ P := bl_X11_isPlate (ct := ct_X11_isPlate) (n := 10) h
def ct_X11_drive : List (Nat × List Bool) := []
theorem hm_X11_drive : ax_m 117 = mi_X11_drive := rfl
theorem bl_X11_drive {l : Launch} {ct : List (Nat × List Bool)} {n pc : Nat} {L : ax_Lc} {st : List Value} {σ : ax_Sg} {P : Option Value → ax_Sg → Prop} (h : ax_bk tb_X11_drive ct (fun pc L st σ => Ev l 117 pc L st σ P) (fun a L σ Q => Ev l a 0 L [] σ Q) P none n pc L st σ) : Ev l 117 pc L st σ P := ax_blk (m0 := mi_X11_drive) (t := tb_X11_drive) hm_X11_drive ck_X11_drive h
set_option maxRecDepth 20000 in
theorem b_X11_drive_0 {l : Launch} {σ : ax_Sg} {P : Option Value → ax_Sg → Prop} (x1 : Int32) (x2 : Int32) (x3 : Int32) (h : Ev l 109 0 [some (.ref 13), some (.int x1)] [] σ (fun o1 σ2 => ax_oi o1 (fun v3 => ax_br (v3 = 0) (P (some (.int (-5))) σ2) (Ev l 108 0 [some (.long (Int32.toInt64 x2)), none, some (.long 0), none, some (.long 1), none] [] σ2 (fun o4 σ5 => ax_oi o4 (fun v6 => ax_br (v6 = 0) (P (some (.int (-5))) σ5) (ax_br (x3 = (-1)) (Ev l 115 0 [some (.ref 13), some (.int x1), some (.int x2)] [] σ5 (fun o7 σ8 => ax_oi o7 (fun v9 => Ev l 116 0 [some (.ref 13), some (.int x1), some (.int x2), some (.int x3)] [] σ8 (fun o10 σ11 => ax_ov o10 (P (some (.int v9)) σ11))))) (Ev l 110 0 [some (.ref 13), some (.int x3)] [] σ5 (fun o12 σ13 => ax_oi o12 (fun v14 => ax_br (v14 = 0) (P (some (.int (-5))) σ13) (Ev l 115 0 [some (.ref 13), some (.int x1), some (.int x2)] [] σ13 (fun o15 σ16 => ax_oi o15 (fun v17 => Ev l 116 0 [some (.ref 13), some (.int x1), some (.int x2), some (.int x3)] [] σ16 (fun o18 σ19 => ax_ov o18 (P (some (.int v17)) σ19))))))))))))))) : Ev l 117 0 [some (.ref 13), some (.int x1), some (.int x2), some (.int x3), none] [] σ P := bl_X11_drive (ct := ct_X11_drive) (n := 30) h
def ct_X11_about : List (Nat × List Bool) := []
theorem hm_X11_about : ax_m 118 = mi_X11_about := rfl
theorem bl_X11_about {l : Launch} {ct : List (Nat × List Bool)} {n pc : Nat} {L : ax_Lc} {st : List Value} {σ : ax_Sg} {P : Option Value → ax_Sg → Prop} (h : ax_bk tb_X11_about ct (fun pc L st σ => Ev l 118 pc L st σ P) (fun a L σ Q => Ev l a 0 L [] σ Q) P none n pc L st σ) : Ev l 118 pc L st σ P := ax_blk (m0 := mi_X11_about) (t := tb_X11_about) hm_X11_about ck_X11_about h
set_option maxRecDepth 20000 in
theorem b_X11_about_0 {l : Launch} {σ : ax_Sg} {P : Option Value → ax_Sg → Prop} (x1 : Int32) (x2 : Int32) (h : Ev l 109 0 [some (.ref 13), some (.int x1)] [] σ (fun o1 σ2 => ax_oi o1 (fun v3 => ax_br (v3 = 0) (P (some (.int (-1))) σ2) (((x2 = 0 → (vp_in x1 12 ∧ P (some (.int (σ2 58 (Int32.toNatClampNeg x1)))) σ2)) ∧ (¬ x2 = 0 → ((x2 = 1 → (vp_in x1 12 ∧ P (some (.int (σ2 59 (Int32.toNatClampNeg x1)))) σ2)) ∧ (¬ x2 = 1 → ((x2 = 2 → (vp_in x1 12 ∧ P (some (.int (σ2 63 (Int32.toNatClampNeg x1)))) σ2)) ∧ (¬ x2 = 2 → ((x2 = 3 → (vp_in x1 12 ∧ P (some (.int (σ2 64 (Int32.toNatClampNeg x1)))) σ2)) ∧ (¬ x2 = 3 → ((x2 = 4 → (vp_in x1 88 ∧ P (some (.int (σ2 65 (Int32.toNatClampNeg x1)))) σ2)) ∧ (¬ x2 = 4 → ((x2 = 5 → (vp_in (12 + x1) 88 ∧ P (some (.int (σ2 65 (Int32.toNatClampNeg (12 + x1))))) σ2)) ∧ (¬ x2 = 5 → ((x2 = 6 → (vp_in (24 + x1) 88 ∧ P (some (.int (σ2 65 (Int32.toNatClampNeg (24 + x1))))) σ2)) ∧ (¬ x2 = 6 → ((x2 = 7 → (vp_in x1 12 ∧ ax_br (σ2 58 (Int32.toNatClampNeg x1) = 1) ((vp_in x1 88 ∧ ax_br (σ2 65 (Int32.toNatClampNeg x1) < 5) ((vp_in x1 88 ∧ P (some (.int (5 - (σ2 65 (Int32.toNatClampNeg x1))))) σ2)) (P (some (.int 0)) σ2))) (P (some (.int 0)) σ2))) ∧ (¬ x2 = 7 → P (some (.int (-1))) σ2)))))))))))))))))))) : Ev l 118 0 [some (.ref 13), some (.int x1), some (.int x2)] [] σ P := bl_X11_about (ct := ct_X11_about) (n := 27) h
def ct_X11_driven : List (Nat × List Bool) := []
theorem hm_X11_driven : ax_m 119 = mi_X11_driven := rfl
theorem bl_X11_driven {l : Launch} {ct : List (Nat × List Bool)} {n pc : Nat} {L : ax_Lc} {st : List Value} {σ : ax_Sg} {P : Option Value → ax_Sg → Prop} (h : ax_bk tb_X11_driven ct (fun pc L st σ => Ev l 119 pc L st σ P) (fun a L σ Q => Ev l a 0 L [] σ Q) P none n pc L st σ) : Ev l 119 pc L st σ P := ax_blk (m0 := mi_X11_driven) (t := tb_X11_driven) hm_X11_driven ck_X11_driven h
set_option maxRecDepth 20000 in
theorem b_X11_driven_0 {l : Launch} {σ : ax_Sg} {P : Option Value → ax_Sg → Prop} (x1 : Int32) (x2 : Int32) (h : Ev l 110 0 [some (.ref 13), some (.int x1)] [] σ (fun o1 σ2 => ax_oi o1 (fun v3 => ax_br (v3 = 0) (P (some (.int (-1))) σ2) (((x2 = 0 → (vp_in x1 16 ∧ P (some (.int (σ2 62 (Int32.toNatClampNeg x1)))) σ2)) ∧ (¬ x2 = 0 → ((x2 = 1 → (vp_in (36 + x1) 88 ∧ P (some (.int (σ2 65 (Int32.toNatClampNeg (36 + x1))))) σ2)) ∧ (¬ x2 = 1 → ((x2 = 2 → (vp_in (52 + x1) 88 ∧ P (some (.int (σ2 65 (Int32.toNatClampNeg (52 + x1))))) σ2)) ∧ (¬ x2 = 2 → P (some (.int (-1))) σ2)))))))))) : Ev l 119 0 [some (.ref 13), some (.int x1), some (.int x2)] [] σ P := bl_X11_driven (ct := ct_X11_driven) (n := 14) h
def ct_X11_drives : List (Nat × List Bool) := [(4, [true, true, true, true])]
theorem hm_X11_drives : ax_m 120 = mi_X11_drives := rfl
theorem bl_X11_drives {l : Launch} {ct : List (Nat × List Bool)} {n pc : Nat} {L : ax_Lc} {st : List Value} {σ : ax_Sg} {P : Option Value → ax_Sg → Prop} (h : ax_bk tb_X11_drives ct (fun pc L st σ => Ev l 120 pc L st σ P) (fun a L σ Q => Ev l a 0 L [] σ Q) P none n pc L st σ) : Ev l 120 pc L st σ P := ax_blk (m0 := mi_X11_drives) (t := tb_X11_drives) hm_X11_drives ck_X11_drives h
set_option maxRecDepth 20000 in
theorem b_X11_drives_0 {l : Launch} {σ : ax_Sg} {P : Option Value → ax_Sg → Prop} (x1 : Int32) (h : Ev l 120 4 [some (.ref 13), some (.int x1), some (.int 0), some (.int 0)] [] σ P) : Ev l 120 0 [some (.ref 13), some (.int x1), none, none] [] σ P := bl_X11_drives (ct := ct_X11_drives) (n := 6) h
set_option maxRecDepth 20000 in
theorem b_X11_drives_4 {l : Launch} {σ : ax_Sg} {P : Option Value → ax_Sg → Prop} (x1 : Int32) (x2 : Int32) (x3 : Int32) (h : ax_br (x3 < σ 13 7) (ax_br (x2 = 0) ((vp_in x3 12 ∧ ax_br (σ 63 (Int32.toNatClampNeg x3) = x1) (Ev l 120 4 [some (.ref 13), some (.int x1), some (.int 1), some (.int (x3 + 1))] [] σ P) ((vp_in x3 12 ∧ ax_br (σ 64 (Int32.toNatClampNeg x3) = x1) (Ev l 120 4 [some (.ref 13), some (.int x1), some (.int 1), some (.int (x3 + 1))] [] σ P) (Ev l 120 4 [some (.ref 13), some (.int x1), some (.int 0), some (.int (x3 + 1))] [] σ P))))) (Ev l 120 4 [some (.ref 13), some (.int x1), some (.int 1), some (.int (x3 + 1))] [] σ P)) ((vp_nar .boolean x2 = x2 ∧ P (some (.int x2)) σ))) : Ev l 120 4 [some (.ref 13), some (.int x1), some (.int x2), some (.int x3)] [] σ P := bl_X11_drives (ct := ct_X11_drives) (n := 25) h
def ct_X11_worthOf : List (Nat × List Bool) := []
theorem hm_X11_worthOf : ax_m 121 = mi_X11_worthOf := rfl
theorem bl_X11_worthOf {l : Launch} {ct : List (Nat × List Bool)} {n pc : Nat} {L : ax_Lc} {st : List Value} {σ : ax_Sg} {P : Option Value → ax_Sg → Prop} (h : ax_bk tb_X11_worthOf ct (fun pc L st σ => Ev l 121 pc L st σ P) (fun a L σ Q => Ev l a 0 L [] σ Q) P none n pc L st σ) : Ev l 121 pc L st σ P := ax_blk (m0 := mi_X11_worthOf) (t := tb_X11_worthOf) hm_X11_worthOf ck_X11_worthOf h
set_option maxRecDepth 20000 in
theorem b_X11_worthOf_0 {l : Launch} {σ : ax_Sg} {P : Option Value → ax_Sg → Prop} (x1 : Int32) (x2 : Int32) (h : (vp_in x2 10 ∧ (vp_in (σ 74 (Int32.toNatClampNeg x2)) 16 ∧ ax_br (σ 62 (Int32.toNatClampNeg (σ 74 (Int32.toNatClampNeg x2))) = 2) (P (some (.int 2)) σ) ((vp_in x2 10 ∧ (vp_in (σ 74 (Int32.toNatClampNeg x2)) 16 ∧ (vp_in x1 10 ∧ (¬ (2 : Int32) = 0 ∧ ax_br (σ 62 (Int32.toNatClampNeg (σ 74 (Int32.toNatClampNeg x2))) = (σ 73 (Int32.toNatClampNeg x1)) - (σ 73 (Int32.toNatClampNeg x1)) / 2 * 2) (P (some (.int 2)) σ) (P (some (.int 1)) σ))))))))) : Ev l 121 0 [some (.ref 13), some (.int x1), some (.int x2)] [] σ P := bl_X11_worthOf (ct := ct_X11_worthOf) (n := 27) h
def ct_X11_fill : List (Nat × List Bool) := [(12, [true, true, false, false, false, false, false]), (75, [true, true, false, false, false, false, false]), (141, [true, true, true, false, false, false, false]), (147, [true, true, true, true, false, false, false]), (183, [true, true, true, true, true, true, false]), (290, [true, false, true, true, false, false, false]), (301, [true, false, true, true, true, false, false])]
theorem hm_X11_fill : ax_m 122 = mi_X11_fill := rfl
theorem bl_X11_fill {l : Launch} {ct : List (Nat × List Bool)} {n pc : Nat} {L : ax_Lc} {st : List Value} {σ : ax_Sg} {P : Option Value → ax_Sg → Prop} (h : ax_bk tb_X11_fill ct (fun pc L st σ => Ev l 122 pc L st σ P) (fun a L σ Q => Ev l a 0 L [] σ Q) P none n pc L st σ) : Ev l 122 pc L st σ P := ax_blk (m0 := mi_X11_fill) (t := tb_X11_fill) hm_X11_fill ck_X11_fill h
set_option maxRecDepth 20000 in
theorem b_X11_fill_0 {l : Launch} {σ : ax_Sg} {P : Option Value → ax_Sg → Prop}  (h : Ev l 122 12 [some (.ref 13), some (.int 0), none, none, none, none, none] [] (ax_us (ax_us σ 13 25 0) 13 26 0) P) : Ev l 122 0 [some (.ref 13), none, none, none, none, none, none] [] σ P := bl_X11_fill (ct := ct_X11_fill) (n := 10) h
set_option maxRecDepth 20000 in
theorem b_X11_fill_12 {l : Launch} {σ : ax_Sg} {P : Option Value → ax_Sg → Prop} (x1 : Int32) (h : ax_br (x1 < 2 * (σ 13 7)) ((¬ (2 : Int32) = 0 ∧ (¬ (2 : Int32) = 0 ∧ Ev l 115 0 [some (.ref 13), some (.int (x1 / 2)), some (.int (x1 - x1 / 2 * 2))] [] σ (fun o1 σ2 => ax_oi o1 (fun v3 => ax_br (v3 < 0) (ax_br (σ2 13 25 = 10) (Ev l 122 12 [some (.ref 13), some (.int (x1 + 1)), none, none, none, none, none] [] σ2 P) ((vp_in (σ2 13 25) 10 ∧ Ev l 122 12 [some (.ref 13), some (.int (x1 + 1)), none, none, none, none, none] [] (ax_us (ax_us σ2 73 (Int32.toNatClampNeg (σ2 13 25)) x1) 13 25 ((σ2 13 25) + 1)) P))) (Ev l 122 12 [some (.ref 13), some (.int (x1 + 1)), none, none, none, none, none] [] σ2 P)))))) (Ev l 122 75 [some (.ref 13), some (.int 0), none, none, none, none, none] [] σ P)) : Ev l 122 12 [some (.ref 13), some (.int x1), none, none, none, none, none] [] σ P := bl_X11_fill (ct := ct_X11_fill) (n := 35) h
set_option maxRecDepth 20000 in
theorem b_X11_fill_75 {l : Launch} {σ : ax_Sg} {P : Option Value → ax_Sg → Prop} (x1 : Int32) (h : ax_br (x1 < σ 13 8) (Ev l 120 0 [some (.ref 13), some (.int x1), none, none] [] σ (fun o1 σ2 => ax_oi o1 (fun v3 => ax_br (v3 = 0) (ax_br (σ2 13 26 = 10) (Ev l 122 75 [some (.ref 13), some (.int (x1 + 1)), none, none, none, none, none] [] σ2 P) ((vp_in (σ2 13 26) 10 ∧ Ev l 122 75 [some (.ref 13), some (.int (x1 + 1)), none, none, none, none, none] [] (ax_us (ax_us σ2 74 (Int32.toNatClampNeg (σ2 13 26)) x1) 13 26 ((σ2 13 26) + 1)) P))) (Ev l 122 75 [some (.ref 13), some (.int (x1 + 1)), none, none, none, none, none] [] σ2 P)))) (Ev l 122 141 [some (.ref 13), some (.int ((1 : Int32) <<< ((σ 13 26) &&& 31))), some (.int (σ 13 25)), none, none, none, none] [] σ P)) : Ev l 122 75 [some (.ref 13), some (.int x1), none, none, none, none, none] [] σ P := bl_X11_fill (ct := ct_X11_fill) (n := 28) h
set_option maxRecDepth 20000 in
theorem b_X11_fill_141 {l : Launch} {σ : ax_Sg} {P : Option Value → ax_Sg → Prop} (x1 : Int32) (x2 : Int32) (h : ax_br (x2 < 0) (Ev l 122 290 [some (.ref 13), none, some (.int 0), some (.int 0), none, none, none] [] σ P) (Ev l 122 147 [some (.ref 13), some (.int x1), some (.int x2), some (.int 0), none, none, none] [] σ P)) : Ev l 122 141 [some (.ref 13), some (.int x1), some (.int x2), none, none, none, none] [] σ P := bl_X11_fill (ct := ct_X11_fill) (n := 8) h
set_option maxRecDepth 20000 in
theorem b_X11_fill_290 {l : Launch} {σ : ax_Sg} {P : Option Value → ax_Sg → Prop} (x2 : Int32) (x3 : Int32) (h : ax_br (x3 < σ 13 25) (Ev l 122 301 [some (.ref 13), none, some (.int x2), some (.int x3), some (.int 0), none, none] [] σ P) ((vp_in 0 11264 ∧ P (some (.int (σ 75 (Int32.toNatClampNeg 0)))) σ))) : Ev l 122 290 [some (.ref 13), none, some (.int x2), some (.int x3), none, none, none] [] σ P := bl_X11_fill (ct := ct_X11_fill) (n := 10) h
set_option maxRecDepth 20000 in
theorem b_X11_fill_147 {l : Launch} {σ : ax_Sg} {P : Option Value → ax_Sg → Prop} (x1 : Int32) (x2 : Int32) (x3 : Int32) (h : ax_br (x3 < x1) (ax_br (x2 = σ 13 25) (Ev l 122 183 [some (.ref 13), some (.int x1), some (.int x2), some (.int x3), some (.int 0), some (.int 0), none] [] σ P) ((vp_in ((1024 * (x2 + 1)) + x3) 11264 ∧ Ev l 122 183 [some (.ref 13), some (.int x1), some (.int x2), some (.int x3), some (.int (σ 75 (Int32.toNatClampNeg ((1024 * (x2 + 1)) + x3)))), some (.int 0), none] [] σ P))) (Ev l 122 141 [some (.ref 13), some (.int x1), some (.int (x2 + (-1))), none, none, none, none] [] σ P)) : Ev l 122 147 [some (.ref 13), some (.int x1), some (.int x2), some (.int x3), none, none, none] [] σ P := bl_X11_fill (ct := ct_X11_fill) (n := 22) h
set_option maxRecDepth 20000 in
theorem b_X11_fill_301 {l : Launch} {σ : ax_Sg} {P : Option Value → ax_Sg → Prop} (x2 : Int32) (x3 : Int32) (x4 : Int32) (h : ax_br (x4 < σ 13 26) (ax_br ((x2 >>> (x4 &&& 31)) &&& 1 = 1) (Ev l 122 301 [some (.ref 13), none, some (.int x2), some (.int x3), some (.int (x4 + 1)), none, none] [] σ P) (Ev l 121 0 [some (.ref 13), some (.int x3), some (.int x4)] [] σ (fun o1 σ2 => ax_oi o1 (fun v3 => (vp_in ((1024 * (x3 + 1)) + (x2 ||| ((1 : Int32) <<< (x4 &&& 31)))) 11264 ∧ (vp_in ((1024 * x3) + x2) 11264 ∧ ax_br (v3 + (σ2 75 (Int32.toNatClampNeg ((1024 * (x3 + 1)) + (x2 ||| ((1 : Int32) <<< (x4 &&& 31)))))) = σ2 75 (Int32.toNatClampNeg ((1024 * x3) + x2))) (ax_br (x4 = σ2 13 26) (Ev l 122 290 [some (.ref 13), none, some (.int x2), some (.int (x3 + 1)), none, none, none] [] σ2 P) ((vp_in x3 10 ∧ (¬ (2 : Int32) = 0 ∧ (vp_in x3 10 ∧ (¬ (2 : Int32) = 0 ∧ (vp_in x4 10 ∧ Ev l 116 0 [some (.ref 13), some (.int ((σ2 73 (Int32.toNatClampNeg x3)) / 2)), some (.int ((σ2 73 (Int32.toNatClampNeg x3)) - (σ2 73 (Int32.toNatClampNeg x3)) / 2 * 2)), some (.int (σ2 74 (Int32.toNatClampNeg x4)))] [] σ2 (fun o4 σ5 => ax_ov o4 (Ev l 122 290 [some (.ref 13), none, some (.int (x2 ||| ((1 : Int32) <<< (x4 &&& 31)))), some (.int (x3 + 1)), none, none, none] [] σ5 P))))))))) (Ev l 122 301 [some (.ref 13), none, some (.int x2), some (.int x3), some (.int (x4 + 1)), none, none] [] σ2 P))))))) (ax_br (x4 = σ 13 26) (Ev l 122 290 [some (.ref 13), none, some (.int x2), some (.int (x3 + 1)), none, none, none] [] σ P) ((vp_in x3 10 ∧ (¬ (2 : Int32) = 0 ∧ (vp_in x3 10 ∧ (¬ (2 : Int32) = 0 ∧ (vp_in x4 10 ∧ Ev l 116 0 [some (.ref 13), some (.int ((σ 73 (Int32.toNatClampNeg x3)) / 2)), some (.int ((σ 73 (Int32.toNatClampNeg x3)) - (σ 73 (Int32.toNatClampNeg x3)) / 2 * 2)), some (.int (σ 74 (Int32.toNatClampNeg x4)))] [] σ (fun o6 σ7 => ax_ov o6 (Ev l 122 290 [some (.ref 13), none, some (.int (x2 ||| ((1 : Int32) <<< (x4 &&& 31)))), some (.int (x3 + 1)), none, none, none] [] σ7 P)))))))))) : Ev l 122 301 [some (.ref 13), none, some (.int x2), some (.int x3), some (.int x4), none, none] [] σ P := bl_X11_fill (ct := ct_X11_fill) (n := 71) h
set_option maxRecDepth 20000 in
theorem b_X11_fill_183 {l : Launch} {σ : ax_Sg} {P : Option Value → ax_Sg → Prop} (x1 : Int32) (x2 : Int32) (x3 : Int32) (x4 : Int32) (x5 : Int32) (h : ax_br (x5 < σ 13 26) (ax_br (x2 < σ 13 25) (ax_br ((x3 >>> (x5 &&& 31)) &&& 1 = 1) (ax_br (x4 < (0 : Int32)) (Ev l 122 183 [some (.ref 13), some (.int x1), some (.int x2), some (.int x3), some (.int 0), some (.int (x5 + 1)), none] [] σ P) (Ev l 122 183 [some (.ref 13), some (.int x1), some (.int x2), some (.int x3), some (.int x4), some (.int (x5 + 1)), none] [] σ P)) (Ev l 121 0 [some (.ref 13), some (.int x2), some (.int x5)] [] σ (fun o1 σ2 => ax_oi o1 (fun v3 => (vp_in ((1024 * (x2 + 1)) + (x3 ||| ((1 : Int32) <<< (x5 &&& 31)))) 11264 ∧ ax_br (x4 < v3 + (σ2 75 (Int32.toNatClampNeg ((1024 * (x2 + 1)) + (x3 ||| ((1 : Int32) <<< (x5 &&& 31))))))) (Ev l 122 183 [some (.ref 13), some (.int x1), some (.int x2), some (.int x3), some (.int (v3 + (σ2 75 (Int32.toNatClampNeg ((1024 * (x2 + 1)) + (x3 ||| ((1 : Int32) <<< (x5 &&& 31)))))))), some (.int (x5 + 1)), none] [] σ2 P) (Ev l 122 183 [some (.ref 13), some (.int x1), some (.int x2), some (.int x3), some (.int x4), some (.int (x5 + 1)), none] [] σ2 P)))))) ((vp_in ((1024 * x2) + x3) 11264 ∧ Ev l 122 147 [some (.ref 13), some (.int x1), some (.int x2), some (.int (x3 + 1)), none, none, none] [] (ax_us σ 75 (Int32.toNatClampNeg ((1024 * x2) + x3)) x4) P))) ((vp_in ((1024 * x2) + x3) 11264 ∧ Ev l 122 147 [some (.ref 13), some (.int x1), some (.int x2), some (.int (x3 + 1)), none, none, none] [] (ax_us σ 75 (Int32.toNatClampNeg ((1024 * x2) + x3)) x4) P))) : Ev l 122 183 [some (.ref 13), some (.int x1), some (.int x2), some (.int x3), some (.int x4), some (.int x5), none] [] σ P := bl_X11_fill (ct := ct_X11_fill) (n := 44) h
def ct_X11_feed : List (Nat × List Bool) := [(34, [true, true, false, false, true])]
theorem hm_X11_feed : ax_m 123 = mi_X11_feed := rfl
theorem bl_X11_feed {l : Launch} {ct : List (Nat × List Bool)} {n pc : Nat} {L : ax_Lc} {st : List Value} {σ : ax_Sg} {P : Option Value → ax_Sg → Prop} (h : ax_bk tb_X11_feed ct (fun pc L st σ => Ev l 123 pc L st σ P) (fun a L σ Q => Ev l a 0 L [] σ Q) P none n pc L st σ) : Ev l 123 pc L st σ P := ax_blk (m0 := mi_X11_feed) (t := tb_X11_feed) hm_X11_feed ck_X11_feed h
set_option maxRecDepth 20000 in
theorem b_X11_feed_0 {l : Launch} {σ : ax_Sg} {P : Option Value → ax_Sg → Prop} (j1 : Int64) (x3 : Int32) (h : Ev l 108 0 [some (.long (Int32.toInt64 x3)), none, some (.long 1), none, some (.long 8), none] [] σ (fun o1 σ2 => ax_oi o1 (fun v3 => ax_br (v3 = 0) (P (some (.int (-2))) σ2) (ax_br (120 < (σ2 13 34) + x3) (P (some (.int (-4))) σ2) (Ev l 123 34 [some (.ref 13), some (.long j1), none, none, some (.int (x3 - 1))] [] σ2 P))))) : Ev l 123 0 [some (.ref 13), some (.long j1), none, some (.int x3), none] [] σ P := bl_X11_feed (ct := ct_X11_feed) (n := 18) h
set_option maxRecDepth 20000 in
theorem b_X11_feed_34 {l : Launch} {σ : ax_Sg} {P : Option Value → ax_Sg → Prop} (j1 : Int64) (x4 : Int32) (h : ax_br (x4 < 0) (P (some (.int (σ 13 34))) σ) ((vp_in (σ 13 34) 120 ∧ Ev l 123 34 [some (.ref 13), some (.long j1), none, none, some (.int (x4 + (-1)))] [] (ax_us (ax_us σ 76 (Int32.toNatClampNeg (σ 13 34)) (Int64.toInt32 ((j1 >>> (Int32.toInt64 (8 * x4) &&& 63)) &&& 255))) 13 34 ((σ 13 34) + 1)) P))) : Ev l 123 34 [some (.ref 13), some (.long j1), none, none, some (.int x4)] [] σ P := bl_X11_feed (ct := ct_X11_feed) (n := 25) h
def ct_X11_isDigit : List (Nat × List Bool) := []
theorem hm_X11_isDigit : ax_m 127 = mi_X11_isDigit := rfl
theorem bl_X11_isDigit {l : Launch} {ct : List (Nat × List Bool)} {n pc : Nat} {L : ax_Lc} {st : List Value} {σ : ax_Sg} {P : Option Value → ax_Sg → Prop} (h : ax_bk tb_X11_isDigit ct (fun pc L st σ => Ev l 127 pc L st σ P) (fun a L σ Q => Ev l a 0 L [] σ Q) P none n pc L st σ) : Ev l 127 pc L st σ P := ax_blk (m0 := mi_X11_isDigit) (t := tb_X11_isDigit) hm_X11_isDigit ck_X11_isDigit h
set_option maxRecDepth 20000 in
theorem b_X11_isDigit_0 {l : Launch} {σ : ax_Sg} {P : Option Value → ax_Sg → Prop} (x0 : Int32) (h : ax_br (x0 < 48) ((vp_nar .boolean 0 = 0 ∧ P (some (.int 0)) σ)) (ax_br (57 < x0) ((vp_nar .boolean 0 = 0 ∧ P (some (.int 0)) σ)) ((vp_nar .boolean 1 = 1 ∧ P (some (.int 1)) σ)))) : Ev l 127 0 [some (.int x0)] [] σ P := bl_X11_isDigit (ct := ct_X11_isDigit) (n := 10) h
def ct_X11_sign : List (Nat × List Bool) := []
theorem hm_X11_sign : ax_m 124 = mi_X11_sign := rfl
theorem bl_X11_sign {l : Launch} {ct : List (Nat × List Bool)} {n pc : Nat} {L : ax_Lc} {st : List Value} {σ : ax_Sg} {P : Option Value → ax_Sg → Prop} (h : ax_bk tb_X11_sign ct (fun pc L st σ => Ev l 124 pc L st σ P) (fun a L σ Q => Ev l a 0 L [] σ Q) P none n pc L st σ) : Ev l 124 pc L st σ P := ax_blk (m0 := mi_X11_sign) (t := tb_X11_sign) hm_X11_sign ck_X11_sign h
set_option maxRecDepth 20000 in
theorem b_X11_sign_0 {l : Launch} {σ : ax_Sg} {P : Option Value → ax_Sg → Prop}  (h : ax_br (σ 13 36 < σ 13 34) ((vp_in (σ 13 36) 120 ∧ P (some (.int (σ 76 (Int32.toNatClampNeg (σ 13 36))))) σ)) (P (some (.int (-1))) σ)) : Ev l 124 0 [some (.ref 13)] [] σ P := bl_X11_sign (ct := ct_X11_sign) (n := 13) h
def ct_X11_takes : List (Nat × List Bool) := []
theorem hm_X11_takes : ax_m 128 = mi_X11_takes := rfl
theorem bl_X11_takes {l : Launch} {ct : List (Nat × List Bool)} {n pc : Nat} {L : ax_Lc} {st : List Value} {σ : ax_Sg} {P : Option Value → ax_Sg → Prop} (h : ax_bk tb_X11_takes ct (fun pc L st σ => Ev l 128 pc L st σ P) (fun a L σ Q => Ev l a 0 L [] σ Q) P none n pc L st σ) : Ev l 128 pc L st σ P := ax_blk (m0 := mi_X11_takes) (t := tb_X11_takes) hm_X11_takes ck_X11_takes h
set_option maxRecDepth 20000 in
theorem b_X11_takes_0 {l : Launch} {σ : ax_Sg} {P : Option Value → ax_Sg → Prop} (x1 : Int32) (h : Ev l 124 0 [some (.ref 13)] [] σ (fun o1 σ2 => ax_oi o1 (fun v3 => ax_br (v3 = x1) ((vp_nar .boolean 1 = 1 ∧ P (some (.int 1)) (ax_us σ2 13 36 ((σ2 13 36) + 1)))) ((vp_nar .boolean 0 = 0 ∧ P (some (.int 0)) σ2))))) : Ev l 128 0 [some (.ref 13), some (.int x1)] [] σ P := bl_X11_takes (ct := ct_X11_takes) (n := 13) h
def ct_X11_signOf : List (Nat × List Bool) := []
theorem hm_X11_signOf : ax_m 125 = mi_X11_signOf := rfl
theorem bl_X11_signOf {l : Launch} {ct : List (Nat × List Bool)} {n pc : Nat} {L : ax_Lc} {st : List Value} {σ : ax_Sg} {P : Option Value → ax_Sg → Prop} (h : ax_bk tb_X11_signOf ct (fun pc L st σ => Ev l 125 pc L st σ P) (fun a L σ Q => Ev l a 0 L [] σ Q) P none n pc L st σ) : Ev l 125 pc L st σ P := ax_blk (m0 := mi_X11_signOf) (t := tb_X11_signOf) hm_X11_signOf ck_X11_signOf h
set_option maxRecDepth 20000 in
theorem b_X11_signOf_0 {l : Launch} {σ : ax_Sg} {P : Option Value → ax_Sg → Prop} (x0 : Int32) (x1 : Int32) (h : ((x0 = 0 → ax_br (x1 = 0) (P (some (.int 98)) σ) (ax_br (x1 = 1) (P (some (.int 97)) σ) (ax_br (x1 = 2) (P (some (.int 115)) σ) (ax_br (x1 = 3) (P (some (.int 101)) σ) (P (some (.int 0)) σ))))) ∧ (¬ x0 = 0 → ((x0 = 1 → ax_br (x1 = 0) (P (some (.int 115)) σ) (ax_br (x1 = 1) (P (some (.int 116)) σ) (ax_br (x1 = 2) (P (some (.int 101)) σ) (ax_br (x1 = 3) (P (some (.int 112)) σ) (P (some (.int 0)) σ))))) ∧ (¬ x0 = 1 → ((x0 = 2 → ax_br (x1 = 0) (P (some (.int 110)) σ) (ax_br (x1 = 1) (P (some (.int 105)) σ) (ax_br (x1 = 2) (P (some (.int 103)) σ) (ax_br (x1 = 3) (P (some (.int 104)) σ) (ax_br (x1 = 4) (P (some (.int 116)) σ) (P (some (.int 0)) σ)))))) ∧ (¬ x0 = 2 → ((x0 = 3 → ax_br (x1 = 0) (P (some (.int 119)) σ) (ax_br (x1 = 1) (P (some (.int 97)) σ) (ax_br (x1 = 2) (P (some (.int 114)) σ) (ax_br (x1 = 3) (P (some (.int 100)) σ) (P (some (.int 0)) σ))))) ∧ (¬ x0 = 3 → ((x0 = 4 → ax_br (x1 = 0) (P (some (.int 119)) σ) (ax_br (x1 = 1) (P (some (.int 97)) σ) (ax_br (x1 = 2) (P (some (.int 105)) σ) (ax_br (x1 = 3) (P (some (.int 116)) σ) (P (some (.int 0)) σ))))) ∧ (¬ x0 = 4 → ax_br (x1 = 0) (P (some (.int 99)) σ) (ax_br (x1 = 1) (P (some (.int 97)) σ) (ax_br (x1 = 2) (P (some (.int 112)) σ) (P (some (.int 0)) σ)))))))))))))) : Ev l 125 0 [some (.int x0), some (.int x1)] [] σ P := bl_X11_signOf (ct := ct_X11_signOf) (n := 20) h
def ct_X11_word : List (Nat × List Bool) := [(5, [true, true, true, false, false]), (10, [true, true, true, true, true])]
theorem hm_X11_word : ax_m 126 = mi_X11_word := rfl
theorem bl_X11_word {l : Launch} {ct : List (Nat × List Bool)} {n pc : Nat} {L : ax_Lc} {st : List Value} {σ : ax_Sg} {P : Option Value → ax_Sg → Prop} (h : ax_bk tb_X11_word ct (fun pc L st σ => Ev l 126 pc L st σ P) (fun a L σ Q => Ev l a 0 L [] σ Q) P none n pc L st σ) : Ev l 126 pc L st σ P := ax_blk (m0 := mi_X11_word) (t := tb_X11_word) hm_X11_word ck_X11_word h
set_option maxRecDepth 20000 in
theorem b_X11_word_0 {l : Launch} {σ : ax_Sg} {P : Option Value → ax_Sg → Prop}  (h : Ev l 126 5 [some (.ref 13), some (.int 63), some (.int 0), none, none] [] σ P) : Ev l 126 0 [some (.ref 13), none, none, none, none] [] σ P := bl_X11_word (ct := ct_X11_word) (n := 6) h
set_option maxRecDepth 20000 in
theorem b_X11_word_5 {l : Launch} {σ : ax_Sg} {P : Option Value → ax_Sg → Prop} (x1 : Int32) (x2 : Int32) (h : Ev l 126 10 [some (.ref 13), some (.int x1), some (.int x2), some (.int 0), some (.int 0)] [] σ P) : Ev l 126 5 [some (.ref 13), some (.int x1), some (.int x2), none, none] [] σ P := bl_X11_word (ct := ct_X11_word) (n := 6) h
set_option maxRecDepth 20000 in
theorem b_X11_word_10 {l : Launch} {σ : ax_Sg} {P : Option Value → ax_Sg → Prop} (x1 : Int32) (x2 : Int32) (x3 : Int32) (x4 : Int32) (h : ax_br (x4 < 6) (ax_br ((x1 >>> (x4 &&& 31)) &&& 1 = 0) (Ev l 126 10 [some (.ref 13), some (.int x1), some (.int x2), some (.int x3), some (.int (x4 + 1))] [] σ P) (ax_br (0 < x2) (Ev l 125 0 [some (.int x4), some (.int x2)] [] σ (fun o1 σ2 => ax_oi o1 (fun v3 => ax_br (v3 = 0) (P (some (.int x4)) σ2) (Ev l 125 0 [some (.int x4), some (.int x2)] [] σ2 (fun o4 σ5 => ax_oi o4 (fun v6 => Ev l 124 0 [some (.ref 13)] [] σ5 (fun o7 σ8 => ax_oi o7 (fun v9 => ax_br (v6 = v9) (Ev l 126 10 [some (.ref 13), some (.int x1), some (.int x2), some (.int (x3 ||| ((1 : Int32) <<< (x4 &&& 31)))), some (.int (x4 + 1))] [] σ8 P) (Ev l 126 10 [some (.ref 13), some (.int x1), some (.int x2), some (.int x3), some (.int (x4 + 1))] [] σ8 P))))))))) (Ev l 125 0 [some (.int x4), some (.int x2)] [] σ (fun o10 σ11 => ax_oi o10 (fun v12 => Ev l 124 0 [some (.ref 13)] [] σ11 (fun o13 σ14 => ax_oi o13 (fun v15 => ax_br (v12 = v15) (Ev l 126 10 [some (.ref 13), some (.int x1), some (.int x2), some (.int (x3 ||| ((1 : Int32) <<< (x4 &&& 31)))), some (.int (x4 + 1))] [] σ14 P) (Ev l 126 10 [some (.ref 13), some (.int x1), some (.int x2), some (.int x3), some (.int (x4 + 1))] [] σ14 P)))))))) (ax_br (x3 = 0) (P (some (.int (-1))) σ) (Ev l 126 5 [some (.ref 13), some (.int x3), some (.int (x2 + 1)), none, none] [] (ax_us σ 13 36 ((σ 13 36) + 1)) P))) : Ev l 126 10 [some (.ref 13), some (.int x1), some (.int x2), some (.int x3), some (.int x4)] [] σ P := bl_X11_word (ct := ct_X11_word) (n := 31) h
def ct_X11_clause : List (Nat × List Bool) := [(109, [true, true, false, true, true])]
theorem hm_X11_clause : ax_m 129 = mi_X11_clause := rfl
theorem bl_X11_clause {l : Launch} {ct : List (Nat × List Bool)} {n pc : Nat} {L : ax_Lc} {st : List Value} {σ : ax_Sg} {P : Option Value → ax_Sg → Prop} (h : ax_bk tb_X11_clause ct (fun pc L st σ => Ev l 129 pc L st σ P) (fun a L σ Q => Ev l a 0 L [] σ Q) P none n pc L st σ) : Ev l 129 pc L st σ P := ax_blk (m0 := mi_X11_clause) (t := tb_X11_clause) hm_X11_clause ck_X11_clause h
set_option maxRecDepth 20000 in
theorem b_X11_clause_0 {l : Launch} {σ : ax_Sg} {P : Option Value → ax_Sg → Prop} (x1 : Int32) (h : Ev l 126 0 [some (.ref 13), none, none, none, none] [] σ (fun o1 σ2 => ax_oi o1 (fun v3 => ax_br (v3 < 0) ((vp_nar .boolean 0 = 0 ∧ P (some (.int 0)) σ2)) (Ev l 128 0 [some (.ref 13), some (.int 32)] [] σ2 (fun o4 σ5 => ax_oi o4 (fun v6 => ax_br (v6 = 0) ((vp_nar .boolean 0 = 0 ∧ P (some (.int 0)) σ5)) ((vp_in x1 6 ∧ (vp_in x1 6 ∧ ax_br (v3 = 3) (Ev l 124 0 [some (.ref 13)] [] (ax_us (ax_us σ5 80 (Int32.toNatClampNeg x1) v3) 81 (Int32.toNatClampNeg x1) 0) (fun o7 σ8 => ax_oi o7 (fun v9 => Ev l 108 0 [some (.long (Int32.toInt64 v9)), none, some (.long 48), none, some (.long 52), none] [] σ8 (fun o10 σ11 => ax_oi o10 (fun v12 => ax_br (v12 = 0) ((vp_nar .boolean 0 = 0 ∧ P (some (.int 0)) σ11)) (Ev l 124 0 [some (.ref 13)] [] σ11 (fun o13 σ14 => ax_oi o13 (fun v15 => (vp_in x1 6 ∧ Ev l 128 0 [some (.ref 13), some (.int 32)] [] (ax_us (ax_us σ14 81 (Int32.toNatClampNeg x1) (v15 - 48)) 13 36 ((σ14 13 36) + 1)) (fun o16 σ17 => ax_oi o16 (fun v18 => ax_br (v18 = 0) ((vp_nar .boolean 0 = 0 ∧ P (some (.int 0)) σ17)) (Ev l 124 0 [some (.ref 13)] [] σ17 (fun o19 σ20 => ax_oi o19 (fun v21 => Ev l 127 0 [some (.int v21)] [] σ20 (fun o22 σ23 => ax_oi o22 (fun v24 => ax_br (v24 = 0) ((vp_nar .boolean 0 = 0 ∧ P (some (.int 0)) σ23)) (Ev l 129 109 [some (.ref 13), some (.int x1), none, some (.int 0), some (.int 0)] [] σ23 P))))))))))))))))) (Ev l 124 0 [some (.ref 13)] [] (ax_us (ax_us σ5 80 (Int32.toNatClampNeg x1) v3) 81 (Int32.toNatClampNeg x1) 0) (fun o25 σ26 => ax_oi o25 (fun v27 => Ev l 127 0 [some (.int v27)] [] σ26 (fun o28 σ29 => ax_oi o28 (fun v30 => ax_br (v30 = 0) ((vp_nar .boolean 0 = 0 ∧ P (some (.int 0)) σ29)) (Ev l 129 109 [some (.ref 13), some (.int x1), none, some (.int 0), some (.int 0)] [] σ29 P))))))))))))))) : Ev l 129 0 [some (.ref 13), some (.int x1), none, none, none] [] σ P := bl_X11_clause (ct := ct_X11_clause) (n := 57) h
set_option maxRecDepth 20000 in
theorem b_X11_clause_109 {l : Launch} {σ : ax_Sg} {P : Option Value → ax_Sg → Prop} (x1 : Int32) (x3 : Int32) (x4 : Int32) (h : ax_br (x4 < 4) (Ev l 124 0 [some (.ref 13)] [] σ (fun o1 σ2 => ax_oi o1 (fun v3 => Ev l 127 0 [some (.int v3)] [] σ2 (fun o4 σ5 => ax_oi o4 (fun v6 => ax_br (v6 = 0) ((vp_in x1 6 ∧ (vp_nar .boolean 1 = 1 ∧ P (some (.int 1)) (ax_us σ5 82 (Int32.toNatClampNeg x1) x3)))) (Ev l 124 0 [some (.ref 13)] [] σ5 (fun o7 σ8 => ax_oi o7 (fun v9 => Ev l 129 109 [some (.ref 13), some (.int x1), none, some (.int (((10 * x3) + v9) - 48)), some (.int (x4 + 1))] [] (ax_us σ8 13 36 ((σ8 13 36) + 1)) P)))))))) ((vp_in x1 6 ∧ (vp_nar .boolean 1 = 1 ∧ P (some (.int 1)) (ax_us σ 82 (Int32.toNatClampNeg x1) x3))))) : Ev l 129 109 [some (.ref 13), some (.int x1), none, some (.int x3), some (.int x4)] [] σ P := bl_X11_clause (ct := ct_X11_clause) (n := 26) h
def ct_X11_parses : List (Nat × List Bool) := [(7, [true, true])]
theorem hm_X11_parses : ax_m 130 = mi_X11_parses := rfl
theorem bl_X11_parses {l : Launch} {ct : List (Nat × List Bool)} {n pc : Nat} {L : ax_Lc} {st : List Value} {σ : ax_Sg} {P : Option Value → ax_Sg → Prop} (h : ax_bk tb_X11_parses ct (fun pc L st σ => Ev l 130 pc L st σ P) (fun a L σ Q => Ev l a 0 L [] σ Q) P none n pc L st σ) : Ev l 130 pc L st σ P := ax_blk (m0 := mi_X11_parses) (t := tb_X11_parses) hm_X11_parses ck_X11_parses h
set_option maxRecDepth 20000 in
theorem b_X11_parses_0 {l : Launch} {σ : ax_Sg} {P : Option Value → ax_Sg → Prop}  (h : Ev l 130 7 [some (.ref 13), some (.int 0)] [] (ax_us σ 13 36 0) P) : Ev l 130 0 [some (.ref 13), none] [] σ P := bl_X11_parses (ct := ct_X11_parses) (n := 7) h
set_option maxRecDepth 20000 in
theorem b_X11_parses_7 {l : Launch} {σ : ax_Sg} {P : Option Value → ax_Sg → Prop} (x1 : Int32) (h : ax_br (x1 < 6) (Ev l 129 0 [some (.ref 13), some (.int x1), none, none, none] [] σ (fun o1 σ2 => ax_oi o1 (fun v3 => ax_br (v3 = 0) (P (some (.int 0)) σ2) (ax_br (σ2 13 36 = σ2 13 34) (P (some (.int (x1 + 1))) σ2) (ax_br (x1 = 5) (P (some (.int 0)) σ2) (Ev l 128 0 [some (.ref 13), some (.int 59)] [] σ2 (fun o4 σ5 => ax_oi o4 (fun v6 => ax_br (v6 = 0) (P (some (.int 0)) σ5) (Ev l 130 7 [some (.ref 13), some (.int (x1 + 1))] [] σ5 P))))))))) (P (some (.int 0)) σ)) : Ev l 130 7 [some (.ref 13), some (.int x1)] [] σ P := bl_X11_parses (ct := ct_X11_parses) (n := 23) h
end
section
/-! stretches of the reference, between cuts. Written by wip/whole/gen/gen_blocks.py -/
def ct_X11_law : List (Nat × List Bool) := [(29, [true, true, true])]
theorem hm_X11_law : ax_m 131 = mi_X11_law := rfl
theorem bl_X11_law {l : Launch} {ct : List (Nat × List Bool)} {n pc : Nat} {L : ax_Lc} {st : List Value} {σ : ax_Sg} {P : Option Value → ax_Sg → Prop} (h : ax_bk tb_X11_law ct (fun pc L st σ => Ev l 131 pc L st σ P) (fun a L σ Q => Ev l a 0 L [] σ Q) P none n pc L st σ) : Ev l 131 pc L st σ P := ax_blk (m0 := mi_X11_law) (t := tb_X11_law) hm_X11_law ck_X11_law h
set_option maxRecDepth 20000 in
theorem b_X11_law_0 {l : Launch} {σ : ax_Sg} {P : Option Value → ax_Sg → Prop}  (h : Ev l 130 0 [some (.ref 13), none] [] σ (fun o1 σ2 => ax_oi o1 (fun v3 => ax_br (v3 = 0) (P (some (.int ((-10) - (σ2 13 36)))) (ax_us σ2 13 34 0)) (Ev l 131 29 [some (.ref 13), some (.int v3), some (.int 0)] [] (ax_us (ax_us σ2 13 34 0) 13 35 v3) P)))) : Ev l 131 0 [some (.ref 13), none, none] [] σ P := bl_X11_law (ct := ct_X11_law) (n := 15) h
set_option maxRecDepth 20000 in
theorem b_X11_law_29 {l : Launch} {σ : ax_Sg} {P : Option Value → ax_Sg → Prop} (x1 : Int32) (x2 : Int32) (h : ax_br (x2 < x1) ((vp_in x2 6 ∧ (vp_in x2 6 ∧ (vp_in x2 6 ∧ (vp_in x2 6 ∧ (vp_in x2 6 ∧ (vp_in x2 6 ∧ Ev l 131 29 [some (.ref 13), some (.int x1), some (.int (x2 + 1))] [] (ax_us (ax_us (ax_us σ 77 (Int32.toNatClampNeg x2) (σ 80 (Int32.toNatClampNeg x2))) 78 (Int32.toNatClampNeg x2) (σ 81 (Int32.toNatClampNeg x2))) 79 (Int32.toNatClampNeg x2) (σ 82 (Int32.toNatClampNeg x2))) P))))))) (P (some (.int x1)) σ)) : Ev l 131 29 [some (.ref 13), some (.int x1), some (.int x2)] [] σ P := bl_X11_law (ct := ct_X11_law) (n := 31) h
def ct_X11_fareOf : List (Nat × List Bool) := [(10, [true, true, true, true, true, true, true, true, false])]
theorem hm_X11_fareOf : ax_m 132 = mi_X11_fareOf := rfl
theorem bl_X11_fareOf {l : Launch} {ct : List (Nat × List Bool)} {n pc : Nat} {L : ax_Lc} {st : List Value} {σ : ax_Sg} {P : Option Value → ax_Sg → Prop} (h : ax_bk tb_X11_fareOf ct (fun pc L st σ => Ev l 132 pc L st σ P) (fun a L σ Q => Ev l a 0 L [] σ Q) P none n pc L st σ) : Ev l 132 pc L st σ P := ax_blk (m0 := mi_X11_fareOf) (t := tb_X11_fareOf) hm_X11_fareOf ck_X11_fareOf h
set_option maxRecDepth 20000 in
theorem b_X11_fareOf_0 {l : Launch} {σ : ax_Sg} {P : Option Value → ax_Sg → Prop} (x1 : Int32) (x2 : Int32) (x3 : Int32) (x4 : Int32) (h : Ev l 132 10 [some (.ref 13), some (.int x1), some (.int x2), some (.int x3), some (.int x4), some (.int 0), some (.int 99999), some (.int 0), none] [] σ P) : Ev l 132 0 [some (.ref 13), some (.int x1), some (.int x2), some (.int x3), some (.int x4), none, none, none, none] [] σ P := bl_X11_fareOf (ct := ct_X11_fareOf) (n := 8) h
set_option maxRecDepth 20000 in
theorem b_X11_fareOf_10 {l : Launch} {σ : ax_Sg} {P : Option Value → ax_Sg → Prop} (x1 : Int32) (x2 : Int32) (x3 : Int32) (x4 : Int32) (x5 : Int32) (x6 : Int32) (x7 : Int32) (h : ax_br (x7 < σ 13 35) ((vp_in x7 6 ∧ (vp_in x7 6 ∧ ((σ 77 (Int32.toNatClampNeg x7) = 0 → Ev l 132 10 [some (.ref 13), some (.int x1), some (.int x2), some (.int x3), some (.int x4), some (.int (x5 + (σ 79 (Int32.toNatClampNeg x7)))), some (.int x6), some (.int (x7 + 1)), none] [] σ P) ∧ (¬ σ 77 (Int32.toNatClampNeg x7) = 0 → ((σ 77 (Int32.toNatClampNeg x7) = 1 → ax_br (x1 < x2) (Ev l 132 10 [some (.ref 13), some (.int x1), some (.int x2), some (.int x3), some (.int x4), some (.int (x5 + ((σ 79 (Int32.toNatClampNeg x7)) * (x2 - x1)))), some (.int x6), some (.int (x7 + 1)), none] [] σ P) (Ev l 132 10 [some (.ref 13), some (.int x1), some (.int x2), some (.int x3), some (.int x4), some (.int (x5 + ((σ 79 (Int32.toNatClampNeg x7)) * (x1 - x2)))), some (.int x6), some (.int (x7 + 1)), none] [] σ P)) ∧ (¬ σ 77 (Int32.toNatClampNeg x7) = 1 → ((σ 77 (Int32.toNatClampNeg x7) = 2 → ax_br (x3 < 6) (Ev l 132 10 [some (.ref 13), some (.int x1), some (.int x2), some (.int x3), some (.int x4), some (.int (x5 + (σ 79 (Int32.toNatClampNeg x7)))), some (.int x6), some (.int (x7 + 1)), none] [] σ P) (ax_br (19 < x3) (Ev l 132 10 [some (.ref 13), some (.int x1), some (.int x2), some (.int x3), some (.int x4), some (.int (x5 + (σ 79 (Int32.toNatClampNeg x7)))), some (.int x6), some (.int (x7 + 1)), none] [] σ P) (Ev l 132 10 [some (.ref 13), some (.int x1), some (.int x2), some (.int x3), some (.int x4), some (.int (x5 + 0)), some (.int x6), some (.int (x7 + 1)), none] [] σ P))) ∧ (¬ σ 77 (Int32.toNatClampNeg x7) = 2 → ((σ 77 (Int32.toNatClampNeg x7) = 3 → (vp_in x7 6 ∧ ax_br (x1 = σ 78 (Int32.toNatClampNeg x7)) (Ev l 132 10 [some (.ref 13), some (.int x1), some (.int x2), some (.int x3), some (.int x4), some (.int (x5 + (σ 79 (Int32.toNatClampNeg x7)))), some (.int x6), some (.int (x7 + 1)), none] [] σ P) ((vp_in x7 6 ∧ ax_br (x2 = σ 78 (Int32.toNatClampNeg x7)) (Ev l 132 10 [some (.ref 13), some (.int x1), some (.int x2), some (.int x3), some (.int x4), some (.int (x5 + (σ 79 (Int32.toNatClampNeg x7)))), some (.int x6), some (.int (x7 + 1)), none] [] σ P) (Ev l 132 10 [some (.ref 13), some (.int x1), some (.int x2), some (.int x3), some (.int x4), some (.int (x5 + 0)), some (.int x6), some (.int (x7 + 1)), none] [] σ P))))) ∧ (¬ σ 77 (Int32.toNatClampNeg x7) = 3 → ((σ 77 (Int32.toNatClampNeg x7) = 4 → Ev l 132 10 [some (.ref 13), some (.int x1), some (.int x2), some (.int x3), some (.int x4), some (.int (x5 + ((σ 79 (Int32.toNatClampNeg x7)) * x4))), some (.int x6), some (.int (x7 + 1)), none] [] σ P) ∧ (¬ σ 77 (Int32.toNatClampNeg x7) = 4 → ax_br (σ 79 (Int32.toNatClampNeg x7) < x6) (Ev l 132 10 [some (.ref 13), some (.int x1), some (.int x2), some (.int x3), some (.int x4), some (.int x5), some (.int (σ 79 (Int32.toNatClampNeg x7))), some (.int (x7 + 1)), none] [] σ P) (Ev l 132 10 [some (.ref 13), some (.int x1), some (.int x2), some (.int x3), some (.int x4), some (.int x5), some (.int x6), some (.int (x7 + 1)), none] [] σ P)))))))))))))) (ax_br (x6 < x5) (P (some (.int x6)) σ) (P (some (.int x5)) σ))) : Ev l 132 10 [some (.ref 13), some (.int x1), some (.int x2), some (.int x3), some (.int x4), some (.int x5), some (.int x6), some (.int x7), none] [] σ P := bl_X11_fareOf (ct := ct_X11_fareOf) (n := 36) h
def ct_X11_isWard : List (Nat × List Bool) := []
theorem hm_X11_isWard : ax_m 111 = mi_X11_isWard := rfl
theorem bl_X11_isWard {l : Launch} {ct : List (Nat × List Bool)} {n pc : Nat} {L : ax_Lc} {st : List Value} {σ : ax_Sg} {P : Option Value → ax_Sg → Prop} (h : ax_bk tb_X11_isWard ct (fun pc L st σ => Ev l 111 pc L st σ P) (fun a L σ Q => Ev l a 0 L [] σ Q) P none n pc L st σ) : Ev l 111 pc L st σ P := ax_blk (m0 := mi_X11_isWard) (t := tb_X11_isWard) hm_X11_isWard ck_X11_isWard h
set_option maxRecDepth 20000 in
theorem b_X11_isWard_0 {l : Launch} {σ : ax_Sg} {P : Option Value → ax_Sg → Prop} (x0 : Int32) (h : ax_br (x0 < 0) ((vp_nar .boolean 0 = 0 ∧ P (some (.int 0)) σ)) (ax_br (x0 < 5) ((vp_nar .boolean 1 = 1 ∧ P (some (.int 1)) σ)) ((vp_nar .boolean 0 = 0 ∧ P (some (.int 0)) σ)))) : Ev l 111 0 [some (.int x0)] [] σ P := bl_X11_isWard (ct := ct_X11_isWard) (n := 9) h
def ct_X11_fare : List (Nat × List Bool) := []
theorem hm_X11_fare : ax_m 133 = mi_X11_fare := rfl
theorem bl_X11_fare {l : Launch} {ct : List (Nat × List Bool)} {n pc : Nat} {L : ax_Lc} {st : List Value} {σ : ax_Sg} {P : Option Value → ax_Sg → Prop} (h : ax_bk tb_X11_fare ct (fun pc L st σ => Ev l 133 pc L st σ P) (fun a L σ Q => Ev l a 0 L [] σ Q) P none n pc L st σ) : Ev l 133 pc L st σ P := ax_blk (m0 := mi_X11_fare) (t := tb_X11_fare) hm_X11_fare ck_X11_fare h
set_option maxRecDepth 20000 in
theorem b_X11_fare_0 {l : Launch} {σ : ax_Sg} {P : Option Value → ax_Sg → Prop} (x1 : Int32) (x2 : Int32) (x3 : Int32) (x4 : Int32) (h : Ev l 111 0 [some (.int x1)] [] σ (fun o1 σ2 => ax_oi o1 (fun v3 => ax_br (v3 = 0) (P (some (.int (-1))) σ2) (Ev l 111 0 [some (.int x2)] [] σ2 (fun o4 σ5 => ax_oi o4 (fun v6 => ax_br (v6 = 0) (P (some (.int (-1))) σ5) (Ev l 108 0 [some (.long (Int32.toInt64 x3)), none, some (.long 0), none, some (.long 23), none] [] σ5 (fun o7 σ8 => ax_oi o7 (fun v9 => ax_br (v9 = 0) (P (some (.int (-2))) σ8) (Ev l 108 0 [some (.long (Int32.toInt64 x4)), none, some (.long 0), none, some (.long 9), none] [] σ8 (fun o10 σ11 => ax_oi o10 (fun v12 => ax_br (v12 = 0) (P (some (.int (-2))) σ11) (Ev l 132 0 [some (.ref 13), some (.int x1), some (.int x2), some (.int x3), some (.int x4), none, none, none, none] [] σ11 (fun o13 σ14 => ax_oi o13 (fun v15 => P (some (.int v15)) σ14))))))))))))))) : Ev l 133 0 [some (.ref 13), some (.int x1), some (.int x2), some (.int x3), some (.int x4)] [] σ P := bl_X11_fare (ct := ct_X11_fare) (n := 27) h
def ct_X11_ask : List (Nat × List Bool) := []
theorem hm_X11_ask : ax_m 134 = mi_X11_ask := rfl
theorem bl_X11_ask {l : Launch} {ct : List (Nat × List Bool)} {n pc : Nat} {L : ax_Lc} {st : List Value} {σ : ax_Sg} {P : Option Value → ax_Sg → Prop} (h : ax_bk tb_X11_ask ct (fun pc L st σ => Ev l 134 pc L st σ P) (fun a L σ Q => Ev l a 0 L [] σ Q) P none n pc L st σ) : Ev l 134 pc L st σ P := ax_blk (m0 := mi_X11_ask) (t := tb_X11_ask) hm_X11_ask ck_X11_ask h
set_option maxRecDepth 20000 in
theorem b_X11_ask_0 {l : Launch} {σ : ax_Sg} {P : Option Value → ax_Sg → Prop} (x1 : Int32) (x2 : Int32) (x3 : Int32) (h : Ev l 108 0 [some (.long (Int32.toInt64 x1)), none, some (.long 0), none, some (.long 23), none] [] σ (fun o1 σ2 => ax_oi o1 (fun v3 => ax_br (v3 = 0) (P (some (.int (-1))) σ2) (Ev l 111 0 [some (.int x2)] [] σ2 (fun o4 σ5 => ax_oi o4 (fun v6 => ax_br (v6 = 0) (P (some (.int (-1))) σ5) (Ev l 108 0 [some (.long (Int32.toInt64 x3)), none, some (.long 0), none, some (.long 20), none] [] σ5 (fun o7 σ8 => ax_oi o7 (fun v9 => ax_br (v9 = 0) (P (some (.int (-2))) σ8) ((vp_in ((5 * x1) + x2) 120 ∧ (vp_in ((5 * x1) + x2) 120 ∧ P (some (.int (σ8 72 (Int32.toNatClampNeg ((5 * x1) + x2))))) (ax_us σ8 72 (Int32.toNatClampNeg ((5 * x1) + x2)) x3))))))))))))) : Ev l 134 0 [some (.ref 13), some (.int x1), some (.int x2), some (.int x3), none] [] σ P := bl_X11_ask (ct := ct_X11_ask) (n := 36) h
def ct_X11_mayStand : List (Nat × List Bool) := []
theorem hm_X11_mayStand : ax_m 135 = mi_X11_mayStand := rfl
theorem bl_X11_mayStand {l : Launch} {ct : List (Nat × List Bool)} {n pc : Nat} {L : ax_Lc} {st : List Value} {σ : ax_Sg} {P : Option Value → ax_Sg → Prop} (h : ax_bk tb_X11_mayStand ct (fun pc L st σ => Ev l 135 pc L st σ P) (fun a L σ Q => Ev l a 0 L [] σ Q) P none n pc L st σ) : Ev l 135 pc L st σ P := ax_blk (m0 := mi_X11_mayStand) (t := tb_X11_mayStand) hm_X11_mayStand ck_X11_mayStand h
set_option maxRecDepth 20000 in
theorem b_X11_mayStand_0 {l : Launch} {σ : ax_Sg} {P : Option Value → ax_Sg → Prop} (x1 : Int32) (x2 : Int32) (h : (vp_in x1 12 ∧ ax_br (σ 58 (Int32.toNatClampNeg x1) = 3) (ax_br (1 < x2) ((vp_nar .boolean 1 = 1 ∧ P (some (.int 1)) σ)) ((vp_nar .boolean 0 = 0 ∧ P (some (.int 0)) σ))) ((vp_nar .boolean 1 = 1 ∧ P (some (.int 1)) σ)))) : Ev l 135 0 [some (.ref 13), some (.int x1), some (.int x2)] [] σ P := bl_X11_mayStand (ct := ct_X11_mayStand) (n := 13) h
def ct_X11_stand : List (Nat × List Bool) := []
theorem hm_X11_stand : ax_m 136 = mi_X11_stand := rfl
theorem bl_X11_stand {l : Launch} {ct : List (Nat × List Bool)} {n pc : Nat} {L : ax_Lc} {st : List Value} {σ : ax_Sg} {P : Option Value → ax_Sg → Prop} (h : ax_bk tb_X11_stand ct (fun pc L st σ => Ev l 136 pc L st σ P) (fun a L σ Q => Ev l a 0 L [] σ Q) P none n pc L st σ) : Ev l 136 pc L st σ P := ax_blk (m0 := mi_X11_stand) (t := tb_X11_stand) hm_X11_stand ck_X11_stand h
set_option maxRecDepth 20000 in
theorem b_X11_stand_0 {l : Launch} {σ : ax_Sg} {P : Option Value → ax_Sg → Prop} (x1 : Int32) (x2 : Int32) (h : Ev l 109 0 [some (.ref 13), some (.int x1)] [] σ (fun o1 σ2 => ax_oi o1 (fun v3 => ax_br (v3 = 0) (P (some (.int (-5))) σ2) (ax_br (x2 = (-1)) (ax_br (x2 < 0) ((vp_in (24 + x1) 88 ∧ (vp_in (24 + x1) 88 ∧ P (some (.int (σ2 65 (Int32.toNatClampNeg (24 + x1))))) (ax_us σ2 65 (Int32.toNatClampNeg (24 + x1)) x2)))) (Ev l 135 0 [some (.ref 13), some (.int x1), some (.int x2)] [] σ2 (fun o4 σ5 => ax_oi o4 (fun v6 => ax_br (v6 = 0) (P (some (.int (-3))) σ5) ((vp_in (24 + x1) 88 ∧ (vp_in (24 + x1) 88 ∧ P (some (.int (σ5 65 (Int32.toNatClampNeg (24 + x1))))) (ax_us σ5 65 (Int32.toNatClampNeg (24 + x1)) x2)))))))) (Ev l 111 0 [some (.int x2)] [] σ2 (fun o7 σ8 => ax_oi o7 (fun v9 => ax_br (v9 = 0) (P (some (.int (-5))) σ8) (ax_br (x2 < 0) ((vp_in (24 + x1) 88 ∧ (vp_in (24 + x1) 88 ∧ P (some (.int (σ8 65 (Int32.toNatClampNeg (24 + x1))))) (ax_us σ8 65 (Int32.toNatClampNeg (24 + x1)) x2)))) (Ev l 135 0 [some (.ref 13), some (.int x1), some (.int x2)] [] σ8 (fun o10 σ11 => ax_oi o10 (fun v12 => ax_br (v12 = 0) (P (some (.int (-3))) σ11) ((vp_in (24 + x1) 88 ∧ (vp_in (24 + x1) 88 ∧ P (some (.int (σ11 65 (Int32.toNatClampNeg (24 + x1))))) (ax_us σ11 65 (Int32.toNatClampNeg (24 + x1)) x2))))))))))))))) : Ev l 136 0 [some (.ref 13), some (.int x1), some (.int x2), none] [] σ P := bl_X11_stand (ct := ct_X11_stand) (n := 34) h
def ct_X11_waiting : List (Nat × List Bool) := []
theorem hm_X11_waiting : ax_m 137 = mi_X11_waiting := rfl
theorem bl_X11_waiting {l : Launch} {ct : List (Nat × List Bool)} {n pc : Nat} {L : ax_Lc} {st : List Value} {σ : ax_Sg} {P : Option Value → ax_Sg → Prop} (h : ax_bk tb_X11_waiting ct (fun pc L st σ => Ev l 137 pc L st σ P) (fun a L σ Q => Ev l a 0 L [] σ Q) P none n pc L st σ) : Ev l 137 pc L st σ P := ax_blk (m0 := mi_X11_waiting) (t := tb_X11_waiting) hm_X11_waiting ck_X11_waiting h
set_option maxRecDepth 20000 in
theorem b_X11_waiting_0 {l : Launch} {σ : ax_Sg} {P : Option Value → ax_Sg → Prop} (x1 : Int32) (h : (vp_in (68 + (3 * x1)) 88 ∧ (vp_in ((68 + (3 * x1)) + 1) 88 ∧ (vp_in ((68 + (3 * x1)) + 2) 88 ∧ P (some (.int (((σ 65 (Int32.toNatClampNeg (68 + (3 * x1)))) + (σ 65 (Int32.toNatClampNeg ((68 + (3 * x1)) + 1)))) + (σ 65 (Int32.toNatClampNeg ((68 + (3 * x1)) + 2)))))) σ)))) : Ev l 137 0 [some (.ref 13), some (.int x1)] [] σ P := bl_X11_waiting (ct := ct_X11_waiting) (n := 32) h
def ct_X11_roams : List (Nat × List Bool) := [(22, [true, true, false, true, true, true])]
theorem hm_X11_roams : ax_m 140 = mi_X11_roams := rfl
theorem bl_X11_roams {l : Launch} {ct : List (Nat × List Bool)} {n pc : Nat} {L : ax_Lc} {st : List Value} {σ : ax_Sg} {P : Option Value → ax_Sg → Prop} (h : ax_bk tb_X11_roams ct (fun pc L st σ => Ev l 140 pc L st σ P) (fun a L σ Q => Ev l a 0 L [] σ Q) P none n pc L st σ) : Ev l 140 pc L st σ P := ax_blk (m0 := mi_X11_roams) (t := tb_X11_roams) hm_X11_roams ck_X11_roams h
set_option maxRecDepth 20000 in
theorem b_X11_roams_0 {l : Launch} {σ : ax_Sg} {P : Option Value → ax_Sg → Prop} (x1 : Int32) (h : (vp_in (24 + x1) 88 ∧ Ev l 137 0 [some (.ref 13), some (.int (σ 65 (Int32.toNatClampNeg (24 + x1))))] [] σ (fun o1 σ2 => ax_oi o1 (fun v3 => Ev l 140 22 [some (.ref 13), some (.int x1), none, some (.int v3), some (.int (-1)), some (.int 0)] [] σ2 P)))) : Ev l 140 0 [some (.ref 13), some (.int x1), none, none, none, none] [] σ P := bl_X11_roams (ct := ct_X11_roams) (n := 17) h
set_option maxRecDepth 20000 in
theorem b_X11_roams_22 {l : Launch} {σ : ax_Sg} {P : Option Value → ax_Sg → Prop} (x1 : Int32) (x3 : Int32) (x4 : Int32) (x5 : Int32) (h : ax_br (x5 < 5) (Ev l 135 0 [some (.ref 13), some (.int x1), some (.int x5)] [] σ (fun o1 σ2 => ax_oi o1 (fun v3 => ax_br (v3 = 0) (Ev l 140 22 [some (.ref 13), some (.int x1), none, some (.int x3), some (.int x4), some (.int (x5 + 1))] [] σ2 P) (Ev l 137 0 [some (.ref 13), some (.int x5)] [] σ2 (fun o4 σ5 => ax_oi o4 (fun v6 => ax_br (x3 < v6) (ax_br (x4 < 0) (Ev l 140 22 [some (.ref 13), some (.int x1), none, some (.int x3), some (.int x5), some (.int (x5 + 1))] [] σ5 P) (Ev l 137 0 [some (.ref 13), some (.int x5)] [] σ5 (fun o7 σ8 => ax_oi o7 (fun v9 => Ev l 137 0 [some (.ref 13), some (.int x4)] [] σ8 (fun o10 σ11 => ax_oi o10 (fun v12 => ax_br (v12 < v9) (Ev l 140 22 [some (.ref 13), some (.int x1), none, some (.int x3), some (.int x5), some (.int (x5 + 1))] [] σ11 P) (Ev l 140 22 [some (.ref 13), some (.int x1), none, some (.int x3), some (.int x4), some (.int (x5 + 1))] [] σ11 P))))))) (Ev l 140 22 [some (.ref 13), some (.int x1), none, some (.int x3), some (.int x4), some (.int (x5 + 1))] [] σ5 P))))))) (ax_br (x4 < 0) (P none σ) ((vp_in (24 + x1) 88 ∧ P none (ax_us σ 65 (Int32.toNatClampNeg (24 + x1)) x4))))) : Ev l 140 22 [some (.ref 13), some (.int x1), none, some (.int x3), some (.int x4), some (.int x5)] [] σ P := bl_X11_roams (ct := ct_X11_roams) (n := 28) h
def ct_X11_runs : List (Nat × List Bool) := []
theorem hm_X11_runs : ax_m 138 = mi_X11_runs := rfl
theorem bl_X11_runs {l : Launch} {ct : List (Nat × List Bool)} {n pc : Nat} {L : ax_Lc} {st : List Value} {σ : ax_Sg} {P : Option Value → ax_Sg → Prop} (h : ax_bk tb_X11_runs ct (fun pc L st σ => Ev l 138 pc L st σ P) (fun a L σ Q => Ev l a 0 L [] σ Q) P none n pc L st σ) : Ev l 138 pc L st σ P := ax_blk (m0 := mi_X11_runs) (t := tb_X11_runs) hm_X11_runs ck_X11_runs h
set_option maxRecDepth 20000 in
theorem b_X11_runs_0 {l : Launch} {σ : ax_Sg} {P : Option Value → ax_Sg → Prop} (x1 : Int32) (h : (vp_in (24 + x1) 88 ∧ ax_br (σ 65 (Int32.toNatClampNeg (24 + x1)) < 0) (P (some (.int (-1))) σ) ((¬ (24 : Int32) = 0 ∧ Ev l 108 0 [some (.long (Int32.toInt64 ((σ 13 14) - (σ 13 14) / 24 * 24))), none, some (.long 4), none, some (.long 15), none] [] σ (fun o1 σ2 => ax_oi o1 (fun v3 => ax_br (v3 = 0) (Ev l 115 0 [some (.ref 13), some (.int x1), some (.int 1)] [] σ2 (fun o4 σ5 => ax_oi o4 (fun v6 => P (some (.int v6)) σ5))) (Ev l 115 0 [some (.ref 13), some (.int x1), some (.int 0)] [] σ2 (fun o7 σ8 => ax_oi o7 (fun v9 => P (some (.int v9)) σ8))))))))) : Ev l 138 0 [some (.ref 13), some (.int x1)] [] σ P := bl_X11_runs (ct := ct_X11_runs) (n := 23) h
def ct_X11_takesOne : List (Nat × List Bool) := [(14, [true, true, true, true, true, true, false, false])]
theorem hm_X11_takesOne : ax_m 139 = mi_X11_takesOne := rfl
theorem bl_X11_takesOne {l : Launch} {ct : List (Nat × List Bool)} {n pc : Nat} {L : ax_Lc} {st : List Value} {σ : ax_Sg} {P : Option Value → ax_Sg → Prop} (h : ax_bk tb_X11_takesOne ct (fun pc L st σ => Ev l 139 pc L st σ P) (fun a L σ Q => Ev l a 0 L [] σ Q) P none n pc L st σ) : Ev l 139 pc L st σ P := ax_blk (m0 := mi_X11_takesOne) (t := tb_X11_takesOne) hm_X11_takesOne ck_X11_takesOne h
set_option maxRecDepth 20000 in
theorem b_X11_takesOne_0 {l : Launch} {σ : ax_Sg} {P : Option Value → ax_Sg → Prop} (x1 : Int32) (x2 : Int32) (x3 : Int32) (h : (vp_in (24 + x1) 88 ∧ Ev l 139 14 [some (.ref 13), some (.int x1), some (.int x2), some (.int x3), some (.int (σ 65 (Int32.toNatClampNeg (24 + x1)))), some (.int 2), none, none] [] σ P)) : Ev l 139 0 [some (.ref 13), some (.int x1), some (.int x2), some (.int x3), none, none, none, none] [] σ P := bl_X11_takesOne (ct := ct_X11_takesOne) (n := 11) h
set_option maxRecDepth 20000 in
theorem b_X11_takesOne_14 {l : Launch} {σ : ax_Sg} {P : Option Value → ax_Sg → Prop} (x1 : Int32) (x2 : Int32) (x3 : Int32) (x4 : Int32) (x5 : Int32) (h : (vp_in ((68 + (3 * x4)) + x5) 88 ∧ ax_br (σ 65 (Int32.toNatClampNeg ((68 + (3 * x4)) + x5)) = 0) (Ev l 139 14 [some (.ref 13), some (.int x1), some (.int x2), some (.int x3), some (.int x4), some (.int (x5 + (-1))), none, none] [] σ P) ((vp_in ((68 + (3 * x4)) + x5) 88 ∧ (vp_in ((68 + (3 * x4)) + x5) 88 ∧ (vp_in (83 + x4) 88 ∧ (¬ (5 : Int32) = 0 ∧ (¬ (5 : Int32) = 0 ∧ (vp_in (83 + x4) 88 ∧ (vp_in (83 + x4) 88 ∧ (¬ (24 : Int32) = 0 ∧ Ev l 132 0 [some (.ref 13), some (.int x4), some (.int (((x4 + 1) + (((upd (σ 65) (Int32.toNatClampNeg ((68 + (3 * x4)) + x5)) ((σ 65 (Int32.toNatClampNeg ((68 + (3 * x4)) + x5))) - 1)) (Int32.toNatClampNeg (83 + x4))) - ((upd (σ 65) (Int32.toNatClampNeg ((68 + (3 * x4)) + x5)) ((σ 65 (Int32.toNatClampNeg ((68 + (3 * x4)) + x5))) - 1)) (Int32.toNatClampNeg (83 + x4))) / 5 * 5)) - ((x4 + 1) + (((upd (σ 65) (Int32.toNatClampNeg ((68 + (3 * x4)) + x5)) ((σ 65 (Int32.toNatClampNeg ((68 + (3 * x4)) + x5))) - 1)) (Int32.toNatClampNeg (83 + x4))) - ((upd (σ 65) (Int32.toNatClampNeg ((68 + (3 * x4)) + x5)) ((σ 65 (Int32.toNatClampNeg ((68 + (3 * x4)) + x5))) - 1)) (Int32.toNatClampNeg (83 + x4))) / 5 * 5)) / 5 * 5)), some (.int ((σ 13 14) - (σ 13 14) / 24 * 24)), some (.int x5), none, none, none, none] [] (ax_us (ax_us σ 65 (Int32.toNatClampNeg ((68 + (3 * x4)) + x5)) ((σ 65 (Int32.toNatClampNeg ((68 + (3 * x4)) + x5))) - 1)) 65 (Int32.toNatClampNeg (83 + x4)) (((upd (σ 65) (Int32.toNatClampNeg ((68 + (3 * x4)) + x5)) ((σ 65 (Int32.toNatClampNeg ((68 + (3 * x4)) + x5))) - 1)) (Int32.toNatClampNeg (83 + x4))) + 1)) (fun o1 σ2 => ax_oi o1 (fun v3 => (vp_in (12 + x1) 88 ∧ (vp_in (12 + x1) 88 ∧ (vp_in (52 + x2) 88 ∧ (vp_in (52 + x2) 88 ∧ Ev l 135 0 [some (.ref 13), some (.int x1), some (.int (((x4 + 1) + (((upd (σ 65) (Int32.toNatClampNeg ((68 + (3 * x4)) + x5)) ((σ 65 (Int32.toNatClampNeg ((68 + (3 * x4)) + x5))) - 1)) (Int32.toNatClampNeg (83 + x4))) - ((upd (σ 65) (Int32.toNatClampNeg ((68 + (3 * x4)) + x5)) ((σ 65 (Int32.toNatClampNeg ((68 + (3 * x4)) + x5))) - 1)) (Int32.toNatClampNeg (83 + x4))) / 5 * 5)) - ((x4 + 1) + (((upd (σ 65) (Int32.toNatClampNeg ((68 + (3 * x4)) + x5)) ((σ 65 (Int32.toNatClampNeg ((68 + (3 * x4)) + x5))) - 1)) (Int32.toNatClampNeg (83 + x4))) - ((upd (σ 65) (Int32.toNatClampNeg ((68 + (3 * x4)) + x5)) ((σ 65 (Int32.toNatClampNeg ((68 + (3 * x4)) + x5))) - 1)) (Int32.toNatClampNeg (83 + x4))) / 5 * 5)) / 5 * 5))] [] (ax_us (ax_us σ2 65 (Int32.toNatClampNeg (12 + x1)) ((σ2 65 (Int32.toNatClampNeg (12 + x1))) + v3)) 65 (Int32.toNatClampNeg (52 + x2)) (((upd (σ2 65) (Int32.toNatClampNeg (12 + x1)) ((σ2 65 (Int32.toNatClampNeg (12 + x1))) + v3)) (Int32.toNatClampNeg (52 + x2))) + v3)) (fun o4 σ5 => ax_oi o4 (fun v6 => ax_br (v6 = 0) ((vp_in (24 + x1) 88 ∧ ax_br (x3 = 0) (P none (ax_us (ax_us σ5 65 (Int32.toNatClampNeg (24 + x1)) 2) 13 11 ((σ5 13 11) + 1))) (ax_br (σ5 13 15 = 300) (P none (ax_us (ax_us σ5 65 (Int32.toNatClampNeg (24 + x1)) 2) 13 11 ((σ5 13 11) + 1))) ((vp_in (σ5 13 15) 300 ∧ (vp_in (σ5 13 15) 300 ∧ (vp_in (σ5 13 15) 300 ∧ (vp_in (σ5 13 15) 300 ∧ (vp_in (σ5 13 15) 300 ∧ P none (ax_us (ax_us (ax_us (ax_us (ax_us (ax_us (ax_us (ax_us σ5 65 (Int32.toNatClampNeg (24 + x1)) 2) 13 11 ((σ5 13 11) + 1)) 67 (Int32.toNatClampNeg (σ5 13 15)) (σ5 13 14)) 68 (Int32.toNatClampNeg (σ5 13 15)) x1) 69 (Int32.toNatClampNeg (σ5 13 15)) x4) 70 (Int32.toNatClampNeg (σ5 13 15)) (((x4 + 1) + (((upd (σ 65) (Int32.toNatClampNeg ((68 + (3 * x4)) + x5)) ((σ 65 (Int32.toNatClampNeg ((68 + (3 * x4)) + x5))) - 1)) (Int32.toNatClampNeg (83 + x4))) - ((upd (σ 65) (Int32.toNatClampNeg ((68 + (3 * x4)) + x5)) ((σ 65 (Int32.toNatClampNeg ((68 + (3 * x4)) + x5))) - 1)) (Int32.toNatClampNeg (83 + x4))) / 5 * 5)) - ((x4 + 1) + (((upd (σ 65) (Int32.toNatClampNeg ((68 + (3 * x4)) + x5)) ((σ 65 (Int32.toNatClampNeg ((68 + (3 * x4)) + x5))) - 1)) (Int32.toNatClampNeg (83 + x4))) - ((upd (σ 65) (Int32.toNatClampNeg ((68 + (3 * x4)) + x5)) ((σ 65 (Int32.toNatClampNeg ((68 + (3 * x4)) + x5))) - 1)) (Int32.toNatClampNeg (83 + x4))) / 5 * 5)) / 5 * 5)) 71 (Int32.toNatClampNeg (σ5 13 15)) v3) 13 15 ((σ5 13 15) + 1))))))))))) ((vp_in (24 + x1) 88 ∧ ax_br (x3 = 0) (P none (ax_us (ax_us σ5 65 (Int32.toNatClampNeg (24 + x1)) (((x4 + 1) + (((upd (σ 65) (Int32.toNatClampNeg ((68 + (3 * x4)) + x5)) ((σ 65 (Int32.toNatClampNeg ((68 + (3 * x4)) + x5))) - 1)) (Int32.toNatClampNeg (83 + x4))) - ((upd (σ 65) (Int32.toNatClampNeg ((68 + (3 * x4)) + x5)) ((σ 65 (Int32.toNatClampNeg ((68 + (3 * x4)) + x5))) - 1)) (Int32.toNatClampNeg (83 + x4))) / 5 * 5)) - ((x4 + 1) + (((upd (σ 65) (Int32.toNatClampNeg ((68 + (3 * x4)) + x5)) ((σ 65 (Int32.toNatClampNeg ((68 + (3 * x4)) + x5))) - 1)) (Int32.toNatClampNeg (83 + x4))) - ((upd (σ 65) (Int32.toNatClampNeg ((68 + (3 * x4)) + x5)) ((σ 65 (Int32.toNatClampNeg ((68 + (3 * x4)) + x5))) - 1)) (Int32.toNatClampNeg (83 + x4))) / 5 * 5)) / 5 * 5)) 13 11 ((σ5 13 11) + 1))) (ax_br (σ5 13 15 = 300) (P none (ax_us (ax_us σ5 65 (Int32.toNatClampNeg (24 + x1)) (((x4 + 1) + (((upd (σ 65) (Int32.toNatClampNeg ((68 + (3 * x4)) + x5)) ((σ 65 (Int32.toNatClampNeg ((68 + (3 * x4)) + x5))) - 1)) (Int32.toNatClampNeg (83 + x4))) - ((upd (σ 65) (Int32.toNatClampNeg ((68 + (3 * x4)) + x5)) ((σ 65 (Int32.toNatClampNeg ((68 + (3 * x4)) + x5))) - 1)) (Int32.toNatClampNeg (83 + x4))) / 5 * 5)) - ((x4 + 1) + (((upd (σ 65) (Int32.toNatClampNeg ((68 + (3 * x4)) + x5)) ((σ 65 (Int32.toNatClampNeg ((68 + (3 * x4)) + x5))) - 1)) (Int32.toNatClampNeg (83 + x4))) - ((upd (σ 65) (Int32.toNatClampNeg ((68 + (3 * x4)) + x5)) ((σ 65 (Int32.toNatClampNeg ((68 + (3 * x4)) + x5))) - 1)) (Int32.toNatClampNeg (83 + x4))) / 5 * 5)) / 5 * 5)) 13 11 ((σ5 13 11) + 1))) ((vp_in (σ5 13 15) 300 ∧ (vp_in (σ5 13 15) 300 ∧ (vp_in (σ5 13 15) 300 ∧ (vp_in (σ5 13 15) 300 ∧ (vp_in (σ5 13 15) 300 ∧ P none (ax_us (ax_us (ax_us (ax_us (ax_us (ax_us (ax_us (ax_us σ5 65 (Int32.toNatClampNeg (24 + x1)) (((x4 + 1) + (((upd (σ 65) (Int32.toNatClampNeg ((68 + (3 * x4)) + x5)) ((σ 65 (Int32.toNatClampNeg ((68 + (3 * x4)) + x5))) - 1)) (Int32.toNatClampNeg (83 + x4))) - ((upd (σ 65) (Int32.toNatClampNeg ((68 + (3 * x4)) + x5)) ((σ 65 (Int32.toNatClampNeg ((68 + (3 * x4)) + x5))) - 1)) (Int32.toNatClampNeg (83 + x4))) / 5 * 5)) - ((x4 + 1) + (((upd (σ 65) (Int32.toNatClampNeg ((68 + (3 * x4)) + x5)) ((σ 65 (Int32.toNatClampNeg ((68 + (3 * x4)) + x5))) - 1)) (Int32.toNatClampNeg (83 + x4))) - ((upd (σ 65) (Int32.toNatClampNeg ((68 + (3 * x4)) + x5)) ((σ 65 (Int32.toNatClampNeg ((68 + (3 * x4)) + x5))) - 1)) (Int32.toNatClampNeg (83 + x4))) / 5 * 5)) / 5 * 5)) 13 11 ((σ5 13 11) + 1)) 67 (Int32.toNatClampNeg (σ5 13 15)) (σ5 13 14)) 68 (Int32.toNatClampNeg (σ5 13 15)) x1) 69 (Int32.toNatClampNeg (σ5 13 15)) x4) 70 (Int32.toNatClampNeg (σ5 13 15)) (((x4 + 1) + (((upd (σ 65) (Int32.toNatClampNeg ((68 + (3 * x4)) + x5)) ((σ 65 (Int32.toNatClampNeg ((68 + (3 * x4)) + x5))) - 1)) (Int32.toNatClampNeg (83 + x4))) - ((upd (σ 65) (Int32.toNatClampNeg ((68 + (3 * x4)) + x5)) ((σ 65 (Int32.toNatClampNeg ((68 + (3 * x4)) + x5))) - 1)) (Int32.toNatClampNeg (83 + x4))) / 5 * 5)) - ((x4 + 1) + (((upd (σ 65) (Int32.toNatClampNeg ((68 + (3 * x4)) + x5)) ((σ 65 (Int32.toNatClampNeg ((68 + (3 * x4)) + x5))) - 1)) (Int32.toNatClampNeg (83 + x4))) - ((upd (σ 65) (Int32.toNatClampNeg ((68 + (3 * x4)) + x5)) ((σ 65 (Int32.toNatClampNeg ((68 + (3 * x4)) + x5))) - 1)) (Int32.toNatClampNeg (83 + x4))) / 5 * 5)) / 5 * 5)) 71 (Int32.toNatClampNeg (σ5 13 15)) v3) 13 15 ((σ5 13 15) + 1)))))))))))))))))))))))))))))) : Ev l 139 14 [some (.ref 13), some (.int x1), some (.int x2), some (.int x3), some (.int x4), some (.int x5), none, none] [] σ P := bl_X11_takesOne (ct := ct_X11_takesOne) (n := 144) h
def ct_X11_goesBy : List (Nat × List Bool) := [(2, [true, true, true, false]), (45, [true, true, true, false]), (147, [true, false, true, false]), (190, [true, false, true, false])]
theorem hm_X11_goesBy : ax_m 141 = mi_X11_goesBy := rfl
theorem bl_X11_goesBy {l : Launch} {ct : List (Nat × List Bool)} {n pc : Nat} {L : ax_Lc} {st : List Value} {σ : ax_Sg} {P : Option Value → ax_Sg → Prop} (h : ax_bk tb_X11_goesBy ct (fun pc L st σ => Ev l 141 pc L st σ P) (fun a L σ Q => Ev l a 0 L [] σ Q) P none n pc L st σ) : Ev l 141 pc L st σ P := ax_blk (m0 := mi_X11_goesBy) (t := tb_X11_goesBy) hm_X11_goesBy ck_X11_goesBy h
set_option maxRecDepth 20000 in
theorem b_X11_goesBy_0 {l : Launch} {σ : ax_Sg} {P : Option Value → ax_Sg → Prop} (x1 : Int32) (h : Ev l 141 2 [some (.ref 13), some (.int x1), some (.int 0), none] [] σ P) : Ev l 141 0 [some (.ref 13), some (.int x1), none, none] [] σ P := bl_X11_goesBy (ct := ct_X11_goesBy) (n := 4) h
set_option maxRecDepth 20000 in
theorem b_X11_goesBy_2 {l : Launch} {σ : ax_Sg} {P : Option Value → ax_Sg → Prop} (x1 : Int32) (x2 : Int32) (h : ax_br (x2 < 5) ((vp_in (68 + (3 * x2)) 88 ∧ (¬ (24 : Int32) = 0 ∧ (vp_in ((5 * ((σ 13 14) - (σ 13 14) / 24 * 24)) + x2) 120 ∧ (vp_in (68 + (3 * x2)) 88 ∧ Ev l 141 2 [some (.ref 13), some (.int x1), some (.int (x2 + 1)), none] [] (ax_us σ 65 (Int32.toNatClampNeg (68 + (3 * x2))) ((σ 65 (Int32.toNatClampNeg (68 + (3 * x2)))) + (σ 72 (Int32.toNatClampNeg ((5 * ((σ 13 14) - (σ 13 14) / 24 * 24)) + x2))))) P))))) (Ev l 141 45 [some (.ref 13), some (.int x1), some (.int 0), none] [] σ P)) : Ev l 141 2 [some (.ref 13), some (.int x1), some (.int x2), none] [] σ P := bl_X11_goesBy (ct := ct_X11_goesBy) (n := 29) h
set_option maxRecDepth 20000 in
theorem b_X11_goesBy_45 {l : Launch} {σ : ax_Sg} {P : Option Value → ax_Sg → Prop} (x1 : Int32) (x2 : Int32) (h : ax_br (x2 < σ 13 7) (Ev l 138 0 [some (.ref 13), some (.int x2)] [] σ (fun o1 σ2 => ax_oi o1 (fun v3 => (vp_in x2 12 ∧ ax_br (v3 < 0) (Ev l 141 45 [some (.ref 13), some (.int x1), some (.int (x2 + 1)), none] [] (ax_us σ2 83 (Int32.toNatClampNeg x2) (vp_nar .boolean 0)) P) ((vp_in x2 88 ∧ (vp_in x2 88 ∧ (vp_in (36 + v3) 88 ∧ (vp_in (36 + v3) 88 ∧ (vp_in (24 + x2) 88 ∧ Ev l 137 0 [some (.ref 13), some (.int ((upd (upd (σ2 65) (Int32.toNatClampNeg x2) ((σ2 65 (Int32.toNatClampNeg x2)) + 1)) (Int32.toNatClampNeg (36 + v3)) (((upd (σ2 65) (Int32.toNatClampNeg x2) ((σ2 65 (Int32.toNatClampNeg x2)) + 1)) (Int32.toNatClampNeg (36 + v3))) + 1)) (Int32.toNatClampNeg (24 + x2))))] [] (ax_us (ax_us (ax_us σ2 83 (Int32.toNatClampNeg x2) (vp_nar .boolean 0)) 65 (Int32.toNatClampNeg x2) ((σ2 65 (Int32.toNatClampNeg x2)) + 1)) 65 (Int32.toNatClampNeg (36 + v3)) (((upd (σ2 65) (Int32.toNatClampNeg x2) ((σ2 65 (Int32.toNatClampNeg x2)) + 1)) (Int32.toNatClampNeg (36 + v3))) + 1)) (fun o4 σ5 => ax_oi o4 (fun v6 => ax_br (v6 = 0) ((vp_in x2 12 ∧ (vp_in x2 12 ∧ ax_br ((upd (σ5 83) (Int32.toNatClampNeg x2) (vp_nar .boolean 1)) (Int32.toNatClampNeg x2) = 0) (Ev l 139 0 [some (.ref 13), some (.int x2), some (.int v3), some (.int x1), none, none, none, none] [] (ax_us σ5 83 (Int32.toNatClampNeg x2) (vp_nar .boolean 1)) (fun o7 σ8 => ax_ov o7 (Ev l 141 45 [some (.ref 13), some (.int x1), some (.int (x2 + 1)), none] [] σ8 P))) (Ev l 141 45 [some (.ref 13), some (.int x1), some (.int (x2 + 1)), none] [] (ax_us σ5 83 (Int32.toNatClampNeg x2) (vp_nar .boolean 1)) P)))) ((vp_in x2 12 ∧ (vp_in x2 12 ∧ ax_br ((upd (σ5 83) (Int32.toNatClampNeg x2) (vp_nar .boolean 0)) (Int32.toNatClampNeg x2) = 0) (Ev l 139 0 [some (.ref 13), some (.int x2), some (.int v3), some (.int x1), none, none, none, none] [] (ax_us σ5 83 (Int32.toNatClampNeg x2) (vp_nar .boolean 0)) (fun o9 σ10 => ax_ov o9 (Ev l 141 45 [some (.ref 13), some (.int x1), some (.int (x2 + 1)), none] [] σ10 P))) (Ev l 141 45 [some (.ref 13), some (.int x1), some (.int (x2 + 1)), none] [] (ax_us σ5 83 (Int32.toNatClampNeg x2) (vp_nar .boolean 0)) P)))))))))))))))) (Ev l 141 147 [some (.ref 13), none, some (.int 0), none] [] σ P)) : Ev l 141 45 [some (.ref 13), some (.int x1), some (.int x2), none] [] σ P := bl_X11_goesBy (ct := ct_X11_goesBy) (n := 62) h
set_option maxRecDepth 20000 in
theorem b_X11_goesBy_147 {l : Launch} {σ : ax_Sg} {P : Option Value → ax_Sg → Prop} (x2 : Int32) (h : ax_br (x2 < σ 13 7) ((vp_in x2 12 ∧ ax_br (σ 83 (Int32.toNatClampNeg x2) = 0) (Ev l 141 147 [some (.ref 13), none, some (.int (x2 + 1)), none] [] σ P) (Ev l 140 0 [some (.ref 13), some (.int x2), none, none, none, none] [] (ax_us σ 13 13 ((σ 13 13) + 1)) (fun o1 σ2 => ax_ov o1 (Ev l 141 147 [some (.ref 13), none, some (.int (x2 + 1)), none] [] σ2 P))))) (Ev l 141 190 [some (.ref 13), none, some (.int 0), none] [] σ P)) : Ev l 141 147 [some (.ref 13), none, some (.int x2), none] [] σ P := bl_X11_goesBy (ct := ct_X11_goesBy) (n := 22) h
set_option maxRecDepth 20000 in
theorem b_X11_goesBy_190 {l : Launch} {σ : ax_Sg} {P : Option Value → ax_Sg → Prop} (x2 : Int32) (h : ax_br (x2 < 5) ((vp_in ((68 + (3 * x2)) + 2) 88 ∧ (vp_in ((68 + (3 * x2)) + 1) 88 ∧ (vp_in ((68 + (3 * x2)) + 2) 88 ∧ (vp_in (68 + (3 * x2)) 88 ∧ (vp_in ((68 + (3 * x2)) + 1) 88 ∧ (vp_in (68 + (3 * x2)) 88 ∧ Ev l 141 190 [some (.ref 13), none, some (.int (x2 + 1)), none] [] (ax_us (ax_us (ax_us (ax_us σ 13 12 ((σ 13 12) + (σ 65 (Int32.toNatClampNeg ((68 + (3 * x2)) + 2))))) 65 (Int32.toNatClampNeg ((68 + (3 * x2)) + 2)) (σ 65 (Int32.toNatClampNeg ((68 + (3 * x2)) + 1)))) 65 (Int32.toNatClampNeg ((68 + (3 * x2)) + 1)) ((upd (σ 65) (Int32.toNatClampNeg ((68 + (3 * x2)) + 2)) (σ 65 (Int32.toNatClampNeg ((68 + (3 * x2)) + 1)))) (Int32.toNatClampNeg (68 + (3 * x2))))) 65 (Int32.toNatClampNeg (68 + (3 * x2))) 0) P))))))) (P none (ax_us σ 13 14 ((σ 13 14) + 1)))) : Ev l 141 190 [some (.ref 13), none, some (.int x2), none] [] σ P := bl_X11_goesBy (ct := ct_X11_goesBy) (n := 69) h
def ct_X11_step : List (Nat × List Bool) := [(37, [true, true, true, true])]
theorem hm_X11_step : ax_m 142 = mi_X11_step := rfl
theorem bl_X11_step {l : Launch} {ct : List (Nat × List Bool)} {n pc : Nat} {L : ax_Lc} {st : List Value} {σ : ax_Sg} {P : Option Value → ax_Sg → Prop} (h : ax_bk tb_X11_step ct (fun pc L st σ => Ev l 142 pc L st σ P) (fun a L σ Q => Ev l a 0 L [] σ Q) P none n pc L st σ) : Ev l 142 pc L st σ P := ax_blk (m0 := mi_X11_step) (t := tb_X11_step) hm_X11_step ck_X11_step h
set_option maxRecDepth 20000 in
theorem b_X11_step_0 {l : Launch} {σ : ax_Sg} {P : Option Value → ax_Sg → Prop} (x1 : Int32) (h : Ev l 108 0 [some (.long (Int32.toInt64 x1)), none, some (.long 1), none, some (.long 24), none] [] σ (fun o1 σ2 => ax_oi o1 (fun v3 => ax_br (v3 = 0) (P (some (.int (-2))) σ2) (ax_br (400 < (σ2 13 14) + x1) (P (some (.int (-4))) σ2) (Ev l 142 37 [some (.ref 13), some (.int x1), some (.int (σ2 13 11)), some (.int 0)] [] σ2 P))))) : Ev l 142 0 [some (.ref 13), some (.int x1), none, none] [] σ P := bl_X11_step (ct := ct_X11_step) (n := 19) h
set_option maxRecDepth 20000 in
theorem b_X11_step_37 {l : Launch} {σ : ax_Sg} {P : Option Value → ax_Sg → Prop} (x1 : Int32) (x2 : Int32) (x3 : Int32) (h : ax_br (x3 < x1) (Ev l 141 0 [some (.ref 13), some (.int 1), none, none] [] σ (fun o1 σ2 => ax_ov o1 (Ev l 142 37 [some (.ref 13), some (.int x1), some (.int x2), some (.int (x3 + 1))] [] σ2 P))) (P (some (.int ((σ 13 11) - x2))) σ)) : Ev l 142 37 [some (.ref 13), some (.int x1), some (.int x2), some (.int x3)] [] σ P := bl_X11_step (ct := ct_X11_step) (n := 10) h
def ct_X11_tookAll : List (Nat × List Bool) := [(4, [true, true, true])]
theorem hm_X11_tookAll : ax_m 143 = mi_X11_tookAll := rfl
theorem bl_X11_tookAll {l : Launch} {ct : List (Nat × List Bool)} {n pc : Nat} {L : ax_Lc} {st : List Value} {σ : ax_Sg} {P : Option Value → ax_Sg → Prop} (h : ax_bk tb_X11_tookAll ct (fun pc L st σ => Ev l 143 pc L st σ P) (fun a L σ Q => Ev l a 0 L [] σ Q) P none n pc L st σ) : Ev l 143 pc L st σ P := ax_blk (m0 := mi_X11_tookAll) (t := tb_X11_tookAll) hm_X11_tookAll ck_X11_tookAll h
set_option maxRecDepth 20000 in
theorem b_X11_tookAll_0 {l : Launch} {σ : ax_Sg} {P : Option Value → ax_Sg → Prop}  (h : Ev l 143 4 [some (.ref 13), some (.int 0), some (.int 0)] [] σ P) : Ev l 143 0 [some (.ref 13), none, none] [] σ P := bl_X11_tookAll (ct := ct_X11_tookAll) (n := 6) h
set_option maxRecDepth 20000 in
theorem b_X11_tookAll_4 {l : Launch} {σ : ax_Sg} {P : Option Value → ax_Sg → Prop} (x1 : Int32) (x2 : Int32) (h : ax_br (x2 < σ 13 7) ((vp_in (12 + x2) 88 ∧ Ev l 143 4 [some (.ref 13), some (.int (x1 + (σ 65 (Int32.toNatClampNeg (12 + x2))))), some (.int (x2 + 1))] [] σ P)) (P (some (.int x1)) σ)) : Ev l 143 4 [some (.ref 13), some (.int x1), some (.int x2)] [] σ P := bl_X11_tookAll (ct := ct_X11_tookAll) (n := 17) h
def ct_X11_tried : List (Nat × List Bool) := [(46, [true, true, true, true, true, false, false, false, false, false, false]), (111, [true, false, true, true, true, true, true, true, true, true, false]), (140, [true, false, true, true, true, true, true, true, true, true, false]), (213, [true, false, false, false, true, true, true, true, false, true, true])]
theorem hm_X11_tried : ax_m 144 = mi_X11_tried := rfl
theorem bl_X11_tried {l : Launch} {ct : List (Nat × List Bool)} {n pc : Nat} {L : ax_Lc} {st : List Value} {σ : ax_Sg} {P : Option Value → ax_Sg → Prop} (h : ax_bk tb_X11_tried ct (fun pc L st σ => Ev l 144 pc L st σ P) (fun a L σ Q => Ev l a 0 L [] σ Q) P none n pc L st σ) : Ev l 144 pc L st σ P := ax_blk (m0 := mi_X11_tried) (t := tb_X11_tried) hm_X11_tried ck_X11_tried h
set_option maxRecDepth 20000 in
theorem b_X11_tried_0 {l : Launch} {σ : ax_Sg} {P : Option Value → ax_Sg → Prop} (x1 : Int32) (x2 : Int32) (x3 : Int32) (h : Ev l 108 0 [some (.long (Int32.toInt64 x3)), none, some (.long 0), none, some (.long 3), none] [] σ (fun o1 σ2 => ax_oi o1 (fun v3 => ax_br (v3 = 0) (P (some (.int (-1))) σ2) (Ev l 108 0 [some (.long (Int32.toInt64 x1)), none, some (.long 0), none, some (.long (Int32.toInt64 (σ2 13 7))), none] [] σ2 (fun o4 σ5 => ax_oi o4 (fun v6 => ax_br (v6 = 0) (P (some (.int (-2))) σ5) (Ev l 108 0 [some (.long (Int32.toInt64 x2)), none, some (.long 1), none, some (.long 40), none] [] σ5 (fun o7 σ8 => ax_oi o7 (fun v9 => ax_br (v9 = 0) (P (some (.int (-2))) σ8) (Ev l 144 46 [some (.ref 13), some (.int x1), some (.int x2), some (.int x3), some (.int 0), none, none, none, none, none, none] [] σ8 P)))))))))) : Ev l 144 0 [some (.ref 13), some (.int x1), some (.int x2), some (.int x3), none, none, none, none, none, none, none] [] σ P := bl_X11_tried (ct := ct_X11_tried) (n := 24) h
set_option maxRecDepth 20000 in
theorem b_X11_tried_46 {l : Launch} {σ : ax_Sg} {P : Option Value → ax_Sg → Prop} (x1 : Int32) (x2 : Int32) (x3 : Int32) (x4 : Int32) (h : ax_br (x4 < 88) ((vp_in x4 88 ∧ (vp_in x4 88 ∧ Ev l 144 46 [some (.ref 13), some (.int x1), some (.int x2), some (.int x3), some (.int (x4 + 1)), none, none, none, none, none, none] [] (ax_us σ 66 (Int32.toNatClampNeg x4) (σ 65 (Int32.toNatClampNeg x4))) P))) (Ev l 143 0 [some (.ref 13), none, none] [] σ (fun o1 σ2 => ax_oi o1 (fun v3 => Ev l 144 111 [some (.ref 13), none, some (.int x2), some (.int x3), some (.int (σ 13 11)), some (.int (σ 13 12)), some (.int (σ 13 13)), some (.int (σ 13 14)), some (.int v3), some (.int ((σ2 13 7) - x1)), none] [] σ2 P)))) : Ev l 144 46 [some (.ref 13), some (.int x1), some (.int x2), some (.int x3), some (.int x4), none, none, none, none, none, none] [] σ P := bl_X11_tried (ct := ct_X11_tried) (n := 25) h
set_option maxRecDepth 20000 in
theorem b_X11_tried_111 {l : Launch} {σ : ax_Sg} {P : Option Value → ax_Sg → Prop} (x2 : Int32) (x3 : Int32) (x4 : Int32) (x5 : Int32) (x6 : Int32) (x7 : Int32) (x8 : Int32) (x9 : Int32) (h : ax_br (x9 < σ 13 7) ((vp_in (24 + x9) 88 ∧ Ev l 144 111 [some (.ref 13), none, some (.int x2), some (.int x3), some (.int x4), some (.int x5), some (.int x6), some (.int x7), some (.int x8), some (.int (x9 + 1)), none] [] (ax_us σ 65 (Int32.toNatClampNeg (24 + x9)) (-1)) P)) (Ev l 144 140 [some (.ref 13), none, some (.int x2), some (.int x3), some (.int x4), some (.int x5), some (.int x6), some (.int x7), some (.int x8), some (.int 0), none] [] σ P)) : Ev l 144 111 [some (.ref 13), none, some (.int x2), some (.int x3), some (.int x4), some (.int x5), some (.int x6), some (.int x7), some (.int x8), some (.int x9), none] [] σ P := bl_X11_tried (ct := ct_X11_tried) (n := 15) h
set_option maxRecDepth 20000 in
theorem b_X11_tried_140 {l : Launch} {σ : ax_Sg} {P : Option Value → ax_Sg → Prop} (x2 : Int32) (x3 : Int32) (x4 : Int32) (x5 : Int32) (x6 : Int32) (x7 : Int32) (x8 : Int32) (x9 : Int32) (h : ax_br (x9 < x2) (Ev l 141 0 [some (.ref 13), some (.int 0), none, none] [] σ (fun o1 σ2 => ax_ov o1 (Ev l 144 140 [some (.ref 13), none, some (.int x2), some (.int x3), some (.int x4), some (.int x5), some (.int x6), some (.int x7), some (.int x8), some (.int (x9 + 1)), none] [] σ2 P))) (ax_br (x3 = 0) (Ev l 144 213 [some (.ref 13), none, none, none, some (.int x4), some (.int x5), some (.int x6), some (.int x7), none, some (.int ((σ 13 11) - x4)), some (.int 0)] [] σ P) (ax_br (x3 = 1) (Ev l 144 213 [some (.ref 13), none, none, none, some (.int x4), some (.int x5), some (.int x6), some (.int x7), none, some (.int ((σ 13 12) - x5)), some (.int 0)] [] σ P) (ax_br (x3 = 2) (Ev l 144 213 [some (.ref 13), none, none, none, some (.int x4), some (.int x5), some (.int x6), some (.int x7), none, some (.int ((σ 13 13) - x6)), some (.int 0)] [] σ P) (Ev l 143 0 [some (.ref 13), none, none] [] σ (fun o3 σ4 => ax_oi o3 (fun v5 => Ev l 144 213 [some (.ref 13), none, none, none, some (.int x4), some (.int x5), some (.int x6), some (.int x7), none, some (.int (v5 - x8)), some (.int 0)] [] σ4 P))))))) : Ev l 144 140 [some (.ref 13), none, some (.int x2), some (.int x3), some (.int x4), some (.int x5), some (.int x6), some (.int x7), some (.int x8), some (.int x9), none] [] σ P := bl_X11_tried (ct := ct_X11_tried) (n := 21) h
set_option maxRecDepth 20000 in
theorem b_X11_tried_213 {l : Launch} {σ : ax_Sg} {P : Option Value → ax_Sg → Prop} (x4 : Int32) (x5 : Int32) (x6 : Int32) (x7 : Int32) (x9 : Int32) (x10 : Int32) (h : ax_br (x10 < 88) ((vp_in x10 88 ∧ (vp_in x10 88 ∧ Ev l 144 213 [some (.ref 13), none, none, none, some (.int x4), some (.int x5), some (.int x6), some (.int x7), none, some (.int x9), some (.int (x10 + 1))] [] (ax_us σ 65 (Int32.toNatClampNeg x10) (σ 66 (Int32.toNatClampNeg x10))) P))) (P (some (.int x9)) (ax_us (ax_us (ax_us (ax_us σ 13 11 x4) 13 12 x5) 13 13 x6) 13 14 x7))) : Ev l 144 213 [some (.ref 13), none, none, none, some (.int x4), some (.int x5), some (.int x6), some (.int x7), none, some (.int x9), some (.int x10)] [] σ P := bl_X11_tried (ct := ct_X11_tried) (n := 18) h
def ct_X11_found : List (Nat × List Bool) := [(7, [true, true, true, true, true, true, true, true])]
theorem hm_X11_found : ax_m 145 = mi_X11_found := rfl
theorem bl_X11_found {l : Launch} {ct : List (Nat × List Bool)} {n pc : Nat} {L : ax_Lc} {st : List Value} {σ : ax_Sg} {P : Option Value → ax_Sg → Prop} (h : ax_bk tb_X11_found ct (fun pc L st σ => Ev l 145 pc L st σ P) (fun a L σ Q => Ev l a 0 L [] σ Q) P none n pc L st σ) : Ev l 145 pc L st σ P := ax_blk (m0 := mi_X11_found) (t := tb_X11_found) hm_X11_found ck_X11_found h
set_option maxRecDepth 20000 in
theorem b_X11_found_0 {l : Launch} {σ : ax_Sg} {P : Option Value → ax_Sg → Prop} (x1 : Int32) (x2 : Int32) (x3 : Int32) (x4 : Int32) (x5 : Int32) (h : Ev l 145 7 [some (.ref 13), some (.int x1), some (.int x2), some (.int x3), some (.int x4), some (.int x5), some (.int x5), some (.int 0)] [] σ P) : Ev l 145 0 [some (.ref 13), some (.int x1), some (.int x2), some (.int x3), some (.int x4), some (.int x5), none, none] [] σ P := bl_X11_found (ct := ct_X11_found) (n := 6) h
set_option maxRecDepth 20000 in
theorem b_X11_found_7 {l : Launch} {σ : ax_Sg} {P : Option Value → ax_Sg → Prop} (x1 : Int32) (x2 : Int32) (x3 : Int32) (x4 : Int32) (x5 : Int32) (x6 : Int32) (x7 : Int32) (h : ax_br (x7 < σ 13 15) (ax_br (x5 < 0) (P (some (.int (-1))) σ) ((vp_in x7 300 ∧ Ev l 108 0 [some (.long (Int32.toInt64 (σ 67 (Int32.toNatClampNeg x7)))), none, some (.long (Int32.toInt64 x1)), none, some (.long (Int32.toInt64 x2)), none] [] σ (fun o1 σ2 => ax_oi o1 (fun v3 => ax_br (v3 = 0) (Ev l 145 7 [some (.ref 13), some (.int x1), some (.int x2), some (.int x3), some (.int x4), some (.int x5), some (.int x6), some (.int (x7 + 1))] [] σ2 P) (ax_br (x3 = (-1)) (ax_br (x4 = (-1)) (ax_br (x6 = 0) (P (some (.int x7)) σ2) (Ev l 145 7 [some (.ref 13), some (.int x1), some (.int x2), some (.int x3), some (.int x4), some (.int x5), some (.int (x6 + (-1))), some (.int (x7 + 1))] [] σ2 P)) ((vp_in x7 300 ∧ ax_br (σ2 70 (Int32.toNatClampNeg x7) = x4) (ax_br (x6 = 0) (P (some (.int x7)) σ2) (Ev l 145 7 [some (.ref 13), some (.int x1), some (.int x2), some (.int x3), some (.int x4), some (.int x5), some (.int (x6 + (-1))), some (.int (x7 + 1))] [] σ2 P)) (Ev l 145 7 [some (.ref 13), some (.int x1), some (.int x2), some (.int x3), some (.int x4), some (.int x5), some (.int x6), some (.int (x7 + 1))] [] σ2 P)))) ((vp_in x7 300 ∧ ax_br (σ2 69 (Int32.toNatClampNeg x7) = x3) (ax_br (x4 = (-1)) (ax_br (x6 = 0) (P (some (.int x7)) σ2) (Ev l 145 7 [some (.ref 13), some (.int x1), some (.int x2), some (.int x3), some (.int x4), some (.int x5), some (.int (x6 + (-1))), some (.int (x7 + 1))] [] σ2 P)) ((vp_in x7 300 ∧ ax_br (σ2 70 (Int32.toNatClampNeg x7) = x4) (ax_br (x6 = 0) (P (some (.int x7)) σ2) (Ev l 145 7 [some (.ref 13), some (.int x1), some (.int x2), some (.int x3), some (.int x4), some (.int x5), some (.int (x6 + (-1))), some (.int (x7 + 1))] [] σ2 P)) (Ev l 145 7 [some (.ref 13), some (.int x1), some (.int x2), some (.int x3), some (.int x4), some (.int x5), some (.int x6), some (.int (x7 + 1))] [] σ2 P)))) (Ev l 145 7 [some (.ref 13), some (.int x1), some (.int x2), some (.int x3), some (.int x4), some (.int x5), some (.int x6), some (.int (x7 + 1))] [] σ2 P))))))))) (P (some (.int (-1))) σ)) : Ev l 145 7 [some (.ref 13), some (.int x1), some (.int x2), some (.int x3), some (.int x4), some (.int x5), some (.int x6), some (.int x7)] [] σ P := bl_X11_found (ct := ct_X11_found) (n := 42) h
def ct_X11_rode : List (Nat × List Bool) := []
theorem hm_X11_rode : ax_m 146 = mi_X11_rode := rfl
theorem bl_X11_rode {l : Launch} {ct : List (Nat × List Bool)} {n pc : Nat} {L : ax_Lc} {st : List Value} {σ : ax_Sg} {P : Option Value → ax_Sg → Prop} (h : ax_bk tb_X11_rode ct (fun pc L st σ => Ev l 146 pc L st σ P) (fun a L σ Q => Ev l a 0 L [] σ Q) P none n pc L st σ) : Ev l 146 pc L st σ P := ax_blk (m0 := mi_X11_rode) (t := tb_X11_rode) hm_X11_rode ck_X11_rode h
set_option maxRecDepth 20000 in
theorem b_X11_rode_0 {l : Launch} {σ : ax_Sg} {P : Option Value → ax_Sg → Prop} (x1 : Int32) (x2 : Int32) (h : Ev l 108 0 [some (.long (Int32.toInt64 x1)), none, some (.long 0), none, some (.long (Int32.toInt64 ((σ 13 15) - 1))), none] [] σ (fun o1 σ2 => ax_oi o1 (fun v3 => ax_br (v3 = 0) (P (some (.int (-1))) σ2) (((x2 = 0 → (vp_in x1 300 ∧ P (some (.int (σ2 67 (Int32.toNatClampNeg x1)))) σ2)) ∧ (¬ x2 = 0 → ((x2 = 1 → (vp_in x1 300 ∧ P (some (.int (σ2 68 (Int32.toNatClampNeg x1)))) σ2)) ∧ (¬ x2 = 1 → ((x2 = 2 → (vp_in x1 300 ∧ P (some (.int (σ2 69 (Int32.toNatClampNeg x1)))) σ2)) ∧ (¬ x2 = 2 → ((x2 = 3 → (vp_in x1 300 ∧ P (some (.int (σ2 70 (Int32.toNatClampNeg x1)))) σ2)) ∧ (¬ x2 = 3 → ((x2 = 4 → (vp_in x1 300 ∧ P (some (.int (σ2 71 (Int32.toNatClampNeg x1)))) σ2)) ∧ (¬ x2 = 4 → P (some (.int (-1))) σ2)))))))))))))) : Ev l 146 0 [some (.ref 13), some (.int x1), some (.int x2)] [] σ P := bl_X11_rode (ct := ct_X11_rode) (n := 18) h
def ct_X11_areTerms : List (Nat × List Bool) := []
theorem hm_X11_areTerms : ax_m 147 = mi_X11_areTerms := rfl
theorem bl_X11_areTerms {l : Launch} {ct : List (Nat × List Bool)} {n pc : Nat} {L : ax_Lc} {st : List Value} {σ : ax_Sg} {P : Option Value → ax_Sg → Prop} (h : ax_bk tb_X11_areTerms ct (fun pc L st σ => Ev l 147 pc L st σ P) (fun a L σ Q => Ev l a 0 L [] σ Q) P none n pc L st σ) : Ev l 147 pc L st σ P := ax_blk (m0 := mi_X11_areTerms) (t := tb_X11_areTerms) hm_X11_areTerms ck_X11_areTerms h
set_option maxRecDepth 20000 in
theorem b_X11_areTerms_0 {l : Launch} {σ : ax_Sg} {P : Option Value → ax_Sg → Prop} (x0 : Int32) (x1 : Int32) (h : Ev l 108 0 [some (.long (Int32.toInt64 x0)), none, some (.long 1), none, some (.long 40), none] [] σ (fun o1 σ2 => ax_oi o1 (fun v3 => ax_br (v3 = 0) ((vp_nar .boolean 0 = 0 ∧ P (some (.int 0)) σ2)) (Ev l 108 0 [some (.long (Int32.toInt64 x1)), none, some (.long 0), none, some (.long 500), none] [] σ2 (fun o4 σ5 => ax_oi o4 (fun v6 => ax_br (v6 = 0) ((vp_nar .boolean 0 = 0 ∧ P (some (.int 0)) σ5)) ((vp_nar .boolean 1 = 1 ∧ P (some (.int 1)) σ5)))))))) : Ev l 147 0 [some (.int x0), some (.int x1)] [] σ P := bl_X11_areTerms (ct := ct_X11_areTerms) (n := 16) h
def ct_X11_worth : List (Nat × List Bool) := [(41, [true, true, true, true, true, false, true, false, true])]
theorem hm_X11_worth : ax_m 148 = mi_X11_worth := rfl
theorem bl_X11_worth {l : Launch} {ct : List (Nat × List Bool)} {n pc : Nat} {L : ax_Lc} {st : List Value} {σ : ax_Sg} {P : Option Value → ax_Sg → Prop} (h : ax_bk tb_X11_worth ct (fun pc L st σ => Ev l 148 pc L st σ P) (fun a L σ Q => Ev l a 0 L [] σ Q) P none n pc L st σ) : Ev l 148 pc L st σ P := ax_blk (m0 := mi_X11_worth) (t := tb_X11_worth) hm_X11_worth ck_X11_worth h
set_option maxRecDepth 20000 in
theorem b_X11_worth_0 {l : Launch} {σ : ax_Sg} {P : Option Value → ax_Sg → Prop} (x1 : Int32) (x2 : Int32) (x3 : Int32) (h : (vp_in x1 12 ∧ ax_br (σ 58 (Int32.toNatClampNeg x1) = 2) ((vp_in x1 12 ∧ (¬ (10 : Int32) = 0 ∧ Ev l 148 41 [some (.ref 13), some (.int x1), some (.int x2), some (.int x3), some (.long (Int32.toInt64 (((σ 60 (Int32.toNatClampNeg x1)) * 9) / 10))), none, some (.long 0), none, some (.int 0)] [] σ P))) ((vp_in x1 12 ∧ Ev l 148 41 [some (.ref 13), some (.int x1), some (.int x2), some (.int x3), some (.long (Int32.toInt64 (σ 60 (Int32.toNatClampNeg x1)))), none, some (.long 0), none, some (.int 0)] [] σ P)))) : Ev l 148 0 [some (.ref 13), some (.int x1), some (.int x2), some (.int x3), none, none, none, none, none] [] σ P := bl_X11_worth (ct := ct_X11_worth) (n := 23) h
set_option maxRecDepth 20000 in
theorem b_X11_worth_41 {l : Launch} {σ : ax_Sg} {P : Option Value → ax_Sg → Prop} (x1 : Int32) (x2 : Int32) (x3 : Int32) (j4 : Int64) (j6 : Int64) (x8 : Int32) (h : ax_br (x8 < x2) ((vp_in x1 12 ∧ (¬ 1000 + (Int32.toInt64 x3) = 0 ∧ ax_br (lg_cmp ((((j6 + j4) - (Int32.toInt64 (σ 61 (Int32.toNatClampNeg x1)))) * 1000) / (1000 + (Int32.toInt64 x3))) 0 < 0) (Ev l 148 41 [some (.ref 13), some (.int x1), some (.int x2), some (.int x3), some (.long j4), none, some (.long 0), none, some (.int (x8 + 1))] [] σ P) (Ev l 148 41 [some (.ref 13), some (.int x1), some (.int x2), some (.int x3), some (.long j4), none, some (.long ((((j6 + j4) - (Int32.toInt64 (σ 61 (Int32.toNatClampNeg x1)))) * 1000) / (1000 + (Int32.toInt64 x3)))), none, some (.int (x8 + 1))] [] σ P)))) (P (some (.int (Int64.toInt32 j6))) σ)) : Ev l 148 41 [some (.ref 13), some (.int x1), some (.int x2), some (.int x3), some (.long j4), none, some (.long j6), none, some (.int x8)] [] σ P := bl_X11_worth (ct := ct_X11_worth) (n := 30) h
def ct_X11_value : List (Nat × List Bool) := []
theorem hm_X11_value : ax_m 149 = mi_X11_value := rfl
theorem bl_X11_value {l : Launch} {ct : List (Nat × List Bool)} {n pc : Nat} {L : ax_Lc} {st : List Value} {σ : ax_Sg} {P : Option Value → ax_Sg → Prop} (h : ax_bk tb_X11_value ct (fun pc L st σ => Ev l 149 pc L st σ P) (fun a L σ Q => Ev l a 0 L [] σ Q) P none n pc L st σ) : Ev l 149 pc L st σ P := ax_blk (m0 := mi_X11_value) (t := tb_X11_value) hm_X11_value ck_X11_value h
set_option maxRecDepth 20000 in
theorem b_X11_value_0 {l : Launch} {σ : ax_Sg} {P : Option Value → ax_Sg → Prop} (x1 : Int32) (x2 : Int32) (x3 : Int32) (h : Ev l 109 0 [some (.ref 13), some (.int x1)] [] σ (fun o1 σ2 => ax_oi o1 (fun v3 => ax_br (v3 = 0) (P (some (.int (-1))) σ2) (Ev l 147 0 [some (.int x2), some (.int x3)] [] σ2 (fun o4 σ5 => ax_oi o4 (fun v6 => ax_br (v6 = 0) (P (some (.int (-2))) σ5) (Ev l 148 0 [some (.ref 13), some (.int x1), some (.int x2), some (.int x3), none, none, none, none, none] [] σ5 (fun o7 σ8 => ax_oi o7 (fun v9 => P (some (.int v9)) σ8))))))))) : Ev l 149 0 [some (.ref 13), some (.int x1), some (.int x2), some (.int x3)] [] σ P := bl_X11_value (ct := ct_X11_value) (n := 16) h
def ct_X11_rent : List (Nat × List Bool) := []
theorem hm_X11_rent : ax_m 150 = mi_X11_rent := rfl
theorem bl_X11_rent {l : Launch} {ct : List (Nat × List Bool)} {n pc : Nat} {L : ax_Lc} {st : List Value} {σ : ax_Sg} {P : Option Value → ax_Sg → Prop} (h : ax_bk tb_X11_rent ct (fun pc L st σ => Ev l 150 pc L st σ P) (fun a L σ Q => Ev l a 0 L [] σ Q) P none n pc L st σ) : Ev l 150 pc L st σ P := ax_blk (m0 := mi_X11_rent) (t := tb_X11_rent) hm_X11_rent ck_X11_rent h
set_option maxRecDepth 20000 in
theorem b_X11_rent_0 {l : Launch} {σ : ax_Sg} {P : Option Value → ax_Sg → Prop} (x1 : Int32) (x2 : Int32) (x3 : Int32) (h : Ev l 109 0 [some (.ref 13), some (.int x1)] [] σ (fun o1 σ2 => ax_oi o1 (fun v3 => ax_br (v3 = 0) (P (some (.int (-1))) σ2) (Ev l 108 0 [some (.long (Int32.toInt64 x2)), none, some (.long 0), none, some (.long 9999), none] [] σ2 (fun o4 σ5 => ax_oi o4 (fun v6 => ax_br (v6 = 0) (P (some (.int (-2))) σ5) (Ev l 108 0 [some (.long (Int32.toInt64 x3)), none, some (.long 0), none, some (.long 9999), none] [] σ5 (fun o7 σ8 => ax_oi o7 (fun v9 => ax_br (v9 = 0) (P (some (.int (-2))) σ8) ((vp_in x1 12 ∧ (vp_in x1 12 ∧ (vp_in x1 12 ∧ P (some (.int (σ8 60 (Int32.toNatClampNeg x1)))) (ax_us (ax_us σ8 60 (Int32.toNatClampNeg x1) x2) 61 (Int32.toNatClampNeg x1) x3)))))))))))))) : Ev l 150 0 [some (.ref 13), some (.int x1), some (.int x2), some (.int x3), none] [] σ P := bl_X11_rent (ct := ct_X11_rent) (n := 34) h
def ct_X11_loan : List (Nat × List Bool) := []
theorem hm_X11_loan : ax_m 151 = mi_X11_loan := rfl
theorem bl_X11_loan {l : Launch} {ct : List (Nat × List Bool)} {n pc : Nat} {L : ax_Lc} {st : List Value} {σ : ax_Sg} {P : Option Value → ax_Sg → Prop} (h : ax_bk tb_X11_loan ct (fun pc L st σ => Ev l 151 pc L st σ P) (fun a L σ Q => Ev l a 0 L [] σ Q) P none n pc L st σ) : Ev l 151 pc L st σ P := ax_blk (m0 := mi_X11_loan) (t := tb_X11_loan) hm_X11_loan ck_X11_loan h
set_option maxRecDepth 20000 in
theorem b_X11_loan_0 {l : Launch} {σ : ax_Sg} {P : Option Value → ax_Sg → Prop} (x1 : Int32) (x2 : Int32) (x3 : Int32) (h : Ev l 109 0 [some (.ref 13), some (.int x1)] [] σ (fun o1 σ2 => ax_oi o1 (fun v3 => ax_br (v3 = 0) (P (some (.int (-1))) σ2) (Ev l 108 0 [some (.long (Int32.toInt64 x2)), none, some (.long 0), none, some (.long 9), none] [] σ2 (fun o4 σ5 => ax_oi o4 (fun v6 => ax_br (v6 = 0) (P (some (.int (-2))) σ5) (Ev l 108 0 [some (.long (Int32.toInt64 x3)), none, some (.long 1), none, some (.long 99999), none] [] σ5 (fun o7 σ8 => ax_oi o7 (fun v9 => ax_br (v9 = 0) (P (some (.int (-2))) σ8) (ax_br (σ8 13 42 = 30) (P (some (.int (-4))) σ8) ((vp_in (σ8 13 42) 30 ∧ (vp_in (σ8 13 42) 30 ∧ (vp_in (σ8 13 42) 30 ∧ P (some (.int (((σ8 13 42) + 1) - 1))) (ax_us (ax_us (ax_us (ax_us σ8 84 (Int32.toNatClampNeg (σ8 13 42)) x1) 85 (Int32.toNatClampNeg (σ8 13 42)) x2) 86 (Int32.toNatClampNeg (σ8 13 42)) x3) 13 42 ((σ8 13 42) + 1)))))))))))))))) : Ev l 151 0 [some (.ref 13), some (.int x1), some (.int x2), some (.int x3)] [] σ P := bl_X11_loan (ct := ct_X11_loan) (n := 50) h
end
section
/-! stretches of the reference, between cuts. Written by wip/whole/gen/gen_blocks.py -/
def ct_X11_owed : List (Nat × List Bool) := [(4, [true, true, true, true])]
theorem hm_X11_owed : ax_m 152 = mi_X11_owed := rfl
theorem bl_X11_owed {l : Launch} {ct : List (Nat × List Bool)} {n pc : Nat} {L : ax_Lc} {st : List Value} {σ : ax_Sg} {P : Option Value → ax_Sg → Prop} (h : ax_bk tb_X11_owed ct (fun pc L st σ => Ev l 152 pc L st σ P) (fun a L σ Q => Ev l a 0 L [] σ Q) P none n pc L st σ) : Ev l 152 pc L st σ P := ax_blk (m0 := mi_X11_owed) (t := tb_X11_owed) hm_X11_owed ck_X11_owed h
set_option maxRecDepth 20000 in
theorem b_X11_owed_0 {l : Launch} {σ : ax_Sg} {P : Option Value → ax_Sg → Prop} (x1 : Int32) (h : Ev l 152 4 [some (.ref 13), some (.int x1), some (.int 0), some (.int 0)] [] σ P) : Ev l 152 0 [some (.ref 13), some (.int x1), none, none] [] σ P := bl_X11_owed (ct := ct_X11_owed) (n := 6) h
set_option maxRecDepth 20000 in
theorem b_X11_owed_4 {l : Launch} {σ : ax_Sg} {P : Option Value → ax_Sg → Prop} (x1 : Int32) (x2 : Int32) (x3 : Int32) (h : ax_br (x3 < σ 13 42) ((vp_in x3 30 ∧ ax_br (σ 84 (Int32.toNatClampNeg x3) = x1) ((vp_in x3 30 ∧ Ev l 152 4 [some (.ref 13), some (.int x1), some (.int (x2 + (σ 86 (Int32.toNatClampNeg x3)))), some (.int (x3 + 1))] [] σ P)) (Ev l 152 4 [some (.ref 13), some (.int x1), some (.int (x2 + 0)), some (.int (x3 + 1))] [] σ P))) (P (some (.int x2)) σ)) : Ev l 152 4 [some (.ref 13), some (.int x1), some (.int x2), some (.int x3)] [] σ P := bl_X11_owed (ct := ct_X11_owed) (n := 22) h
def ct_X11_owes : List (Nat × List Bool) := []
theorem hm_X11_owes : ax_m 153 = mi_X11_owes := rfl
theorem bl_X11_owes {l : Launch} {ct : List (Nat × List Bool)} {n pc : Nat} {L : ax_Lc} {st : List Value} {σ : ax_Sg} {P : Option Value → ax_Sg → Prop} (h : ax_bk tb_X11_owes ct (fun pc L st σ => Ev l 153 pc L st σ P) (fun a L σ Q => Ev l a 0 L [] σ Q) P none n pc L st σ) : Ev l 153 pc L st σ P := ax_blk (m0 := mi_X11_owes) (t := tb_X11_owes) hm_X11_owes ck_X11_owes h
set_option maxRecDepth 20000 in
theorem b_X11_owes_0 {l : Launch} {σ : ax_Sg} {P : Option Value → ax_Sg → Prop} (x1 : Int32) (h : Ev l 109 0 [some (.ref 13), some (.int x1)] [] σ (fun o1 σ2 => ax_oi o1 (fun v3 => ax_br (v3 = 0) (P (some (.int (-1))) σ2) (Ev l 152 0 [some (.ref 13), some (.int x1), none, none] [] σ2 (fun o4 σ5 => ax_oi o4 (fun v6 => P (some (.int v6)) σ5)))))) : Ev l 153 0 [some (.ref 13), some (.int x1)] [] σ P := bl_X11_owes (ct := ct_X11_owes) (n := 10) h
def ct_X11_fails : List (Nat × List Bool) := [(16, [true, true, true, true, true])]
theorem hm_X11_fails : ax_m 154 = mi_X11_fails := rfl
theorem bl_X11_fails {l : Launch} {ct : List (Nat × List Bool)} {n pc : Nat} {L : ax_Lc} {st : List Value} {σ : ax_Sg} {P : Option Value → ax_Sg → Prop} (h : ax_bk tb_X11_fails ct (fun pc L st σ => Ev l 154 pc L st σ P) (fun a L σ Q => Ev l a 0 L [] σ Q) P none n pc L st σ) : Ev l 154 pc L st σ P := ax_blk (m0 := mi_X11_fails) (t := tb_X11_fails) hm_X11_fails ck_X11_fails h
set_option maxRecDepth 20000 in
theorem b_X11_fails_0 {l : Launch} {σ : ax_Sg} {P : Option Value → ax_Sg → Prop} (x1 : Int32) (x2 : Int32) (h : Ev l 147 0 [some (.int x1), some (.int x2)] [] σ (fun o1 σ2 => ax_oi o1 (fun v3 => ax_br (v3 = 0) (P (some (.int (-2))) σ2) (Ev l 154 16 [some (.ref 13), some (.int x1), some (.int x2), some (.int 0), some (.int 0)] [] σ2 P)))) : Ev l 154 0 [some (.ref 13), some (.int x1), some (.int x2), none, none] [] σ P := bl_X11_fails (ct := ct_X11_fails) (n := 10) h
set_option maxRecDepth 20000 in
theorem b_X11_fails_16 {l : Launch} {σ : ax_Sg} {P : Option Value → ax_Sg → Prop} (x1 : Int32) (x2 : Int32) (x3 : Int32) (x4 : Int32) (h : ax_br (x4 < σ 13 7) (Ev l 152 0 [some (.ref 13), some (.int x4), none, none] [] σ (fun o1 σ2 => ax_oi o1 (fun v3 => Ev l 148 0 [some (.ref 13), some (.int x4), some (.int x1), some (.int x2), none, none, none, none, none] [] σ2 (fun o4 σ5 => ax_oi o4 (fun v6 => ax_br (v6 < v3) (Ev l 154 16 [some (.ref 13), some (.int x1), some (.int x2), some (.int (x3 ||| ((1 : Int32) <<< (x4 &&& 31)))), some (.int (x4 + 1))] [] σ5 P) (Ev l 154 16 [some (.ref 13), some (.int x1), some (.int x2), some (.int (x3 ||| 0)), some (.int (x4 + 1))] [] σ5 P)))))) (P (some (.int x3)) σ)) : Ev l 154 16 [some (.ref 13), some (.int x1), some (.int x2), some (.int x3), some (.int x4)] [] σ P := bl_X11_fails (ct := ct_X11_fails) (n := 24) h
def ct_X11_parts : List (Nat × List Bool) := [(6, [true, true, false, true, false, true, false, false, false, false, false, false]), (19, [true, true, false, true, false, true, true, false, true, false, false, false]), (94, [true, true, false, true, false, true, true, false, true, true, false, true]), (192, [true, true, false, true, false, true, false, false, true, false, false, true])]
theorem hm_X11_parts : ax_m 155 = mi_X11_parts := rfl
theorem bl_X11_parts {l : Launch} {ct : List (Nat × List Bool)} {n pc : Nat} {L : ax_Lc} {st : List Value} {σ : ax_Sg} {P : Option Value → ax_Sg → Prop} (h : ax_bk tb_X11_parts ct (fun pc L st σ => Ev l 155 pc L st σ P) (fun a L σ Q => Ev l a 0 L [] σ Q) P none n pc L st σ) : Ev l 155 pc L st σ P := ax_blk (m0 := mi_X11_parts) (t := tb_X11_parts) hm_X11_parts ck_X11_parts h
set_option maxRecDepth 20000 in
theorem b_X11_parts_0 {l : Launch} {σ : ax_Sg} {P : Option Value → ax_Sg → Prop} (x1 : Int32) (x2 : Int32) (h : Ev l 155 6 [some (.ref 13), some (.int x1), none, some (.long (Int32.toInt64 x2)), none, some (.int 0), none, none, none, none, none, none] [] σ P) : Ev l 155 0 [some (.ref 13), some (.int x1), some (.int x2), none, none, none, none, none, none, none, none, none] [] σ P := bl_X11_parts (ct := ct_X11_parts) (n := 7) h
set_option maxRecDepth 20000 in
theorem b_X11_parts_6 {l : Launch} {σ : ax_Sg} {P : Option Value → ax_Sg → Prop} (x1 : Int32) (j3 : Int64) (x5 : Int32) (h : ax_br (x5 < 10) (Ev l 155 19 [some (.ref 13), some (.int x1), none, some (.long j3), none, some (.int x5), some (.long 0), none, some (.int 0), none, none, none] [] σ P) (P none σ)) : Ev l 155 6 [some (.ref 13), some (.int x1), none, some (.long j3), none, some (.int x5), none, none, none, none, none, none] [] σ P := bl_X11_parts (ct := ct_X11_parts) (n := 9) h
set_option maxRecDepth 20000 in
theorem b_X11_parts_19 {l : Launch} {σ : ax_Sg} {P : Option Value → ax_Sg → Prop} (x1 : Int32) (j3 : Int64) (x5 : Int32) (j6 : Int64) (x8 : Int32) (h : ax_br (x8 < σ 13 42) ((vp_in x8 30 ∧ ax_br (σ 84 (Int32.toNatClampNeg x8) = x1) ((vp_in x8 30 ∧ ax_br (σ 85 (Int32.toNatClampNeg x8) = x5) ((vp_in x8 30 ∧ Ev l 155 19 [some (.ref 13), some (.int x1), none, some (.long j3), none, some (.int x5), some (.long (j6 + (Int32.toInt64 (σ 86 (Int32.toNatClampNeg x8))))), none, some (.int (x8 + 1)), none, none, none] [] σ P)) (Ev l 155 19 [some (.ref 13), some (.int x1), none, some (.long j3), none, some (.int x5), some (.long (j6 + 0)), none, some (.int (x8 + 1)), none, none, none] [] σ P))) (Ev l 155 19 [some (.ref 13), some (.int x1), none, some (.long j3), none, some (.int x5), some (.long (j6 + 0)), none, some (.int (x8 + 1)), none, none, none] [] σ P))) (ax_br (0 < lg_cmp j6 j3) (Ev l 155 94 [some (.ref 13), some (.int x1), none, some (.long j3), none, some (.int x5), some (.long j6), none, some (.int 0), some (.long 0), none, some (.int 0)] [] σ P) (Ev l 155 94 [some (.ref 13), some (.int x1), none, some (.long j3), none, some (.int x5), some (.long j6), none, some (.int 1), some (.long 0), none, some (.int 0)] [] σ P))) : Ev l 155 19 [some (.ref 13), some (.int x1), none, some (.long j3), none, some (.int x5), some (.long j6), none, some (.int x8), none, none, none] [] σ P := bl_X11_parts (ct := ct_X11_parts) (n := 29) h
set_option maxRecDepth 20000 in
theorem b_X11_parts_94 {l : Launch} {σ : ax_Sg} {P : Option Value → ax_Sg → Prop} (x1 : Int32) (j3 : Int64) (x5 : Int32) (j6 : Int64) (x8 : Int32) (j9 : Int64) (x11 : Int32) (h : ax_br (x11 < σ 13 42) ((vp_in x11 30 ∧ ax_br (σ 84 (Int32.toNatClampNeg x11) = x1) ((vp_in x11 30 ∧ ax_br (σ 85 (Int32.toNatClampNeg x11) = x5) (ax_br (x8 = 0) ((vp_in x11 30 ∧ (¬ j6 = 0 ∧ (vp_in x11 30 ∧ (vp_in x11 30 ∧ Ev l 155 94 [some (.ref 13), some (.int x1), none, some (.long j3), none, some (.int x5), some (.long j6), none, some (.int x8), some (.long (j9 + (Int32.toInt64 ((upd (σ 87) (Int32.toNatClampNeg x11) (Int64.toInt32 ((j3 * (Int32.toInt64 (σ 86 (Int32.toNatClampNeg x11)))) / j6))) (Int32.toNatClampNeg x11))))), none, some (.int (x11 + 1))] [] (ax_us σ 87 (Int32.toNatClampNeg x11) (Int64.toInt32 ((j3 * (Int32.toInt64 (σ 86 (Int32.toNatClampNeg x11)))) / j6))) P))))) ((vp_in x11 30 ∧ (vp_in x11 30 ∧ (vp_in x11 30 ∧ Ev l 155 94 [some (.ref 13), some (.int x1), none, some (.long j3), none, some (.int x5), some (.long j6), none, some (.int x8), some (.long (j9 + (Int32.toInt64 ((upd (σ 87) (Int32.toNatClampNeg x11) (σ 86 (Int32.toNatClampNeg x11))) (Int32.toNatClampNeg x11))))), none, some (.int (x11 + 1))] [] (ax_us σ 87 (Int32.toNatClampNeg x11) (σ 86 (Int32.toNatClampNeg x11))) P))))) (Ev l 155 94 [some (.ref 13), some (.int x1), none, some (.long j3), none, some (.int x5), some (.long j6), none, some (.int x8), some (.long j9), none, some (.int (x11 + 1))] [] σ P))) (Ev l 155 94 [some (.ref 13), some (.int x1), none, some (.long j3), none, some (.int x5), some (.long j6), none, some (.int x8), some (.long j9), none, some (.int (x11 + 1))] [] σ P))) (Ev l 155 192 [some (.ref 13), some (.int x1), none, some (.long (j3 - j9)), none, some (.int x5), none, none, some (.int x8), none, none, some (.int 0)] [] σ P)) : Ev l 155 94 [some (.ref 13), some (.int x1), none, some (.long j3), none, some (.int x5), some (.long j6), none, some (.int x8), some (.long j9), none, some (.int x11)] [] σ P := bl_X11_parts (ct := ct_X11_parts) (n := 44) h
set_option maxRecDepth 20000 in
theorem b_X11_parts_192 {l : Launch} {σ : ax_Sg} {P : Option Value → ax_Sg → Prop} (x1 : Int32) (j3 : Int64) (x5 : Int32) (x8 : Int32) (x11 : Int32) (h : ax_br (x11 < σ 13 42) (ax_br (x8 = 0) (ax_br (0 < lg_cmp j3 0) ((vp_in x11 30 ∧ ax_br (σ 84 (Int32.toNatClampNeg x11) = x1) ((vp_in x11 30 ∧ ax_br (σ 85 (Int32.toNatClampNeg x11) = x5) ((vp_in x11 30 ∧ (vp_in x11 30 ∧ ax_br (σ 87 (Int32.toNatClampNeg x11) = σ 86 (Int32.toNatClampNeg x11)) (Ev l 155 192 [some (.ref 13), some (.int x1), none, some (.long j3), none, some (.int x5), none, none, some (.int x8), none, none, some (.int (x11 + 1))] [] σ P) ((vp_in x11 30 ∧ (vp_in x11 30 ∧ Ev l 155 192 [some (.ref 13), some (.int x1), none, some (.long (j3 - 1)), none, some (.int x5), none, none, some (.int x8), none, none, some (.int (x11 + 1))] [] (ax_us σ 87 (Int32.toNatClampNeg x11) ((σ 87 (Int32.toNatClampNeg x11)) + 1)) P)))))) (Ev l 155 192 [some (.ref 13), some (.int x1), none, some (.long j3), none, some (.int x5), none, none, some (.int x8), none, none, some (.int (x11 + 1))] [] σ P))) (Ev l 155 192 [some (.ref 13), some (.int x1), none, some (.long j3), none, some (.int x5), none, none, some (.int x8), none, none, some (.int (x11 + 1))] [] σ P))) (Ev l 155 6 [some (.ref 13), some (.int x1), none, some (.long j3), none, some (.int (x5 + 1)), none, none, none, none, none, none] [] σ P)) (Ev l 155 6 [some (.ref 13), some (.int x1), none, some (.long j3), none, some (.int (x5 + 1)), none, none, none, none, none, none] [] σ P)) (Ev l 155 6 [some (.ref 13), some (.int x1), none, some (.long j3), none, some (.int (x5 + 1)), none, none, none, none, none, none] [] σ P)) : Ev l 155 192 [some (.ref 13), some (.int x1), none, some (.long j3), none, some (.int x5), none, none, some (.int x8), none, none, some (.int x11)] [] σ P := bl_X11_parts (ct := ct_X11_parts) (n := 47) h
def ct_X11_part : List (Nat × List Bool) := []
theorem hm_X11_part : ax_m 156 = mi_X11_part := rfl
theorem bl_X11_part {l : Launch} {ct : List (Nat × List Bool)} {n pc : Nat} {L : ax_Lc} {st : List Value} {σ : ax_Sg} {P : Option Value → ax_Sg → Prop} (h : ax_bk tb_X11_part ct (fun pc L st σ => Ev l 156 pc L st σ P) (fun a L σ Q => Ev l a 0 L [] σ Q) P none n pc L st σ) : Ev l 156 pc L st σ P := ax_blk (m0 := mi_X11_part) (t := tb_X11_part) hm_X11_part ck_X11_part h
set_option maxRecDepth 20000 in
theorem b_X11_part_0 {l : Launch} {σ : ax_Sg} {P : Option Value → ax_Sg → Prop} (x1 : Int32) (x2 : Int32) (h : Ev l 108 0 [some (.long (Int32.toInt64 x1)), none, some (.long 0), none, some (.long (Int32.toInt64 ((σ 13 42) - 1))), none] [] σ (fun o1 σ2 => ax_oi o1 (fun v3 => ax_br (v3 = 0) (P (some (.int (-1))) σ2) (Ev l 108 0 [some (.long (Int32.toInt64 x2)), none, some (.long 0), none, some (.long 999999), none] [] σ2 (fun o4 σ5 => ax_oi o4 (fun v6 => ax_br (v6 = 0) (P (some (.int (-2))) σ5) ((vp_in x1 30 ∧ Ev l 155 0 [some (.ref 13), some (.int (σ5 84 (Int32.toNatClampNeg x1))), some (.int x2), none, none, none, none, none, none, none, none, none] [] σ5 (fun o7 σ8 => ax_ov o7 ((vp_in x1 30 ∧ P (some (.int (σ8 87 (Int32.toNatClampNeg x1)))) σ8))))))))))) : Ev l 156 0 [some (.ref 13), some (.int x1), some (.int x2)] [] σ P := bl_X11_part (ct := ct_X11_part) (n := 29) h
def ct_X11_over : List (Nat × List Bool) := []
theorem hm_X11_over : ax_m 157 = mi_X11_over := rfl
theorem bl_X11_over {l : Launch} {ct : List (Nat × List Bool)} {n pc : Nat} {L : ax_Lc} {st : List Value} {σ : ax_Sg} {P : Option Value → ax_Sg → Prop} (h : ax_bk tb_X11_over ct (fun pc L st σ => Ev l 157 pc L st σ P) (fun a L σ Q => Ev l a 0 L [] σ Q) P none n pc L st σ) : Ev l 157 pc L st σ P := ax_blk (m0 := mi_X11_over) (t := tb_X11_over) hm_X11_over ck_X11_over h
set_option maxRecDepth 20000 in
theorem b_X11_over_0 {l : Launch} {σ : ax_Sg} {P : Option Value → ax_Sg → Prop} (x1 : Int32) (x2 : Int32) (h : Ev l 109 0 [some (.ref 13), some (.int x1)] [] σ (fun o1 σ2 => ax_oi o1 (fun v3 => ax_br (v3 = 0) (P (some (.int (-1))) σ2) (Ev l 108 0 [some (.long (Int32.toInt64 x2)), none, some (.long 0), none, some (.long 999999), none] [] σ2 (fun o4 σ5 => ax_oi o4 (fun v6 => ax_br (v6 = 0) (P (some (.int (-2))) σ5) (Ev l 152 0 [some (.ref 13), some (.int x1), none, none] [] σ5 (fun o7 σ8 => ax_oi o7 (fun v9 => ax_br (v9 < x2) (P (some (.int (x2 - v9))) σ8) (P (some (.int 0)) σ8)))))))))) : Ev l 157 0 [some (.ref 13), some (.int x1), some (.int x2), none] [] σ P := bl_X11_over (ct := ct_X11_over) (n := 23) h
def ct_X11_rescue : List (Nat × List Bool) := [(80, [true, true, false, false, false, true, false, true])]
theorem hm_X11_rescue : ax_m 158 = mi_X11_rescue := rfl
theorem bl_X11_rescue {l : Launch} {ct : List (Nat × List Bool)} {n pc : Nat} {L : ax_Lc} {st : List Value} {σ : ax_Sg} {P : Option Value → ax_Sg → Prop} (h : ax_bk tb_X11_rescue ct (fun pc L st σ => Ev l 158 pc L st σ P) (fun a L σ Q => Ev l a 0 L [] σ Q) P none n pc L st σ) : Ev l 158 pc L st σ P := ax_blk (m0 := mi_X11_rescue) (t := tb_X11_rescue) hm_X11_rescue ck_X11_rescue h
set_option maxRecDepth 20000 in
theorem b_X11_rescue_0 {l : Launch} {σ : ax_Sg} {P : Option Value → ax_Sg → Prop} (x1 : Int32) (x2 : Int32) (x3 : Int32) (x4 : Int32) (h : Ev l 109 0 [some (.ref 13), some (.int x1)] [] σ (fun o1 σ2 => ax_oi o1 (fun v3 => ax_br (v3 = 0) (P (some (.int (-1))) σ2) (Ev l 108 0 [some (.long (Int32.toInt64 x2)), none, some (.long 0), none, some (.long 100), none] [] σ2 (fun o4 σ5 => ax_oi o4 (fun v6 => ax_br (v6 = 0) (P (some (.int (-2))) σ5) (Ev l 147 0 [some (.int x3), some (.int x4)] [] σ5 (fun o7 σ8 => ax_oi o7 (fun v9 => ax_br (v9 = 0) (P (some (.int (-2))) σ8) (Ev l 152 0 [some (.ref 13), some (.int x1), none, none] [] σ8 (fun o10 σ11 => ax_oi o10 (fun v12 => Ev l 148 0 [some (.ref 13), some (.int x1), some (.int x3), some (.int x4), none, none, none, none, none] [] σ11 (fun o13 σ14 => ax_oi o13 (fun v15 => ax_br (v15 < v12) ((¬ (100 : Int64) = 0 ∧ Ev l 155 0 [some (.ref 13), some (.int x1), some (.int (Int64.toInt32 (((Int32.toInt64 v15) * (Int32.toInt64 x2)) / 100))), none, none, none, none, none, none, none, none, none] [] σ14 (fun o16 σ17 => ax_ov o16 (Ev l 158 80 [some (.ref 13), some (.int x1), none, none, none, some (.int v12), none, some (.int 0)] [] σ17 P)))) (P (some (.int (-3))) σ14))))))))))))))) : Ev l 158 0 [some (.ref 13), some (.int x1), some (.int x2), some (.int x3), some (.int x4), none, none, none] [] σ P := bl_X11_rescue (ct := ct_X11_rescue) (n := 42) h
set_option maxRecDepth 20000 in
theorem b_X11_rescue_80 {l : Launch} {σ : ax_Sg} {P : Option Value → ax_Sg → Prop} (x1 : Int32) (x5 : Int32) (x7 : Int32) (h : ax_br (x7 < σ 13 42) ((vp_in x7 30 ∧ ax_br (σ 84 (Int32.toNatClampNeg x7) = x1) ((vp_in x7 30 ∧ (vp_in x7 30 ∧ Ev l 158 80 [some (.ref 13), some (.int x1), none, none, none, some (.int x5), none, some (.int (x7 + 1))] [] (ax_us σ 86 (Int32.toNatClampNeg x7) (σ 87 (Int32.toNatClampNeg x7))) P))) (Ev l 158 80 [some (.ref 13), some (.int x1), none, none, none, some (.int x5), none, some (.int (x7 + 1))] [] σ P))) (Ev l 152 0 [some (.ref 13), some (.int x1), none, none] [] σ (fun o1 σ2 => ax_oi o1 (fun v3 => P (some (.int (x5 - v3))) σ2)))) : Ev l 158 80 [some (.ref 13), some (.int x1), none, none, none, some (.int x5), none, some (.int x7)] [] σ P := bl_X11_rescue (ct := ct_X11_rescue) (n := 22) h
def ct_X11_swap : List (Nat × List Bool) := []
theorem hm_X11_swap : ax_m 159 = mi_X11_swap := rfl
theorem bl_X11_swap {l : Launch} {ct : List (Nat × List Bool)} {n pc : Nat} {L : ax_Lc} {st : List Value} {σ : ax_Sg} {P : Option Value → ax_Sg → Prop} (h : ax_bk tb_X11_swap ct (fun pc L st σ => Ev l 159 pc L st σ P) (fun a L σ Q => Ev l a 0 L [] σ Q) P none n pc L st σ) : Ev l 159 pc L st σ P := ax_blk (m0 := mi_X11_swap) (t := tb_X11_swap) hm_X11_swap ck_X11_swap h
set_option maxRecDepth 20000 in
theorem b_X11_swap_0 {l : Launch} {σ : ax_Sg} {P : Option Value → ax_Sg → Prop} (x1 : Int32) (h : Ev l 108 0 [some (.long (Int32.toInt64 x1)), none, some (.long 1), none, some (.long 255), none] [] σ (fun o1 σ2 => ax_oi o1 (fun v3 => ax_br (v3 = 0) (P (some (.int (-2))) σ2) (ax_br (σ2 13 47 = 6) (P (some (.int (-4))) σ2) ((vp_in (σ2 13 47) 6 ∧ P (some (.int (((σ2 13 47) + 1) - 1))) (ax_us (ax_us σ2 88 (Int32.toNatClampNeg (σ2 13 47)) x1) 13 47 ((σ2 13 47) + 1)))))))) : Ev l 159 0 [some (.ref 13), some (.int x1)] [] σ P := bl_X11_swap (ct := ct_X11_swap) (n := 28) h
def ct_X11_unswap : List (Nat × List Bool) := []
theorem hm_X11_unswap : ax_m 160 = mi_X11_unswap := rfl
theorem bl_X11_unswap {l : Launch} {ct : List (Nat × List Bool)} {n pc : Nat} {L : ax_Lc} {st : List Value} {σ : ax_Sg} {P : Option Value → ax_Sg → Prop} (h : ax_bk tb_X11_unswap ct (fun pc L st σ => Ev l 160 pc L st σ P) (fun a L σ Q => Ev l a 0 L [] σ Q) P none n pc L st σ) : Ev l 160 pc L st σ P := ax_blk (m0 := mi_X11_unswap) (t := tb_X11_unswap) hm_X11_unswap ck_X11_unswap h
set_option maxRecDepth 20000 in
theorem b_X11_unswap_0 {l : Launch} {σ : ax_Sg} {P : Option Value → ax_Sg → Prop}  (h : P (some (.int (σ 13 47))) (ax_us σ 13 47 0)) : Ev l 160 0 [some (.ref 13), none] [] σ P := bl_X11_unswap (ct := ct_X11_unswap) (n := 9) h
def ct_X11_hourFrom : List (Nat × List Bool) := [(2, [true, true, false, true])]
theorem hm_X11_hourFrom : ax_m 163 = mi_X11_hourFrom := rfl
theorem bl_X11_hourFrom {l : Launch} {ct : List (Nat × List Bool)} {n pc : Nat} {L : ax_Lc} {st : List Value} {σ : ax_Sg} {P : Option Value → ax_Sg → Prop} (h : ax_bk tb_X11_hourFrom ct (fun pc L st σ => Ev l 163 pc L st σ P) (fun a L σ Q => Ev l a 0 L [] σ Q) P none n pc L st σ) : Ev l 163 pc L st σ P := ax_blk (m0 := mi_X11_hourFrom) (t := tb_X11_hourFrom) hm_X11_hourFrom ck_X11_hourFrom h
set_option maxRecDepth 20000 in
theorem b_X11_hourFrom_0 {l : Launch} {σ : ax_Sg} {P : Option Value → ax_Sg → Prop} (x1 : Int32) (x2 : Int32) (h : Ev l 163 2 [some (.ref 13), some (.int x1), none, some (.int x2)] [] σ P) : Ev l 163 0 [some (.ref 13), some (.int x1), some (.int x2), none] [] σ P := bl_X11_hourFrom (ct := ct_X11_hourFrom) (n := 4) h
set_option maxRecDepth 20000 in
theorem b_X11_hourFrom_2 {l : Launch} {σ : ax_Sg} {P : Option Value → ax_Sg → Prop} (x1 : Int32) (x3 : Int32) (h : ax_br (x3 < 8) ((vp_in x1 6 ∧ ax_br (((σ 88 (Int32.toNatClampNeg x1)) >>> (x3 &&& 31)) &&& 1 = 0) (Ev l 163 2 [some (.ref 13), some (.int x1), none, some (.int (x3 + 1))] [] σ P) (P (some (.int x3)) σ))) (P (some (.int x3)) σ)) : Ev l 163 2 [some (.ref 13), some (.int x1), none, some (.int x3)] [] σ P := bl_X11_hourFrom (ct := ct_X11_hourFrom) (n := 16) h
def ct_X11_goesOn : List (Nat × List Bool) := [(7, [true, true])]
theorem hm_X11_goesOn : ax_m 164 = mi_X11_goesOn := rfl
theorem bl_X11_goesOn {l : Launch} {ct : List (Nat × List Bool)} {n pc : Nat} {L : ax_Lc} {st : List Value} {σ : ax_Sg} {P : Option Value → ax_Sg → Prop} (h : ax_bk tb_X11_goesOn ct (fun pc L st σ => Ev l 164 pc L st σ P) (fun a L σ Q => Ev l a 0 L [] σ Q) P none n pc L st σ) : Ev l 164 pc L st σ P := ax_blk (m0 := mi_X11_goesOn) (t := tb_X11_goesOn) hm_X11_goesOn ck_X11_goesOn h
set_option maxRecDepth 20000 in
theorem b_X11_goesOn_0 {l : Launch} {σ : ax_Sg} {P : Option Value → ax_Sg → Prop}  (h : Ev l 164 7 [some (.ref 13), some (.int ((σ 13 47) - 1))] [] σ P) : Ev l 164 0 [some (.ref 13), none] [] σ P := bl_X11_goesOn (ct := ct_X11_goesOn) (n := 7) h
set_option maxRecDepth 20000 in
theorem b_X11_goesOn_7 {l : Launch} {σ : ax_Sg} {P : Option Value → ax_Sg → Prop} (x1 : Int32) (h : ax_br (x1 < 0) ((vp_nar .boolean 0 = 0 ∧ P (some (.int 0)) σ)) ((vp_in x1 6 ∧ Ev l 163 0 [some (.ref 13), some (.int x1), some (.int ((σ 89 (Int32.toNatClampNeg x1)) + 1)), none] [] σ (fun o1 σ2 => ax_oi o1 (fun v3 => (vp_in x1 6 ∧ (vp_in x1 6 ∧ ax_br ((upd (σ2 89) (Int32.toNatClampNeg x1) v3) (Int32.toNatClampNeg x1) < 8) ((vp_nar .boolean 1 = 1 ∧ P (some (.int 1)) (ax_us σ2 89 (Int32.toNatClampNeg x1) v3))) (Ev l 163 0 [some (.ref 13), some (.int x1), some (.int 0), none] [] (ax_us σ2 89 (Int32.toNatClampNeg x1) v3) (fun o4 σ5 => ax_oi o4 (fun v6 => (vp_in x1 6 ∧ Ev l 164 7 [some (.ref 13), some (.int (x1 + (-1)))] [] (ax_us σ5 89 (Int32.toNatClampNeg x1) v6) P))))))))))) : Ev l 164 7 [some (.ref 13), some (.int x1)] [] σ P := bl_X11_goesOn (ct := ct_X11_goesOn) (n := 33) h
def ct_X11_asksAt : List (Nat × List Bool) := [(4, [true, true, true, true])]
theorem hm_X11_asksAt : ax_m 161 = mi_X11_asksAt := rfl
theorem bl_X11_asksAt {l : Launch} {ct : List (Nat × List Bool)} {n pc : Nat} {L : ax_Lc} {st : List Value} {σ : ax_Sg} {P : Option Value → ax_Sg → Prop} (h : ax_bk tb_X11_asksAt ct (fun pc L st σ => Ev l 161 pc L st σ P) (fun a L σ Q => Ev l a 0 L [] σ Q) P none n pc L st σ) : Ev l 161 pc L st σ P := ax_blk (m0 := mi_X11_asksAt) (t := tb_X11_asksAt) hm_X11_asksAt ck_X11_asksAt h
set_option maxRecDepth 20000 in
theorem b_X11_asksAt_0 {l : Launch} {σ : ax_Sg} {P : Option Value → ax_Sg → Prop} (x1 : Int32) (h : Ev l 161 4 [some (.ref 13), some (.int x1), some (.int 0), some (.int 0)] [] σ P) : Ev l 161 0 [some (.ref 13), some (.int x1), none, none] [] σ P := bl_X11_asksAt (ct := ct_X11_asksAt) (n := 6) h
set_option maxRecDepth 20000 in
theorem b_X11_asksAt_4 {l : Launch} {σ : ax_Sg} {P : Option Value → ax_Sg → Prop} (x1 : Int32) (x2 : Int32) (x3 : Int32) (h : ax_br (x3 < 5) ((vp_in ((5 * (12 + x1)) + x3) 120 ∧ Ev l 161 4 [some (.ref 13), some (.int x1), some (.int (x2 + (σ 72 (Int32.toNatClampNeg ((5 * (12 + x1)) + x3))))), some (.int (x3 + 1))] [] σ P)) (P (some (.int x2)) σ)) : Ev l 161 4 [some (.ref 13), some (.int x1), some (.int x2), some (.int x3)] [] σ P := bl_X11_asksAt (ct := ct_X11_asksAt) (n := 20) h
def ct_X11_looks : List (Nat × List Bool) := [(6, [true, true, true, true]), (27, [true, true, true, true]), (133, [true, false, false, true])]
theorem hm_X11_looks : ax_m 162 = mi_X11_looks := rfl
theorem bl_X11_looks {l : Launch} {ct : List (Nat × List Bool)} {n pc : Nat} {L : ax_Lc} {st : List Value} {σ : ax_Sg} {P : Option Value → ax_Sg → Prop} (h : ax_bk tb_X11_looks ct (fun pc L st σ => Ev l 162 pc L st σ P) (fun a L σ Q => Ev l a 0 L [] σ Q) P none n pc L st σ) : Ev l 162 pc L st σ P := ax_blk (m0 := mi_X11_looks) (t := tb_X11_looks) hm_X11_looks ck_X11_looks h
set_option maxRecDepth 20000 in
theorem b_X11_looks_0 {l : Launch} {σ : ax_Sg} {P : Option Value → ax_Sg → Prop}  (h : Ev l 162 6 [some (.ref 13), some (.int 0), some (.int 0), some (.int 0)] [] σ P) : Ev l 162 0 [some (.ref 13), none, none, none] [] σ P := bl_X11_looks (ct := ct_X11_looks) (n := 8) h
set_option maxRecDepth 20000 in
theorem b_X11_looks_6 {l : Launch} {σ : ax_Sg} {P : Option Value → ax_Sg → Prop} (x1 : Int32) (x2 : Int32) (x3 : Int32) (h : ax_br (x3 < 8) ((vp_in x3 8 ∧ Ev l 162 6 [some (.ref 13), some (.int x1), some (.int x2), some (.int (x3 + 1))] [] (ax_us σ 91 (Int32.toNatClampNeg x3) 0) P)) (Ev l 162 27 [some (.ref 13), some (.int x1), some (.int x2), some (.int 0)] [] σ P)) : Ev l 162 6 [some (.ref 13), some (.int x1), some (.int x2), some (.int x3)] [] σ P := bl_X11_looks (ct := ct_X11_looks) (n := 12) h
set_option maxRecDepth 20000 in
theorem b_X11_looks_27 {l : Launch} {σ : ax_Sg} {P : Option Value → ax_Sg → Prop} (x1 : Int32) (x2 : Int32) (x3 : Int32) (h : ax_br (x3 < σ 13 47) ((vp_in x3 6 ∧ (vp_in (σ 89 (Int32.toNatClampNeg x3)) 8 ∧ (vp_in (σ 89 (Int32.toNatClampNeg x3)) 8 ∧ (vp_in x3 6 ∧ (vp_in (σ 89 (Int32.toNatClampNeg x3)) 8 ∧ ax_br (x1 < (upd (σ 91) (Int32.toNatClampNeg (σ 89 (Int32.toNatClampNeg x3))) ((σ 91 (Int32.toNatClampNeg (σ 89 (Int32.toNatClampNeg x3)))) + 1)) (Int32.toNatClampNeg (σ 89 (Int32.toNatClampNeg x3)))) ((vp_in x3 6 ∧ (vp_in (σ 89 (Int32.toNatClampNeg x3)) 8 ∧ (vp_in x3 6 ∧ Ev l 161 0 [some (.ref 13), some (.int (σ 89 (Int32.toNatClampNeg x3))), none, none] [] (ax_us σ 91 (Int32.toNatClampNeg (σ 89 (Int32.toNatClampNeg x3))) ((σ 91 (Int32.toNatClampNeg (σ 89 (Int32.toNatClampNeg x3)))) + 1)) (fun o1 σ2 => ax_oi o1 (fun v3 => Ev l 162 27 [some (.ref 13), some (.int ((upd (σ 91) (Int32.toNatClampNeg (σ 89 (Int32.toNatClampNeg x3))) ((σ 91 (Int32.toNatClampNeg (σ 89 (Int32.toNatClampNeg x3)))) + 1)) (Int32.toNatClampNeg (σ 89 (Int32.toNatClampNeg x3))))), some (.int (x2 + v3)), some (.int (x3 + 1))] [] σ2 P)))))) ((vp_in x3 6 ∧ Ev l 161 0 [some (.ref 13), some (.int (σ 89 (Int32.toNatClampNeg x3))), none, none] [] (ax_us σ 91 (Int32.toNatClampNeg (σ 89 (Int32.toNatClampNeg x3))) ((σ 91 (Int32.toNatClampNeg (σ 89 (Int32.toNatClampNeg x3)))) + 1)) (fun o4 σ5 => ax_oi o4 (fun v6 => Ev l 162 27 [some (.ref 13), some (.int x1), some (.int (x2 + v6)), some (.int (x3 + 1))] [] σ5 P)))))))))) (ax_br (σ 13 48 < x1) (P none σ) (ax_br (x1 = σ 13 48) (ax_br (x2 < σ 13 49) (Ev l 162 133 [some (.ref 13), none, none, some (.int 0)] [] (ax_us (ax_us σ 13 48 x1) 13 49 x2) P) (P none σ)) (Ev l 162 133 [some (.ref 13), none, none, some (.int 0)] [] (ax_us (ax_us σ 13 48 x1) 13 49 x2) P)))) : Ev l 162 27 [some (.ref 13), some (.int x1), some (.int x2), some (.int x3)] [] σ P := bl_X11_looks (ct := ct_X11_looks) (n := 45) h
set_option maxRecDepth 20000 in
theorem b_X11_looks_133 {l : Launch} {σ : ax_Sg} {P : Option Value → ax_Sg → Prop} (x3 : Int32) (h : ax_br (x3 < σ 13 47) ((vp_in x3 6 ∧ (vp_in x3 6 ∧ Ev l 162 133 [some (.ref 13), none, none, some (.int (x3 + 1))] [] (ax_us σ 90 (Int32.toNatClampNeg x3) (σ 89 (Int32.toNatClampNeg x3))) P))) (P none σ)) : Ev l 162 133 [some (.ref 13), none, none, some (.int x3)] [] σ P := bl_X11_looks (ct := ct_X11_looks) (n := 16) h
def ct_X11_spreads : List (Nat × List Bool) := [(2, [true, true]), (30, [true, true])]
theorem hm_X11_spreads : ax_m 165 = mi_X11_spreads := rfl
theorem bl_X11_spreads {l : Launch} {ct : List (Nat × List Bool)} {n pc : Nat} {L : ax_Lc} {st : List Value} {σ : ax_Sg} {P : Option Value → ax_Sg → Prop} (h : ax_bk tb_X11_spreads ct (fun pc L st σ => Ev l 165 pc L st σ P) (fun a L σ Q => Ev l a 0 L [] σ Q) P none n pc L st σ) : Ev l 165 pc L st σ P := ax_blk (m0 := mi_X11_spreads) (t := tb_X11_spreads) hm_X11_spreads ck_X11_spreads h
set_option maxRecDepth 20000 in
theorem b_X11_spreads_0 {l : Launch} {σ : ax_Sg} {P : Option Value → ax_Sg → Prop}  (h : Ev l 165 2 [some (.ref 13), some (.int 0)] [] σ P) : Ev l 165 0 [some (.ref 13), none] [] σ P := bl_X11_spreads (ct := ct_X11_spreads) (n := 4) h
set_option maxRecDepth 20000 in
theorem b_X11_spreads_2 {l : Launch} {σ : ax_Sg} {P : Option Value → ax_Sg → Prop} (x1 : Int32) (h : ax_br (x1 < σ 13 47) (Ev l 163 0 [some (.ref 13), some (.int x1), some (.int 0), none] [] σ (fun o1 σ2 => ax_oi o1 (fun v3 => (vp_in x1 6 ∧ Ev l 165 2 [some (.ref 13), some (.int (x1 + 1))] [] (ax_us σ2 89 (Int32.toNatClampNeg x1) v3) P)))) (Ev l 165 30 [some (.ref 13), some (.int 1)] [] σ P)) : Ev l 165 2 [some (.ref 13), some (.int x1)] [] σ P := bl_X11_spreads (ct := ct_X11_spreads) (n := 16) h
set_option maxRecDepth 20000 in
theorem b_X11_spreads_30 {l : Launch} {σ : ax_Sg} {P : Option Value → ax_Sg → Prop} (x1 : Int32) (h : ax_br (x1 = 0) (P none σ) (Ev l 162 0 [some (.ref 13), none, none, none] [] σ (fun o1 σ2 => ax_ov o1 (Ev l 164 0 [some (.ref 13), none] [] σ2 (fun o3 σ4 => ax_oi o3 (fun v5 => Ev l 165 30 [some (.ref 13), some (.int v5)] [] σ4 P)))))) : Ev l 165 30 [some (.ref 13), some (.int x1)] [] σ P := bl_X11_spreads (ct := ct_X11_spreads) (n := 10) h
def ct_X11_spread : List (Nat × List Bool) := []
theorem hm_X11_spread : ax_m 166 = mi_X11_spread := rfl
theorem bl_X11_spread {l : Launch} {ct : List (Nat × List Bool)} {n pc : Nat} {L : ax_Lc} {st : List Value} {σ : ax_Sg} {P : Option Value → ax_Sg → Prop} (h : ax_bk tb_X11_spread ct (fun pc L st σ => Ev l 166 pc L st σ P) (fun a L σ Q => Ev l a 0 L [] σ Q) P none n pc L st σ) : Ev l 166 pc L st σ P := ax_blk (m0 := mi_X11_spread) (t := tb_X11_spread) hm_X11_spread ck_X11_spread h
set_option maxRecDepth 20000 in
theorem b_X11_spread_0 {l : Launch} {σ : ax_Sg} {P : Option Value → ax_Sg → Prop} (x1 : Int32) (h : Ev l 108 0 [some (.long (Int32.toInt64 x1)), none, some (.long 0), none, some (.long (Int32.toInt64 (1 + (σ 13 47)))), none] [] σ (fun o1 σ2 => ax_oi o1 (fun v3 => ax_br (v3 = 0) (P (some (.int (-1))) σ2) (Ev l 165 0 [some (.ref 13), none] [] (ax_us (ax_us σ2 13 48 100) 13 49 0) (fun o4 σ5 => ax_ov o4 (ax_br (x1 = 0) (P (some (.int (σ5 13 48))) σ5) (ax_br (x1 = 1) (P (some (.int (σ5 13 49))) σ5) ((vp_in (x1 - 2) 6 ∧ P (some (.int (12 + (σ5 90 (Int32.toNatClampNeg (x1 - 2)))))) σ5))))))))) : Ev l 166 0 [some (.ref 13), some (.int x1)] [] σ P := bl_X11_spread (ct := ct_X11_spread) (n := 33) h
def ct_X11_placeOf : List (Nat × List Bool) := [(2, [true, true, true])]
theorem hm_X11_placeOf : ax_m 167 = mi_X11_placeOf := rfl
theorem bl_X11_placeOf {l : Launch} {ct : List (Nat × List Bool)} {n pc : Nat} {L : ax_Lc} {st : List Value} {σ : ax_Sg} {P : Option Value → ax_Sg → Prop} (h : ax_bk tb_X11_placeOf ct (fun pc L st σ => Ev l 167 pc L st σ P) (fun a L σ Q => Ev l a 0 L [] σ Q) P none n pc L st σ) : Ev l 167 pc L st σ P := ax_blk (m0 := mi_X11_placeOf) (t := tb_X11_placeOf) hm_X11_placeOf ck_X11_placeOf h
set_option maxRecDepth 20000 in
theorem b_X11_placeOf_0 {l : Launch} {σ : ax_Sg} {P : Option Value → ax_Sg → Prop} (x1 : Int32) (h : Ev l 167 2 [some (.ref 13), some (.int x1), some (.int 0)] [] σ P) : Ev l 167 0 [some (.ref 13), some (.int x1), none] [] σ P := bl_X11_placeOf (ct := ct_X11_placeOf) (n := 4) h
set_option maxRecDepth 20000 in
theorem b_X11_placeOf_2 {l : Launch} {σ : ax_Sg} {P : Option Value → ax_Sg → Prop} (x1 : Int32) (x2 : Int32) (h : ax_br (x2 < σ 13 51) ((vp_in x2 12 ∧ ax_br (σ 92 (Int32.toNatClampNeg x2) = x1) (P (some (.int x2)) σ) (Ev l 167 2 [some (.ref 13), some (.int x1), some (.int (x2 + 1))] [] σ P))) (P (some (.int (-1))) σ)) : Ev l 167 2 [some (.ref 13), some (.int x1), some (.int x2)] [] σ P := bl_X11_placeOf (ct := ct_X11_placeOf) (n := 14) h
def ct_X11_join : List (Nat × List Bool) := []
theorem hm_X11_join : ax_m 169 = mi_X11_join := rfl
theorem bl_X11_join {l : Launch} {ct : List (Nat × List Bool)} {n pc : Nat} {L : ax_Lc} {st : List Value} {σ : ax_Sg} {P : Option Value → ax_Sg → Prop} (h : ax_bk tb_X11_join ct (fun pc L st σ => Ev l 169 pc L st σ P) (fun a L σ Q => Ev l a 0 L [] σ Q) P none n pc L st σ) : Ev l 169 pc L st σ P := ax_blk (m0 := mi_X11_join) (t := tb_X11_join) hm_X11_join ck_X11_join h
set_option maxRecDepth 20000 in
theorem b_X11_join_0 {l : Launch} {σ : ax_Sg} {P : Option Value → ax_Sg → Prop} (x1 : Int32) (h : Ev l 109 0 [some (.ref 13), some (.int x1)] [] σ (fun o1 σ2 => ax_oi o1 (fun v3 => ax_br (v3 = 0) (P (some (.int (-1))) σ2) (Ev l 167 0 [some (.ref 13), some (.int x1), none] [] σ2 (fun o4 σ5 => ax_oi o4 (fun v6 => ax_br (v6 < 0) ((vp_in (σ5 13 51) 12 ∧ P (some (.int ((σ5 13 51) + 1))) (ax_us (ax_us σ5 92 (Int32.toNatClampNeg (σ5 13 51)) x1) 13 51 ((σ5 13 51) + 1)))) (P (some (.int (-3))) σ5))))))) : Ev l 169 0 [some (.ref 13), some (.int x1)] [] σ P := bl_X11_join (ct := ct_X11_join) (n := 24) h
def ct_X11_goesFrom : List (Nat × List Bool) := [(12, [true, false, true])]
theorem hm_X11_goesFrom : ax_m 168 = mi_X11_goesFrom := rfl
theorem bl_X11_goesFrom {l : Launch} {ct : List (Nat × List Bool)} {n pc : Nat} {L : ax_Lc} {st : List Value} {σ : ax_Sg} {P : Option Value → ax_Sg → Prop} (h : ax_bk tb_X11_goesFrom ct (fun pc L st σ => Ev l 168 pc L st σ P) (fun a L σ Q => Ev l a 0 L [] σ Q) P none n pc L st σ) : Ev l 168 pc L st σ P := ax_blk (m0 := mi_X11_goesFrom) (t := tb_X11_goesFrom) hm_X11_goesFrom ck_X11_goesFrom h
set_option maxRecDepth 20000 in
theorem b_X11_goesFrom_0 {l : Launch} {σ : ax_Sg} {P : Option Value → ax_Sg → Prop} (x1 : Int32) (h : Ev l 168 12 [some (.ref 13), none, some (.int x1)] [] (ax_us σ 13 51 ((σ 13 51) - 1)) P) : Ev l 168 0 [some (.ref 13), some (.int x1), none] [] σ P := bl_X11_goesFrom (ct := ct_X11_goesFrom) (n := 10) h
set_option maxRecDepth 20000 in
theorem b_X11_goesFrom_12 {l : Launch} {σ : ax_Sg} {P : Option Value → ax_Sg → Prop} (x2 : Int32) (h : ax_br (x2 < σ 13 51) ((vp_in (x2 + 1) 12 ∧ (vp_in x2 12 ∧ Ev l 168 12 [some (.ref 13), none, some (.int (x2 + 1))] [] (ax_us σ 92 (Int32.toNatClampNeg x2) (σ 92 (Int32.toNatClampNeg (x2 + 1)))) P))) (P none σ)) : Ev l 168 12 [some (.ref 13), none, some (.int x2)] [] σ P := bl_X11_goesFrom (ct := ct_X11_goesFrom) (n := 18) h
def ct_X11_call : List (Nat × List Bool) := [(15, [true, true, true, false])]
theorem hm_X11_call : ax_m 170 = mi_X11_call := rfl
theorem bl_X11_call {l : Launch} {ct : List (Nat × List Bool)} {n pc : Nat} {L : ax_Lc} {st : List Value} {σ : ax_Sg} {P : Option Value → ax_Sg → Prop} (h : ax_bk tb_X11_call ct (fun pc L st σ => Ev l 170 pc L st σ P) (fun a L σ Q => Ev l a 0 L [] σ Q) P none n pc L st σ) : Ev l 170 pc L st σ P := ax_blk (m0 := mi_X11_call) (t := tb_X11_call) hm_X11_call ck_X11_call h
set_option maxRecDepth 20000 in
theorem b_X11_call_0 {l : Launch} {σ : ax_Sg} {P : Option Value → ax_Sg → Prop} (x1 : Int32) (h : Ev l 108 0 [some (.long (Int32.toInt64 x1)), none, some (.long 0), none, some (.long 1), none] [] σ (fun o1 σ2 => ax_oi o1 (fun v3 => ax_br (v3 = 0) (P (some (.int (-2))) σ2) (Ev l 170 15 [some (.ref 13), some (.int x1), some (.int 0), none] [] σ2 P)))) : Ev l 170 0 [some (.ref 13), some (.int x1), none, none] [] σ P := bl_X11_call (ct := ct_X11_call) (n := 10) h
set_option maxRecDepth 20000 in
theorem b_X11_call_15 {l : Launch} {σ : ax_Sg} {P : Option Value → ax_Sg → Prop} (x1 : Int32) (x2 : Int32) (h : ax_br (x2 < σ 13 51) ((vp_in x2 12 ∧ ax_br (x1 = 1) ((vp_in (σ 92 (Int32.toNatClampNeg x2)) 12 ∧ ax_br (σ 58 (Int32.toNatClampNeg (σ 92 (Int32.toNatClampNeg x2))) = 2) (Ev l 168 0 [some (.ref 13), some (.int x2), none] [] σ (fun o1 σ2 => ax_ov o1 (P (some (.int (σ 92 (Int32.toNatClampNeg x2)))) σ2))) (Ev l 170 15 [some (.ref 13), some (.int x1), some (.int (x2 + 1)), none] [] σ P))) (Ev l 168 0 [some (.ref 13), some (.int x2), none] [] σ (fun o3 σ4 => ax_ov o3 (P (some (.int (σ 92 (Int32.toNatClampNeg x2)))) σ4))))) (P (some (.int (-1))) σ)) : Ev l 170 15 [some (.ref 13), some (.int x1), some (.int x2), none] [] σ P := bl_X11_call (ct := ct_X11_call) (n := 24) h
def ct_X11_leave : List (Nat × List Bool) := []
theorem hm_X11_leave : ax_m 171 = mi_X11_leave := rfl
theorem bl_X11_leave {l : Launch} {ct : List (Nat × List Bool)} {n pc : Nat} {L : ax_Lc} {st : List Value} {σ : ax_Sg} {P : Option Value → ax_Sg → Prop} (h : ax_bk tb_X11_leave ct (fun pc L st σ => Ev l 171 pc L st σ P) (fun a L σ Q => Ev l a 0 L [] σ Q) P none n pc L st σ) : Ev l 171 pc L st σ P := ax_blk (m0 := mi_X11_leave) (t := tb_X11_leave) hm_X11_leave ck_X11_leave h
set_option maxRecDepth 20000 in
theorem b_X11_leave_0 {l : Launch} {σ : ax_Sg} {P : Option Value → ax_Sg → Prop} (x1 : Int32) (h : Ev l 109 0 [some (.ref 13), some (.int x1)] [] σ (fun o1 σ2 => ax_oi o1 (fun v3 => ax_br (v3 = 0) (P (some (.int (-1))) σ2) (Ev l 167 0 [some (.ref 13), some (.int x1), none] [] σ2 (fun o4 σ5 => ax_oi o4 (fun v6 => ax_br (v6 < 0) (P (some (.int (-3))) σ5) (Ev l 168 0 [some (.ref 13), some (.int v6), none] [] σ5 (fun o7 σ8 => ax_ov o7 (P (some (.int v6)) σ8))))))))) : Ev l 171 0 [some (.ref 13), some (.int x1), none] [] σ P := bl_X11_leave (ct := ct_X11_leave) (n := 16) h
def ct_X11_count : List (Nat × List Bool) := []
theorem hm_X11_count : ax_m 172 = mi_X11_count := rfl
theorem bl_X11_count {l : Launch} {ct : List (Nat × List Bool)} {n pc : Nat} {L : ax_Lc} {st : List Value} {σ : ax_Sg} {P : Option Value → ax_Sg → Prop} (h : ax_bk tb_X11_count ct (fun pc L st σ => Ev l 172 pc L st σ P) (fun a L σ Q => Ev l a 0 L [] σ Q) P none n pc L st σ) : Ev l 172 pc L st σ P := ax_blk (m0 := mi_X11_count) (t := tb_X11_count) hm_X11_count ck_X11_count h
set_option maxRecDepth 20000 in
theorem b_X11_count_0 {l : Launch} {σ : ax_Sg} {P : Option Value → ax_Sg → Prop} (x1 : Int32) (h : ((x1 = 0 → P (some (.int (σ 13 7))) σ) ∧ (¬ x1 = 0 → ((x1 = 1 → P (some (.int (σ 13 8))) σ) ∧ (¬ x1 = 1 → ((x1 = 2 → P (some (.int (σ 13 14))) σ) ∧ (¬ x1 = 2 → ((x1 = 3 → P (some (.int (σ 13 11))) σ) ∧ (¬ x1 = 3 → ((x1 = 4 → P (some (.int (σ 13 12))) σ) ∧ (¬ x1 = 4 → ((x1 = 5 → P (some (.int (σ 13 13))) σ) ∧ (¬ x1 = 5 → ((x1 = 6 → P (some (.int (σ 13 42))) σ) ∧ (¬ x1 = 6 → ((x1 = 7 → P (some (.int (σ 13 51))) σ) ∧ (¬ x1 = 7 → ((x1 = 8 → P (some (.int (σ 13 47))) σ) ∧ (¬ x1 = 8 → ((x1 = 9 → P (some (.int (σ 13 34))) σ) ∧ (¬ x1 = 9 → ((x1 = 10 → P (some (.int (σ 13 15))) σ) ∧ (¬ x1 = 10 → P (some (.int (-1))) σ))))))))))))))))))))))) : Ev l 172 0 [some (.ref 13), some (.int x1)] [] σ P := bl_X11_count (ct := ct_X11_count) (n := 6) h
end
section
/-! helpers: branches, answers, small numbers, frames -/
theorem br1 {A B : Prop} (h : B) : ax_br ((1 : Int32) = 0) A B := ⟨fun e => absurd e (by decide), fun _ => h⟩
theorem br0 {A B : Prop} (h : A) : ax_br ((0 : Int32) = 0) A B := ⟨fun _ => h, fun e => absurd rfl e⟩
theorem br_t' {q A B : Prop} (hq : q) (h : A) : ax_br q A B := ⟨fun _ => h, fun e => absurd hq e⟩
theorem br_f' {q A B : Prop} (hq : ¬ q) (h : B) : ax_br q A B := ⟨fun e => absurd e hq, fun _ => h⟩
theorem br_i {q A B : Prop} (hA : q → A) (hB : ¬ q → B) : ax_br q A B := ⟨hA, hB⟩
theorem nar0 : vp_nar .boolean 0 = 0 := by decide
theorem nar1 : vp_nar .boolean 1 = 1 := by decide
theorem us_s (σ : ax_Sg) (k i : Nat) (v : Int32) : ax_us σ k i v k = upd (σ k) i v := if_pos rfl
theorem us_n (σ : ax_Sg) {k k' : Nat} (i : Nat) (v : Int32) (h : k' ≠ k) : ax_us σ k i v k' = σ k' := if_neg h
theorem uc_s (σ : ax_Sg) (k : Nat) (f : Nat → Int32) : ax_uc σ k f k = f := if_pos rfl
theorem uc_n (σ : ax_Sg) {k k' : Nat} (f : Nat → Int32) (h : k' ≠ k) : ax_uc σ k f k' = σ k' := if_neg h
theorem upd_s (f : Nat → Int32) (i : Nat) (v : Int32) : upd f i v i = v := if_pos rfl
theorem upd_n (f : Nat → Int32) {i j : Nat} (v : Int32) (h : j ≠ i) : upd f i v j = f j := if_neg h
theorem lt_toInt {x y : Int32} : x < y ↔ x.toInt < y.toInt := Int32.lt_iff_toInt_lt
theorem le_toInt {x y : Int32} : x ≤ y ↔ x.toInt ≤ y.toInt := Int32.le_iff_toInt_le
theorem eq_toInt {x y : Int32} : x = y ↔ x.toInt = y.toInt := Int32.toInt_inj.symm
/-- an int in a range is a small number -/
theorem nat_of {x : Int32} {b : Nat} (h0 : 0 ≤ x.toInt) (h1 : x.toInt ≤ (b : Int)) : ∃ n : Nat, n ≤ b ∧ x = nI n := by
  refine ⟨x.toInt.toNat, by omega, ?_⟩
  apply Int32.toInt_inj.mp
  have hb : x.toInt < 2 ^ 31 := by have := Int32.toInt_lt x; omega
  rw [nI_toInt (by omega)]
  omega
theorem in_nI {n N : Nat} (h : n < N) (hN : N < 2 ^ 31) : vp_in (nI n) N := vp_in_nI h hN
theorem cl_nI {n : Nat} (h : n < 2 ^ 31) : (nI n).toNatClampNeg = n := nI_clamp h
/-- within, isIn and their like -/
theorem c_within {l : Launch} {σ : ax_Sg} {P : Option Value → ax_Sg → Prop} (x a b : Int32) (hT : a.toInt ≤ x.toInt ∧ x.toInt ≤ b.toInt → P (some (.int 1)) σ) (hF : ¬ (a.toInt ≤ x.toInt ∧ x.toInt ≤ b.toInt) → P (some (.int 0)) σ) : Ev l 102 0 [some (.int x), some (.int a), some (.int b)] [] σ P := by
  refine b_X10_within_0 x a b (br_i (fun h => ⟨nar0, hF ?_⟩) (fun h => br_i (fun h2 => ⟨nar0, hF ?_⟩) (fun h2 => ⟨nar1, hT ?_⟩)))
  · rw [lt_toInt] at h; omega
  · rw [lt_toInt] at h h2; omega
  · rw [lt_toInt] at h h2; omega
theorem lcmp_lt (x y : Int64) : lg_cmp x y < 0 ↔ x.toInt < y.toInt := by
  unfold lg_cmp
  by_cases h1 : y < x
  · rw [if_pos h1]
    rw [Int64.lt_iff_toInt_lt] at h1
    constructor
    · intro h; exact absurd h (by decide)
    · intro h; omega
  · rw [if_neg h1]
    by_cases h2 : x = y
    · rw [if_pos h2]
      subst h2
      constructor
      · intro h; exact absurd h (by decide)
      · intro h; omega
    · rw [if_neg h2]
      rw [Int64.lt_iff_toInt_lt] at h1
      have : x.toInt ≠ y.toInt := fun e => h2 (Int64.toInt_inj.mp e)
      constructor
      · intro _; omega
      · intro _; decide
theorem lcmp_gt (x y : Int64) : 0 < lg_cmp x y ↔ y.toInt < x.toInt := by
  unfold lg_cmp
  by_cases h1 : y < x
  · rw [if_pos h1]
    rw [Int64.lt_iff_toInt_lt] at h1
    exact ⟨fun _ => h1, fun _ => by decide⟩
  · rw [if_neg h1]
    rw [Int64.lt_iff_toInt_lt] at h1
    by_cases h2 : x = y
    · rw [if_pos h2]
      exact ⟨fun h => absurd h (by decide), fun h => absurd h h1⟩
    · rw [if_neg h2]
      exact ⟨fun h => absurd h (by decide), fun h => absurd h h1⟩
theorem c_isIn {l : Launch} {σ : ax_Sg} {P : Option Value → ax_Sg → Prop} (x a b : Int64) (hT : a.toInt ≤ x.toInt ∧ x.toInt ≤ b.toInt → P (some (.int 1)) σ) (hF : ¬ (a.toInt ≤ x.toInt ∧ x.toInt ≤ b.toInt) → P (some (.int 0)) σ) : Ev l 108 0 [some (.long x), none, some (.long a), none, some (.long b), none] [] σ P := by
  refine b_X11_isIn_0 x a b (br_i (fun h => ⟨nar0, hF ?_⟩) (fun h => br_i (fun h2 => ⟨nar0, hF ?_⟩) (fun h2 => ⟨nar1, hT ?_⟩)))
  · rw [lcmp_lt] at h; omega
  · rw [lcmp_gt] at h2; omega
  · rw [lcmp_lt] at h; rw [lcmp_gt] at h2; omega
theorem c_isInI {l : Launch} {σ : ax_Sg} {P : Option Value → ax_Sg → Prop} (x : Int32) (a b : Int64) (hT : a.toInt ≤ x.toInt ∧ x.toInt ≤ b.toInt → P (some (.int 1)) σ) (hF : ¬ (a.toInt ≤ x.toInt ∧ x.toInt ≤ b.toInt) → P (some (.int 0)) σ) : Ev l 108 0 [some (.long (Int32.toInt64 x)), none, some (.long a), none, some (.long b), none] [] σ P := by
  refine c_isIn _ a b ?_ ?_
  · rw [Int32.toInt_toInt64]; exact hT
  · rw [Int32.toInt_toInt64]; exact hF
end
section
/-! THE INVARIANT between the class's cells and the reference's, in parts; each part's frame -/
section AxWt
variable {l : Launch} {σ : ax_Sg} {P : Option Value → ax_Sg → Prop} {x a b : Int32} {j0 j1 j2 : Int64} {ai bi : Int}
theorem wt (h : ai ≤ x.toInt ∧ x.toInt ≤ bi) (k : P (some (.int 1)) σ) (ha : a.toInt = ai := by decide) (hb : b.toInt = bi := by decide) : Ev l 102 0 [some (.int x), some (.int a), some (.int b)] [] σ P := c_within x a b (fun _ => k) (fun n => absurd (by rw [ha, hb]; exact h) n)
theorem wf (h : ¬ (ai ≤ x.toInt ∧ x.toInt ≤ bi)) (k : P (some (.int 0)) σ) (ha : a.toInt = ai := by decide) (hb : b.toInt = bi := by decide) : Ev l 102 0 [some (.int x), some (.int a), some (.int b)] [] σ P := c_within x a b (fun n => absurd (by rw [ha, hb] at n; exact n) h) (fun _ => k)
theorem ni_t (h : ai ≤ x.toInt ∧ x.toInt ≤ bi) (k : P (some (.int 1)) σ) (ha : j1.toInt = ai := by decide) (hb : j2.toInt = bi := by decide) : Ev l 108 0 [some (.long (Int32.toInt64 x)), none, some (.long j1), none, some (.long j2), none] [] σ P := c_isInI x j1 j2 (fun _ => k) (fun n => absurd (by rw [ha, hb]; exact h) n)
theorem ni_f (h : ¬ (ai ≤ x.toInt ∧ x.toInt ≤ bi)) (k : P (some (.int 0)) σ) (ha : j1.toInt = ai := by decide) (hb : j2.toInt = bi := by decide) : Ev l 108 0 [some (.long (Int32.toInt64 x)), none, some (.long j1), none, some (.long j2), none] [] σ P := c_isInI x j1 j2 (fun n => absurd (by rw [ha, hb] at n; exact n) h) (fun _ => k)
theorem ward_t (h : 0 ≤ x.toInt ∧ x.toInt ≤ 4) (k : P (some (.int 1)) σ) : Ev l 103 0 [some (.int x)] [] σ P := b_X10_isWard_0 x (wt h ⟨nar1, k⟩)
theorem ward_f (h : ¬ (0 ≤ x.toInt ∧ x.toInt ≤ 4)) (k : P (some (.int 0)) σ) : Ev l 103 0 [some (.int x)] [] σ P := b_X10_isWard_0 x (wf h ⟨nar0, k⟩)
theorem mward_t (h : 0 ≤ x.toInt ∧ x.toInt ≤ 4) (k : P (some (.int 1)) σ) : Ev l 111 0 [some (.int x)] [] σ P := by
  have h5 : (5 : Int32).toInt = 5 := by decide
  have h0 : (0 : Int32).toInt = 0 := by decide
  refine b_X11_isWard_0 x (br_f' ?_ (br_t' ?_ ⟨nar1, k⟩))
  · rw [lt_toInt, h0]; omega
  · rw [lt_toInt, h5]; omega
theorem mward_f (h : ¬ (0 ≤ x.toInt ∧ x.toInt ≤ 4)) (k : P (some (.int 0)) σ) : Ev l 111 0 [some (.int x)] [] σ P := by
  have h5 : (5 : Int32).toInt = 5 := by decide
  have h0 : (0 : Int32).toInt = 0 := by decide
  refine b_X11_isWard_0 x (br_i (fun _ => ⟨nar0, k⟩) (fun h1 => br_f' ?_ ⟨nar0, k⟩))
  rw [lt_toInt, h0] at h1
  rw [lt_toInt, h5]; omega
theorem rent_t (h : 0 ≤ x.toInt ∧ x.toInt ≤ 9999) (h2 : 0 ≤ a.toInt ∧ a.toInt ≤ 9999) (k : P (some (.int 1)) σ) : Ev l 104 0 [some (.int x), some (.int a)] [] σ P := b_X10_isRent_0 x a (wt h (br1 (wt h2 (br1 ⟨nar1, k⟩))))
theorem rent_f (h : ¬ ((0 ≤ x.toInt ∧ x.toInt ≤ 9999) ∧ (0 ≤ a.toInt ∧ a.toInt ≤ 9999))) (k : P (some (.int 0)) σ) : Ev l 104 0 [some (.int x), some (.int a)] [] σ P := by
  refine b_X10_isRent_0 x a ?_
  by_cases h1 : 0 ≤ x.toInt ∧ x.toInt ≤ 9999
  · exact wt h1 (br1 (wf (ai := 0) (bi := 9999) (fun h2 => h ⟨h1, h2⟩) (br0 ⟨nar0, k⟩)))
  · exact wf h1 (br0 ⟨nar0, k⟩)
/-- a size less 1 -/
theorem sub1_toInt {n : Nat} (hn : n < 2 ^ 30) : (nI n - 1).toInt = (n : Int) - 1 := pk_sub_toInt (a := n) (b := 1) hn (by decide)
theorem pl_t {n p : Nat} (hn : n ≤ 12) (hs : σ 1 4 = nI n) (hp : p < n) (k : P (some (.int 1)) σ) : Ev l 41 0 [some (.ref 1), some (.int (nI p))] [] σ P := by
  refine b_X6_has_0 (nI p) ?_
  rw [hs]
  exact wt (ai := 0) (bi := (n : Int) - 1) (by rw [nI_toInt (by omega)]; omega) ⟨nar1, k⟩ (by decide) (sub1_toInt (by omega))
theorem pl_f {n : Nat} (hn : n ≤ 12) (hs : σ 1 4 = nI n) (hp : ¬ (0 ≤ x.toInt ∧ x.toInt < n)) (k : P (some (.int 0)) σ) : Ev l 41 0 [some (.ref 1), some (.int x)] [] σ P := by
  refine b_X6_has_0 x ?_
  rw [hs]
  exact wf (ai := 0) (bi := (n : Int) - 1) (by omega) ⟨nar0, k⟩ (by decide) (sub1_toInt (by omega))
theorem mpl_t {n p : Nat} (hn : n ≤ 12) (hs : σ 13 7 = nI n) (hp : p < n) (k : P (some (.int 1)) σ) : Ev l 109 0 [some (.ref 13), some (.int (nI p))] [] σ P := by
  refine b_X11_isPlate_0 (nI p) (br_f' (nI_pos (by omega)) (br_t' ?_ ⟨nar1, k⟩))
  rw [hs]; exact nI_lt hp (by omega)
theorem mpl_f {n : Nat} (hn : n ≤ 12) (hs : σ 13 7 = nI n) (hp : ¬ (0 ≤ x.toInt ∧ x.toInt < n)) (k : P (some (.int 0)) σ) : Ev l 109 0 [some (.ref 13), some (.int x)] [] σ P := by
  have h0 : (0 : Int32).toInt = 0 := by decide
  refine b_X11_isPlate_0 x (br_i (fun _ => ⟨nar0, k⟩) (fun h1 => br_f' ?_ ⟨nar0, k⟩))
  rw [lt_toInt, h0] at h1
  rw [hs, lt_toInt, nI_toInt (by omega)]
  omega
theorem dr_t {n p : Nat} (hn : n ≤ 16) (hs : σ 2 2 = nI n) (hp : p < n) (k : P (some (.int 1)) σ) : Ev l 53 0 [some (.ref 2), some (.int (nI p))] [] σ P := by
  refine b_X8_hasDriver_0 (nI p) ?_
  rw [hs]
  exact wt (ai := 0) (bi := (n : Int) - 1) (by rw [nI_toInt (by omega)]; omega) ⟨nar1, k⟩ (by decide) (sub1_toInt (by omega))
theorem dr_f {n : Nat} (hn : n ≤ 16) (hs : σ 2 2 = nI n) (hp : ¬ (0 ≤ x.toInt ∧ x.toInt < n)) (k : P (some (.int 0)) σ) : Ev l 53 0 [some (.ref 2), some (.int x)] [] σ P := by
  refine b_X8_hasDriver_0 x ?_
  rw [hs]
  exact wf (ai := 0) (bi := (n : Int) - 1) (by omega) ⟨nar0, k⟩ (by decide) (sub1_toInt (by omega))
theorem mdr_t {n p : Nat} (hn : n ≤ 16) (hs : σ 13 8 = nI n) (hp : p < n) (k : P (some (.int 1)) σ) : Ev l 110 0 [some (.ref 13), some (.int (nI p))] [] σ P := by
  refine b_X11_isDriver_0 (nI p) (br_f' (nI_pos (by omega)) (br_t' ?_ ⟨nar1, k⟩))
  rw [hs]; exact nI_lt hp (by omega)
theorem mdr_f {n : Nat} (hn : n ≤ 16) (hs : σ 13 8 = nI n) (hp : ¬ (0 ≤ x.toInt ∧ x.toInt < n)) (k : P (some (.int 0)) σ) : Ev l 110 0 [some (.ref 13), some (.int x)] [] σ P := by
  have h0 : (0 : Int32).toInt = 0 := by decide
  refine b_X11_isDriver_0 x (br_i (fun _ => ⟨nar0, k⟩) (fun h1 => br_f' ?_ ⟨nar0, k⟩))
  rw [lt_toInt, h0] at h1
  rw [hs, lt_toInt, nI_toInt (by omega)]
  omega
end AxWt
/-- a small number, or not -/
theorem nI_case (x : Int32) (n : Nat) (hn : n < 2 ^ 31) : (∃ p, p < n ∧ x = nI p) ∨ ¬ (0 ≤ x.toInt ∧ x.toInt < n) := by
  by_cases h : 0 ≤ x.toInt ∧ x.toInt < n
  · left
    refine ⟨x.toInt.toNat, by omega, ?_⟩
    apply Int32.toInt_inj.mp
    rw [nI_toInt (by omega)]
    omega
  · exact Or.inr h
def rg (a b : Int) (x : Int32) : Prop := a ≤ x.toInt ∧ x.toInt ≤ b
def iv_pl (n : Nat) (σ : ax_Sg) : Prop := n ≤ 12 ∧ σ 1 4 = nI n ∧ σ 13 7 = nI n ∧ ∀ p, p < n → σ 14 p = σ 58 p ∧ σ 15 p = σ 59 p ∧ σ 16 p = σ 60 p ∧ σ 17 p = σ 61 p ∧ rg 0 3 (σ 14 p) ∧ rg 0 9999 (σ 16 p) ∧ rg 0 9999 (σ 17 p)
theorem iv_pl.fr {n : Nat} {σ σ' : ax_Sg} (h : iv_pl n σ) (h1 : σ' 1 4 = σ 1 4 := by rfl) (h2 : σ' 13 7 = σ 13 7 := by rfl) (e1 : σ' 14 = σ 14 := by rfl) (e2 : σ' 15 = σ 15 := by rfl) (e3 : σ' 16 = σ 16 := by rfl) (e4 : σ' 17 = σ 17 := by rfl) (f1 : σ' 58 = σ 58 := by rfl) (f2 : σ' 59 = σ 59 := by rfl) (f3 : σ' 60 = σ 60 := by rfl) (f4 : σ' 61 = σ 61 := by rfl) : iv_pl n σ' := by
  unfold iv_pl at h ⊢
  rw [h1, h2, e1, e2, e3, e4, f1, f2, f3, f4]
  exact h
def iv_dr (d : Nat) (σ : ax_Sg) : Prop := d ≤ 16 ∧ σ 2 2 = nI d ∧ σ 13 8 = nI d ∧ ∀ k, k < d → σ 18 k = σ 62 k ∧ rg 0 2 (σ 18 k)
theorem iv_dr.fr {d : Nat} {σ σ' : ax_Sg} (h : iv_dr d σ) (h1 : σ' 2 2 = σ 2 2 := by rfl) (h2 : σ' 13 8 = σ 13 8 := by rfl) (e1 : σ' 18 = σ 18 := by rfl) (f1 : σ' 62 = σ 62 := by rfl) : iv_dr d σ' := by
  unfold iv_dr at h ⊢
  rw [h1, h2, e1, f1]
  exact h
def iv_sh (n d : Nat) (σ : ax_Sg) : Prop := (∀ p, p < n → σ 19 (2 * p) = σ 63 p ∧ σ 19 (2 * p + 1) = σ 64 p) ∧ (∀ i, 2 * n ≤ i → i < 24 → σ 19 i = -1) ∧ (∀ i, i < 24 → σ 19 i = -1 ∨ ∃ k, k < d ∧ σ 19 i = nI k) ∧ ∀ i j, i < 24 → j < 24 → σ 19 i = σ 19 j → ¬ σ 19 i = -1 → i = j
theorem iv_sh.fr {n d : Nat} {σ σ' : ax_Sg} (h : iv_sh n d σ) (e1 : σ' 19 = σ 19 := by rfl) (f1 : σ' 63 = σ 63 := by rfl) (f2 : σ' 64 = σ 64 := by rfl) : iv_sh n d σ' := by
  unfold iv_sh at h ⊢
  rw [e1, f1, f2]
  exact h
def iv_tp (t : Nat) (σ : ax_Sg) : Prop := t ≤ 120 ∧ σ 3 2 = nI t ∧ σ 13 34 = nI t ∧ ∀ i, i < t → σ 25 i = σ 76 i ∧ rg 0 255 (σ 25 i)
theorem iv_tp.fr {t : Nat} {σ σ' : ax_Sg} (h : iv_tp t σ) (h1 : σ' 3 2 = σ 3 2 := by rfl) (h2 : σ' 13 34 = σ 13 34 := by rfl) (e1 : σ' 25 = σ 25 := by rfl) (f1 : σ' 76 = σ 76 := by rfl) : iv_tp t σ' := by
  unfold iv_tp at h ⊢
  rw [h1, h2, e1, f1]
  exact h
def iv_mt (c : Nat) (σ : ax_Sg) : Prop := c ≤ 6 ∧ σ 4 3 = nI c ∧ σ 13 35 = nI c ∧ ∀ i, i < c → σ 26 i = σ 77 i ∧ rg 0 5 (σ 26 i) ∧ σ 28 i = σ 79 i ∧ rg 0 9999 (σ 28 i) ∧ (σ 26 i = 3 → σ 27 i = σ 78 i)
theorem iv_mt.fr {c : Nat} {σ σ' : ax_Sg} (h : iv_mt c σ) (h1 : σ' 4 3 = σ 4 3 := by rfl) (h2 : σ' 13 35 = σ 13 35 := by rfl) (e1 : σ' 26 = σ 26 := by rfl) (e2 : σ' 27 = σ 27 := by rfl) (e3 : σ' 28 = σ 28 := by rfl) (f1 : σ' 77 = σ 77 := by rfl) (f2 : σ' 78 = σ 78 := by rfl) (f3 : σ' 79 = σ 79 := by rfl) : iv_mt c σ' := by
  unfold iv_mt at h ⊢
  rw [h1, h2, e1, e2, e3, f1, f2, f3]
  exact h
def iv_as (σ : ax_Sg) : Prop := ∀ i, i < 120 → σ 29 i = σ 72 i ∧ rg 0 20 (σ 29 i)
theorem iv_as.fr {σ σ' : ax_Sg} (h : iv_as σ) (e1 : σ' 29 = σ 29 := by rfl) (f1 : σ' 72 = σ 72 := by rfl) : iv_as σ' := by
  unfold iv_as at h ⊢
  rw [e1, f1]
  exact h
/-- the city between hours -/
def iv_ct (n h : Nat) (σ : ax_Sg) : Prop := h ≤ 400 ∧ σ 7 13 = nI h ∧ σ 13 14 = nI h ∧ σ 7 14 = σ 13 11 ∧ σ 7 15 = σ 13 12 ∧ σ 7 16 = σ 13 13 ∧
  (∀ p, p < n → σ 31 p = σ 65 (24 + p) ∧ rg (-1) 4 (σ 31 p)) ∧ (∀ p, n ≤ p → p < 12 → σ 31 p = -1) ∧ (∀ p, p < 12 → σ 32 p = σ 65 p ∧ σ 33 p = σ 65 (12 + p) ∧ rg 0 (h : Int) (σ 32 p)) ∧ (∀ k, k < 16 → σ 34 k = σ 65 (36 + k) ∧ σ 35 k = σ 65 (52 + k)) ∧
  (∀ i, i < 15 → σ 36 i = σ 65 (68 + i) ∧ rg 0 20 (σ 36 i)) ∧ (∀ w, w < 5 → σ 36 (3 * w) = 0) ∧ ∀ w, w < 5 → ∃ t : Nat, t ≤ 12 * h ∧ σ 65 (83 + w) = nI t ∧ σ 37 w = nI (t % 5)
theorem iv_ct.fr {n h : Nat} {σ σ' : ax_Sg} (hh : iv_ct n h σ) (h1 : σ' 7 13 = σ 7 13 := by rfl) (h2 : σ' 13 14 = σ 13 14 := by rfl) (h3 : σ' 7 14 = σ 7 14 := by rfl) (h4 : σ' 13 11 = σ 13 11 := by rfl) (h5 : σ' 7 15 = σ 7 15 := by rfl) (h6 : σ' 13 12 = σ 13 12 := by rfl) (h7 : σ' 7 16 = σ 7 16 := by rfl) (h8 : σ' 13 13 = σ 13 13 := by rfl)
    (e1 : σ' 31 = σ 31 := by rfl) (e2 : σ' 32 = σ 32 := by rfl) (e3 : σ' 33 = σ 33 := by rfl) (e4 : σ' 34 = σ 34 := by rfl) (e5 : σ' 35 = σ 35 := by rfl) (e6 : σ' 36 = σ 36 := by rfl) (e7 : σ' 37 = σ 37 := by rfl) (f1 : σ' 65 = σ 65 := by rfl) : iv_ct n h σ' := by
  unfold iv_ct at hh ⊢
  rw [h1, h2, h3, h4, h5, h6, h7, h8, e1, e2, e3, e4, e5, e6, e7, f1]
  exact hh
def iv_rd (r : Nat) (σ : ax_Sg) : Prop := r ≤ 300 ∧ σ 6 1 = nI r ∧ σ 13 15 = nI r ∧ ∀ k, k < r → σ 30 (k * 5) = σ 67 k ∧ σ 30 (k * 5 + 1) = σ 68 k ∧ σ 30 (k * 5 + 2) = σ 69 k ∧ σ 30 (k * 5 + 3) = σ 70 k ∧ σ 30 (k * 5 + 4) = σ 71 k
theorem iv_rd.fr {r : Nat} {σ σ' : ax_Sg} (h : iv_rd r σ) (h1 : σ' 6 1 = σ 6 1 := by rfl) (h2 : σ' 13 15 = σ 13 15 := by rfl) (e1 : σ' 30 = σ 30 := by rfl) (f1 : σ' 67 = σ 67 := by rfl) (f2 : σ' 68 = σ 68 := by rfl) (f3 : σ' 69 = σ 69 := by rfl) (f4 : σ' 70 = σ 70 := by rfl) (f5 : σ' 71 = σ 71 := by rfl) : iv_rd r σ' := by
  unfold iv_rd at h ⊢
  rw [h1, h2, e1, f1, f2, f3, f4, f5]
  exact h
def iv_ln (n q : Nat) (σ : ax_Sg) : Prop := q ≤ 30 ∧ σ 9 4 = nI q ∧ σ 13 42 = nI q ∧ ∀ i, i < q → σ 47 i = σ 84 i ∧ (∃ p, p < n ∧ σ 47 i = nI p) ∧ σ 48 i = σ 85 i ∧ rg 0 9 (σ 48 i) ∧ σ 49 i = σ 86 i ∧ rg 0 99999 (σ 49 i)
theorem iv_ln.fr {n q : Nat} {σ σ' : ax_Sg} (h : iv_ln n q σ) (h1 : σ' 9 4 = σ 9 4 := by rfl) (h2 : σ' 13 42 = σ 13 42 := by rfl) (e1 : σ' 47 = σ 47 := by rfl) (e2 : σ' 48 = σ 48 := by rfl) (e3 : σ' 49 = σ 49 := by rfl) (f1 : σ' 84 = σ 84 := by rfl) (f2 : σ' 85 = σ 85 := by rfl) (f3 : σ' 86 = σ 86 := by rfl) : iv_ln n q σ' := by
  unfold iv_ln at h ⊢
  rw [h1, h2, e1, e2, e3, f1, f2, f3]
  exact h
def iv_fl (f : Nat) (σ : ax_Sg) : Prop := f ≤ 6 ∧ σ 10 2 = nI f ∧ σ 13 47 = nI f ∧ ∀ i, i < f → σ 51 i = σ 88 i ∧ rg 1 255 (σ 51 i)
theorem iv_fl.fr {f : Nat} {σ σ' : ax_Sg} (h : iv_fl f σ) (h1 : σ' 10 2 = σ 10 2 := by rfl) (h2 : σ' 13 47 = σ 13 47 := by rfl) (e1 : σ' 51 = σ 51 := by rfl) (f1 : σ' 88 = σ 88 := by rfl) : iv_fl f σ' := by
  unfold iv_fl at h ⊢
  rw [h1, h2, e1, f1]
  exact h
def iv_li (n y : Nat) (σ : ax_Sg) : Prop := y ≤ 12 ∧ σ 11 1 = nI y ∧ σ 13 51 = nI y ∧ (∀ i, i < y → σ 54 i = σ 92 i ∧ ∃ p, p < n ∧ σ 54 i = nI p) ∧ ∀ i j, i < y → j < y → σ 54 i = σ 54 j → i = j
theorem iv_li.fr {n y : Nat} {σ σ' : ax_Sg} (h : iv_li n y σ) (h1 : σ' 11 1 = σ 11 1 := by rfl) (h2 : σ' 13 51 = σ 13 51 := by rfl) (e1 : σ' 54 = σ 54 := by rfl) (f1 : σ' 92 = σ 92 := by rfl) : iv_li n y σ' := by
  unfold iv_li at h ⊢
  rw [h1, h2, e1, f1]
  exact h
def Inv (σ : ax_Sg) : Prop := ∃ n d t c h r q f y : Nat, iv_pl n σ ∧ iv_dr d σ ∧ iv_sh n d σ ∧ iv_tp t σ ∧ iv_mt c σ ∧ iv_as σ ∧ iv_ct n h σ ∧ iv_rd r σ ∧ iv_ln n q σ ∧ iv_fl f σ ∧ iv_li n y σ
/-- one step of the law: the class's answer is the reference's, and the invariant stays -/
def Pr (l : Launch) (k1 : Nat) (L1 : ax_Lc) (k2 : Nat) (L2 : ax_Lc) (σ : ax_Sg) : Prop := Ev l k1 0 L1 [] σ (fun o σ1 => ax_oi o fun v => Ev l k2 0 L2 [] σ1 (fun o2 σ2 => ax_oi o2 fun w => v = w ∧ Inv σ2))
end
section
/-! plates, drivers, asks, rents, loans, fleets: the calls without loops -/
theorem fin {v w : Int32} {σ : ax_Sg} (h : v = w) (hI : Inv σ) : ax_oi (some (.int w)) (fun w' => v = w' ∧ Inv σ) := And.intro h hI
theorem nI_ne {a b : Nat} (ha : a < 2 ^ 31) (hb : b < 2 ^ 31) (h : a ≠ b) : ¬ nI a = nI b := fun e => h ((nI_eq ha hb).mp e)
theorem nI_inc (n : Nat) : nI n + 1 - 1 = nI n := by rw [nI_1]; exact nI_pred n
theorem upd_all {f g : Nat → Int32} {n : Nat} {v : Int32} {Q : Nat → Int32 → Prop} (h : ∀ p, p < n → Q p (f p)) (hn : Q n v) : ∀ p, p < n + 1 → Q p (upd f n v p) := by
  intro p hp
  by_cases e : p = n
  · subst e; rw [upd_s]; exact hn
  · rw [upd_n _ _ e]; exact h p (by omega)
section OpsA
variable {l : Launch} {σ : ax_Sg}
def cs_plate (n : Nat) (k o le co : Int32) (σ : ax_Sg) : ax_Sg := ax_us (ax_us (ax_us (ax_us (ax_us σ 14 n k) 15 n o) 16 n le) 17 n co) 1 4 (nI n + 1)
def ms_plate (n : Nat) (k o le co : Int32) (σ : ax_Sg) : ax_Sg := ax_us (ax_us (ax_us (ax_us (ax_us (ax_us (ax_us (ax_us σ 58 n k) 59 n o) 60 n le) 61 n co) 63 n (-1)) 64 n (-1)) 65 (24 + n) (-1)) 13 7 (nI n + 1)
theorem pr_plate (hI : Inv σ) (k o le co : Int32) : Pr l 72 [some (.ref 0), some (.int k), some (.int o), some (.int le), some (.int co)] 112 [some (.ref 13), some (.int k), some (.int o), some (.int le), some (.int co), none] σ := by
  have hI0 := hI
  obtain ⟨n, d, t, c, h, r, q, f, y, hpl, hdr, hsh, htp, hmt, has, hct, hrd, hln, hfl, hli⟩ := hI
  have hpl0 := hpl
  obtain ⟨hn, hs, hm, hp⟩ := hpl
  by_cases hk : 0 ≤ k.toInt ∧ k.toInt ≤ 3
  · by_cases ho : 0 ≤ o.toInt ∧ o.toInt ≤ 5
    · by_cases hl : 0 ≤ le.toInt ∧ le.toInt ≤ 9999
      · by_cases hc : 0 ≤ co.toInt ∧ co.toInt ≤ 9999
        · by_cases hn2 : n = 12
          · subst hn2
            refine b_X10_plate_0 k o le co (wt hk (br1 (wt ho (br1 (rent_t hl hc (br1 (br_t' hs ?_)))))))
            exact b_X11_plate_0 k o le co (ni_t hk (br1 (ni_t ho (br1 (ni_t hl (br1 (ni_t hc (br1 (br_t' hm (fin rfl hI0))))))))))
          · have hn3 : n < 12 := by omega
            have h12 : ¬ nI n = 12 := nI_ne (b := 12) (by omega) (by decide) hn2
            refine b_X10_plate_0 k o le co (wt hk (br1 (wt ho (br1 (rent_t hl hc (br1 (br_f' (by rw [hs]; exact h12) (b_X6_add_0 k o le co ?_))))))))
            rw [hs, cl_nI (by omega)]
            refine ⟨in_nI hn3 (by decide), in_nI hn3 (by decide), in_nI hn3 (by decide), in_nI hn3 (by decide), ?_⟩
            show Ev l 112 0 [some (.ref 13), some (.int k), some (.int o), some (.int le), some (.int co), none] [] (cs_plate n k o le co σ) (fun o2 σ2 => ax_oi o2 fun w => nI n + 1 - 1 = w ∧ Inv σ2)
            have hm1 : (cs_plate n k o le co σ) 13 7 = nI n := hm
            refine b_X11_plate_0 k o le co (ni_t hk (br1 (ni_t ho (br1 (ni_t hl (br1 (ni_t hc (br1 (br_f' (by rw [hm1]; exact h12) ?_)))))))))
            have e24 : 24 + nI n = nI (24 + n) := nI_add 24 n
            rw [hm1, e24, cl_nI (by omega), cl_nI (by omega)]
            refine ⟨in_nI hn3 (by decide), in_nI hn3 (by decide), in_nI hn3 (by decide), in_nI hn3 (by decide), in_nI hn3 (by decide), in_nI hn3 (by decide), in_nI (by omega) (by decide), ?_⟩
            refine fin (nI_inc n) ?_
            show Inv (ms_plate n k o le co (cs_plate n k o le co σ))
            refine ⟨n + 1, d, t, c, h, r, q, f, y, ?_, hdr.fr, ?_, htp.fr, hmt.fr, has.fr, ?_, hrd.fr, ?_, hfl.fr, ?_⟩
            · refine ⟨by omega, nI_1 n, nI_1 n, fun p hp1 => ?_⟩
              show upd (σ 14) n k p = upd (σ 58) n k p ∧ upd (σ 15) n o p = upd (σ 59) n o p ∧ upd (σ 16) n le p = upd (σ 60) n le p ∧ upd (σ 17) n co p = upd (σ 61) n co p ∧ rg 0 3 (upd (σ 14) n k p) ∧ rg 0 9999 (upd (σ 16) n le p) ∧ rg 0 9999 (upd (σ 17) n co p)
              by_cases e : p = n
              · subst e; simp only [upd_s]; exact ⟨trivial, trivial, trivial, trivial, hk, hl, hc⟩
              · simp only [upd_n _ _ e]; exact hp p (by omega)
            · obtain ⟨h1, h2, h3, h4⟩ := hsh
              refine ⟨fun p hp1 => ?_, fun i hi => h2 i (by omega), h3, h4⟩
              show σ 19 (2 * p) = upd (σ 63) n (-1) p ∧ σ 19 (2 * p + 1) = upd (σ 64) n (-1) p
              by_cases e : p = n
              · subst e; simp only [upd_s]; exact ⟨h2 _ (by omega) (by omega), h2 _ (by omega) (by omega)⟩
              · simp only [upd_n _ _ e]; exact h1 p (by omega)
            · obtain ⟨g1, g2, g3, g4, g5, g6, g7, g8, g9, g10, g11, g12, g13⟩ := hct
              have e65 : ∀ i, i ≠ 24 + n → (ms_plate n k o le co (cs_plate n k o le co σ)) 65 i = σ 65 i := fun i hi => upd_n _ _ hi
              have e65n : (ms_plate n k o le co (cs_plate n k o le co σ)) 65 (24 + n) = -1 := upd_s _ _ _
              refine ⟨g1, g2, g3, g4, g5, g6, fun p hp1 => ?_, fun p hp1 hp2 => g8 p (by omega) hp2, fun p hp1 => ?_, fun j hj => ?_, fun i hi => ?_, g12, fun w hw => ?_⟩
              · by_cases e : p = n
                · subst e
                  rw [e65n]
                  exact ⟨g8 p (by omega) (by omega), by show rg (-1) 4 (σ 31 p); rw [g8 p (by omega) (by omega)]; unfold rg; decide⟩
                · rw [e65 _ (by omega)]; exact g7 p (by omega)
              · rw [e65 _ (by omega), e65 _ (by omega)]; exact g9 p hp1
              · rw [e65 _ (by omega), e65 _ (by omega)]; exact g10 j hj
              · rw [e65 _ (by omega)]; exact g11 i hi
              · rw [e65 _ (by omega)]; exact g13 w hw
            · obtain ⟨g1, g2, g3, g4⟩ := hln
              exact ⟨g1, g2, g3, fun i hi => by
                obtain ⟨a1, ⟨p, a2, a3⟩, a4⟩ := g4 i hi
                exact ⟨a1, ⟨p, by omega, a3⟩, a4⟩⟩
            · obtain ⟨g1, g2, g3, g4, g5⟩ := hli
              exact ⟨g1, g2, g3, fun i hi => by
                obtain ⟨a1, p, a2, a3⟩ := g4 i hi
                exact ⟨a1, p, by omega, a3⟩, g5⟩
        · refine b_X10_plate_0 k o le co (wt hk (br1 (wt ho (br1 (rent_f (fun z => hc z.2) (br0 ?_))))))
          exact b_X11_plate_0 k o le co (ni_t hk (br1 (ni_t ho (br1 (ni_t hl (br1 (ni_f hc (br0 (fin rfl hI0)))))))))
      · refine b_X10_plate_0 k o le co (wt hk (br1 (wt ho (br1 (rent_f (fun z => hl z.1) (br0 ?_))))))
        exact b_X11_plate_0 k o le co (ni_t hk (br1 (ni_t ho (br1 (ni_f hl (br0 (fin rfl hI0)))))))
    · refine b_X10_plate_0 k o le co (wt hk (br1 (wf ho (br0 ?_))))
      exact b_X11_plate_0 k o le co (ni_t hk (br1 (ni_f ho (br0 (fin rfl hI0)))))
  · refine b_X10_plate_0 k o le co (wf hk (br0 ?_))
    exact b_X11_plate_0 k o le co (ni_f hk (br0 (fin rfl hI0)))
theorem swt {x c : Int32} {A B : Prop} (h : x = c) (a : A) : (x = c → A) ∧ (¬ x = c → B) := ⟨fun _ => a, fun n => absurd h n⟩
theorem swf {x c : Int32} {A B : Prop} (h : ¬ x = c) (b : B) : (x = c → A) ∧ (¬ x = c → B) := ⟨fun e => absurd e h, fun _ => b⟩
theorem pr_driver (hI : Inv σ) (w : Int32) : Pr l 73 [some (.ref 0), some (.int w)] 113 [some (.ref 13), some (.int w)] σ := by
  have hI0 := hI
  obtain ⟨n, d, t, c, h, r, q, f, y, hpl, hdr, hsh, htp, hmt, has, hct, hrd, hln, hfl, hli⟩ := hI
  obtain ⟨hd, hs, hm, hp⟩ := hdr
  by_cases hw : 0 ≤ w.toInt ∧ w.toInt ≤ 2
  · by_cases hd2 : d = 16
    · subst hd2
      refine b_X10_driver_0 w (wt hw (br1 (br_t' hs ?_)))
      exact b_X11_driver_0 w (ni_t hw (br1 (br_t' hm (fin rfl hI0))))
    · have hd3 : d < 16 := by omega
      have h16 : ¬ nI d = 16 := nI_ne (b := 16) (by omega) (by decide) hd2
      refine b_X10_driver_0 w (wt hw (br1 (br_f' (by rw [hs]; exact h16) (b_X8_addDriver_0 w ?_))))
      rw [hs, cl_nI (by omega)]
      refine ⟨in_nI hd3 (by decide), ?_⟩
      have hm1 : (ax_us (ax_us σ 18 d w) 2 2 (nI d + 1)) 13 8 = nI d := hm
      refine b_X11_driver_0 w (ni_t hw (br1 (br_f' (by rw [hm1]; exact h16) ?_)))
      rw [hm1, cl_nI (by omega)]
      refine ⟨in_nI hd3 (by decide), fin rfl ?_⟩
      refine ⟨n, d + 1, t, c, h, r, q, f, y, hpl.fr, ⟨by omega, nI_1 d, nI_1 d, fun k hk => ?_⟩, ?_, htp.fr, hmt.fr, has.fr, hct.fr, hrd.fr, hln.fr, hfl.fr, hli.fr⟩
      · show upd (σ 18) d w k = upd (σ 62) d w k ∧ rg 0 2 (upd (σ 18) d w k)
        by_cases e : k = d
        · subst e; simp only [upd_s]; exact ⟨trivial, hw⟩
        · simp only [upd_n _ _ e]; exact hp k (by omega)
      · obtain ⟨h1, h2, h3, h4⟩ := hsh
        exact ⟨h1, h2, fun i hi => (h3 i hi).imp id (fun ⟨k, a, b⟩ => ⟨k, by omega, b⟩), h4⟩
  · refine b_X10_driver_0 w (wf hw (br0 ?_))
    exact b_X11_driver_0 w (ni_f hw (br0 (fin rfl hI0)))
theorem ix5 (a b : Nat) : nI a * 5 + nI b = nI (a * 5 + b) := by rw [show (5 : Int32) = nI 5 from rfl, pk_mul, nI_add]
theorem ix5' (a b : Nat) : 5 * nI a + nI b = nI (a * 5 + b) := by rw [show (5 : Int32) = nI 5 from rfl, pk_mul, nI_add, Nat.mul_comm]
theorem pr_ask (hI : Inv σ) (hh w v : Int32) : Pr l 81 [some (.ref 0), some (.int hh), some (.int w), some (.int v)] 134 [some (.ref 13), some (.int hh), some (.int w), some (.int v), none] σ := by
  have hI0 := hI
  obtain ⟨n, d, t, c, h, r, q, f, y, hpl, hdr, hsh, htp, hmt, has, hct, hrd, hln, hfl, hli⟩ := hI
  by_cases h1 : 0 ≤ hh.toInt ∧ hh.toInt ≤ 23
  · by_cases h2 : 0 ≤ w.toInt ∧ w.toInt ≤ 4
    · by_cases h3 : 0 ≤ v.toInt ∧ v.toInt ≤ 20
      · obtain ⟨a, ha, rfl⟩ := nat_of (b := 23) h1.1 h1.2
        obtain ⟨b, hb, rfl⟩ := nat_of (b := 4) h2.1 h2.2
        refine b_X10_ask_0 _ _ v (wt h1 (br1 (ward_t h2 (br1 (wt h3 (br1 (b_X0_replace_0 _ _ v (b_X0_at_0 _ _ ?_))))))))
        rw [ix5, cl_nI (by omega)]
        refine ⟨in_nI (by omega) (by decide), in_nI (by omega) (by decide), ?_⟩
        refine b_X11_ask_0 _ _ v (ni_t h1 (br1 (mward_t h2 (br1 (ni_t h3 (br1 ?_))))))
        rw [ix5', cl_nI (by omega)]
        refine ⟨in_nI (by omega) (by decide), in_nI (by omega) (by decide), fin (has _ (by omega)).1 ?_⟩
        refine ⟨n, d, t, c, h, r, q, f, y, hpl.fr, hdr.fr, hsh.fr, htp.fr, hmt.fr, fun i hi => ?_, hct.fr, hrd.fr, hln.fr, hfl.fr, hli.fr⟩
        show upd (σ 29) (a * 5 + b) v i = upd (σ 72) (a * 5 + b) v i ∧ rg 0 20 (upd (σ 29) (a * 5 + b) v i)
        by_cases e : i = a * 5 + b
        · subst e; simp only [upd_s]; exact ⟨trivial, h3⟩
        · simp only [upd_n _ _ e]; exact has i hi
      · refine b_X10_ask_0 _ _ v (wt h1 (br1 (ward_t h2 (br1 (wf h3 (br0 ?_))))))
        exact b_X11_ask_0 _ _ v (ni_t h1 (br1 (mward_t h2 (br1 (ni_f h3 (br0 (fin rfl hI0)))))))
    · refine b_X10_ask_0 _ _ v (wt h1 (br1 (ward_f h2 (br0 ?_))))
      exact b_X11_ask_0 _ _ v (ni_t h1 (br1 (mward_f h2 (br0 (fin rfl hI0)))))
  · refine b_X10_ask_0 _ _ v (wf h1 (br0 ?_))
    exact b_X11_ask_0 _ _ v (ni_f h1 (br0 (fin rfl hI0)))
theorem pr_rent (hI : Inv σ) (x le co : Int32) : Pr l 88 [some (.ref 0), some (.int x), some (.int le), some (.int co)] 150 [some (.ref 13), some (.int x), some (.int le), some (.int co), none] σ := by
  have hI0 := hI
  obtain ⟨n, d, t, c, h, r, q, f, y, hpl, hdr, hsh, htp, hmt, has, hct, hrd, hln, hfl, hli⟩ := hI
  obtain ⟨hn, hs, hm, hp⟩ := hpl
  rcases nI_case x n (by omega) with ⟨p, hpn, rfl⟩ | hx
  · by_cases hl : 0 ≤ le.toInt ∧ le.toInt ≤ 9999
    · by_cases hc : 0 ≤ co.toInt ∧ co.toInt ≤ 9999
      · refine b_X10_rent_0 _ _ _ (pl_t hn hs hpn (br1 (rent_t hl hc (br1 (b_X6_replaceRent_0 _ _ _ ?_)))))
        rw [cl_nI (by omega)]
        refine ⟨in_nI (by omega) (by decide), in_nI (by omega) (by decide), in_nI (by omega) (by decide), ?_⟩
        refine b_X11_rent_0 _ _ _ (mpl_t hn hm hpn (br1 (ni_t hl (br1 (ni_t hc (br1 ?_))))))
        rw [cl_nI (by omega)]
        refine ⟨in_nI (by omega) (by decide), in_nI (by omega) (by decide), in_nI (by omega) (by decide), fin (hp p hpn).2.2.1 ?_⟩
        refine ⟨n, d, t, c, h, r, q, f, y, ⟨hn, hs, hm, fun p1 hp1 => ?_⟩, hdr.fr, hsh.fr, htp.fr, hmt.fr, has.fr, hct.fr, hrd.fr, hln.fr, hfl.fr, hli.fr⟩
        show σ 14 p1 = σ 58 p1 ∧ σ 15 p1 = σ 59 p1 ∧ upd (σ 16) p le p1 = upd (σ 60) p le p1 ∧ upd (σ 17) p co p1 = upd (σ 61) p co p1 ∧ rg 0 3 (σ 14 p1) ∧ rg 0 9999 (upd (σ 16) p le p1) ∧ rg 0 9999 (upd (σ 17) p co p1)
        obtain ⟨a1, a2, a3, a4, a5, a6, a7⟩ := hp p1 hp1
        by_cases e : p1 = p
        · subst e; simp only [upd_s]; exact ⟨a1, a2, trivial, trivial, a5, hl, hc⟩
        · simp only [upd_n _ _ e]; exact ⟨a1, a2, a3, a4, a5, a6, a7⟩
      · refine b_X10_rent_0 _ _ _ (pl_t hn hs hpn (br1 (rent_f (fun z => hc z.2) (br0 ?_))))
        exact b_X11_rent_0 _ _ _ (mpl_t hn hm hpn (br1 (ni_t hl (br1 (ni_f hc (br0 (fin rfl hI0)))))))
    · refine b_X10_rent_0 _ _ _ (pl_t hn hs hpn (br1 (rent_f (fun z => hl z.1) (br0 ?_))))
      exact b_X11_rent_0 _ _ _ (mpl_t hn hm hpn (br1 (ni_f hl (br0 (fin rfl hI0)))))
  · refine b_X10_rent_0 _ _ _ (pl_f hn hs hx (br0 ?_))
    exact b_X11_rent_0 _ _ _ (mpl_f hn hm hx (br0 (fin rfl hI0)))
theorem pr_loan (hI : Inv σ) (x rk sm : Int32) : Pr l 89 [some (.ref 0), some (.int x), some (.int rk), some (.int sm)] 151 [some (.ref 13), some (.int x), some (.int rk), some (.int sm)] σ := by
  have hI0 := hI
  obtain ⟨n, d, t, c, h, r, q, f, y, hpl, hdr, hsh, htp, hmt, has, hct, hrd, hln, hfl, hli⟩ := hI
  have hpl0 := hpl
  obtain ⟨hn, hs, hm, hp⟩ := hpl
  obtain ⟨hq, hqs, hqm, hqp⟩ := hln
  rcases nI_case x n (by omega) with ⟨p, hpn, rfl⟩ | hx
  · by_cases hr : 0 ≤ rk.toInt ∧ rk.toInt ≤ 9
    · by_cases hsm : 1 ≤ sm.toInt ∧ sm.toInt ≤ 99999
      · by_cases hq2 : q = 30
        · subst hq2
          refine b_X10_loan_0 _ _ _ (pl_t hn hs hpn (br1 (wt hr (br1 (wt hsm (br1 (br_t' hqs ?_)))))))
          exact b_X11_loan_0 _ _ _ (mpl_t hn hm hpn (br1 (ni_t hr (br1 (ni_t hsm (br1 (br_t' hqm (fin rfl hI0))))))))
        · have h30 : ¬ nI q = 30 := nI_ne (b := 30) (by omega) (by decide) hq2
          refine b_X10_loan_0 _ _ _ (pl_t hn hs hpn (br1 (wt hr (br1 (wt hsm (br1 (br_f' (by rw [hqs]; exact h30) (b_X4_add_0 _ _ _ ?_))))))))
          rw [hqs, cl_nI (by omega)]
          refine ⟨in_nI (by omega) (by decide), in_nI (by omega) (by decide), in_nI (by omega) (by decide), ?_⟩
          have hm1 : (ax_us (ax_us (ax_us (ax_us σ 47 q (nI p)) 48 q rk) 49 q sm) 9 4 (nI q + 1)) 13 42 = nI q := hqm
          refine b_X11_loan_0 _ _ _ (mpl_t (n := n) hn hm hpn (br1 (ni_t hr (br1 (ni_t hsm (br1 (br_f' (by rw [hm1]; exact h30) ?_)))))))
          rw [hm1, cl_nI (by omega)]
          refine ⟨in_nI (by omega) (by decide), in_nI (by omega) (by decide), in_nI (by omega) (by decide), fin rfl ?_⟩
          refine ⟨n, d, t, c, h, r, q + 1, f, y, hpl0.fr, hdr.fr, hsh.fr, htp.fr, hmt.fr, has.fr, hct.fr, hrd.fr, ⟨by omega, nI_1 q, nI_1 q, fun i hi => ?_⟩, hfl.fr, hli.fr⟩
          show upd (σ 47) q (nI p) i = upd (σ 84) q (nI p) i ∧ (∃ p', p' < n ∧ upd (σ 47) q (nI p) i = nI p') ∧ upd (σ 48) q rk i = upd (σ 85) q rk i ∧ rg 0 9 (upd (σ 48) q rk i) ∧ upd (σ 49) q sm i = upd (σ 86) q sm i ∧ rg 0 99999 (upd (σ 49) q sm i)
          by_cases e : i = q
          · subst e; simp only [upd_s]; exact ⟨trivial, ⟨p, hpn, rfl⟩, trivial, hr, trivial, ⟨by have := hsm.1; omega, hsm.2⟩⟩
          · simp only [upd_n _ _ e]; exact hqp i (by omega)
      · refine b_X10_loan_0 _ _ _ (pl_t hn hs hpn (br1 (wt hr (br1 (wf hsm (br0 ?_))))))
        exact b_X11_loan_0 _ _ _ (mpl_t hn hm hpn (br1 (ni_t hr (br1 (ni_f hsm (br0 (fin rfl hI0)))))))
    · refine b_X10_loan_0 _ _ _ (pl_t hn hs hpn (br1 (wf hr (br0 ?_))))
      exact b_X11_loan_0 _ _ _ (mpl_t hn hm hpn (br1 (ni_f hr (br0 (fin rfl hI0)))))
  · refine b_X10_loan_0 _ _ _ (pl_f hn hs hx (br0 ?_))
    exact b_X11_loan_0 _ _ _ (mpl_f hn hm hx (br0 (fin rfl hI0)))
theorem pr_swap (hI : Inv σ) (s : Int32) : Pr l 95 [some (.ref 0), some (.int s)] 159 [some (.ref 13), some (.int s)] σ := by
  have hI0 := hI
  obtain ⟨n, d, t, c, h, r, q, f, y, hpl, hdr, hsh, htp, hmt, has, hct, hrd, hln, hfl, hli⟩ := hI
  obtain ⟨hf, hfs, hfm, hfp⟩ := hfl
  by_cases hs : 1 ≤ s.toInt ∧ s.toInt ≤ 255
  · by_cases hf2 : f = 6
    · subst hf2
      refine b_X10_swap_0 s (wt hs (br1 (br_t' hfs ?_)))
      exact b_X11_swap_0 s (ni_t hs (br1 (br_t' hfm (fin rfl hI0))))
    · have h6 : ¬ nI f = 6 := nI_ne (b := 6) (by omega) (by decide) hf2
      refine b_X10_swap_0 s (wt hs (br1 (br_f' (by rw [hfs]; exact h6) (b_X2_add_0 s ?_))))
      rw [hfs, cl_nI (by omega)]
      refine ⟨in_nI (by omega) (by decide), ?_⟩
      have hm1 : (ax_us (ax_us σ 51 f s) 10 2 (nI f + 1)) 13 47 = nI f := hfm
      refine b_X11_swap_0 s (ni_t hs (br1 (br_f' (by rw [hm1]; exact h6) ?_)))
      rw [hm1, cl_nI (by omega)]
      refine ⟨in_nI (by omega) (by decide), fin rfl ?_⟩
      refine ⟨n, d, t, c, h, r, q, f + 1, y, hpl.fr, hdr.fr, hsh.fr, htp.fr, hmt.fr, has.fr, hct.fr, hrd.fr, hln.fr, ⟨by omega, nI_1 f, nI_1 f, fun i hi => ?_⟩, hli.fr⟩
      show upd (σ 51) f s i = upd (σ 88) f s i ∧ rg 1 255 (upd (σ 51) f s i)
      by_cases e : i = f
      · subst e; simp only [upd_s]; exact ⟨trivial, hs⟩
      · simp only [upd_n _ _ e]; exact hfp i (by omega)
  · refine b_X10_swap_0 s (wf hs (br0 ?_))
    exact b_X11_swap_0 s (ni_f hs (br0 (fin rfl hI0)))
theorem pr_unswap (hI : Inv σ) : Pr l 96 [some (.ref 0)] 160 [some (.ref 13), none] σ := by
  obtain ⟨n, d, t, c, h, r, q, f, y, hpl, hdr, hsh, htp, hmt, has, hct, hrd, hln, hfl, hli⟩ := hI
  obtain ⟨hf, hfs, hfm, hfp⟩ := hfl
  refine b_X10_unswap_0 (b_X2_clear_0 ?_)
  refine b_X11_unswap_0 (fin (hfs.trans hfm.symm) ?_)
  exact ⟨n, d, t, c, h, r, q, 0, y, hpl.fr, hdr.fr, hsh.fr, htp.fr, hmt.fr, has.fr, hct.fr, hrd.fr, hln.fr, ⟨by omega, rfl, rfl, fun i hi => absurd hi (by omega)⟩, hli.fr⟩
end OpsA
end
section
/-! stand, driven, about, rode, count -/
section OpsB
variable {l : Launch} {σ : ax_Sg} {P : Option Value → ax_Sg → Prop}
theorem c_may {n p : Nat} (hn : n ≤ 12) (hp : p < n) {x : Int32} (hx : 0 ≤ x.toInt) (hT : (¬ σ 14 p = 3 ∨ 2 ≤ x.toInt) → P (some (.int 1)) σ) (hF : ¬ (¬ σ 14 p = 3 ∨ 2 ≤ x.toInt) → P (some (.int 0)) σ) : Ev l 44 0 [some (.ref 1), some (.int (nI p)), some (.int x)] [] σ P := by
  refine b_X6_mayStand_0 _ x ?_
  rw [cl_nI (by omega)]
  have h2 : (2 : Int32).toInt = 2 := by decide
  refine ⟨in_nI (by omega) (by decide), br_i (fun h => br_i (fun h1 => ⟨nar0, hF ?_⟩) (fun h1 => ⟨nar1, hT (Or.inr ?_)⟩)) (fun h => ⟨nar1, hT (Or.inl h)⟩)⟩
  · rw [lt_toInt, h2] at h1
    rintro (h3 | h3)
    · exact h3 h
    · omega
  · rw [lt_toInt, h2] at h1; omega
theorem m_may {n p : Nat} (hn : n ≤ 12) (hp : p < n) {x : Int32} (hx : 0 ≤ x.toInt) (hT : (¬ σ 58 p = 3 ∨ 2 ≤ x.toInt) → P (some (.int 1)) σ) (hF : ¬ (¬ σ 58 p = 3 ∨ 2 ≤ x.toInt) → P (some (.int 0)) σ) : Ev l 135 0 [some (.ref 13), some (.int (nI p)), some (.int x)] [] σ P := by
  refine b_X11_mayStand_0 _ x ?_
  rw [cl_nI (by omega)]
  have h1' : (1 : Int32).toInt = 1 := by decide
  refine ⟨in_nI (by omega) (by decide), br_i (fun h => br_i (fun h1 => ⟨nar1, hT (Or.inr ?_)⟩) (fun h1 => ⟨nar0, hF ?_⟩)) (fun h => ⟨nar1, hT (Or.inl h)⟩)⟩
  · rw [lt_toInt, h1'] at h1; omega
  · rw [lt_toInt, h1'] at h1
    rintro (h3 | h3)
    · exact h3 h
    · omega
theorem stand_inv {n p d t c h r q f y : Nat} {v : Int32} (hv : rg (-1) 4 v) (hpn : p < n) (hn : n ≤ 12) (hpl : iv_pl n σ) (hdr : iv_dr d σ) (hsh : iv_sh n d σ) (htp : iv_tp t σ) (hmt : iv_mt c σ) (has : iv_as σ) (hct : iv_ct n h σ) (hrd : iv_rd r σ) (hln : iv_ln n q σ) (hfl : iv_fl f σ) (hli : iv_li n y σ) : Inv (ax_us (ax_us σ 31 p v) 65 (24 + p) v) := by
  refine ⟨n, d, t, c, h, r, q, f, y, hpl.fr, hdr.fr, hsh.fr, htp.fr, hmt.fr, has.fr, ?_, hrd.fr, hln.fr, hfl.fr, hli.fr⟩
  obtain ⟨g1, g2, g3, g4, g5, g6, g7, g8, g9, g10, g11, g12, g13⟩ := hct
  have e65 : ∀ i, i ≠ 24 + p → (ax_us (ax_us σ 31 p v) 65 (24 + p) v) 65 i = σ 65 i := fun i hi => upd_n _ _ hi
  have e65n : (ax_us (ax_us σ 31 p v) 65 (24 + p) v) 65 (24 + p) = v := upd_s _ _ _
  have e31 : ∀ i, i ≠ p → (ax_us (ax_us σ 31 p v) 65 (24 + p) v) 31 i = σ 31 i := fun i hi => upd_n _ _ hi
  have e31n : (ax_us (ax_us σ 31 p v) 65 (24 + p) v) 31 p = v := upd_s _ _ _
  refine ⟨g1, g2, g3, g4, g5, g6, fun i hi => ?_, fun i hi1 hi2 => ?_, fun i hi => ?_, fun j hj => ?_, fun i hi => ?_, g12, fun w hw => ?_⟩
  · by_cases e : i = p
    · subst e; rw [e65n, e31n]; exact ⟨rfl, hv⟩
    · rw [e65 _ (by omega), e31 _ e]; exact g7 i hi
  · rw [e31 _ (by omega)]; exact g8 i hi1 hi2
  · rw [e65 _ (by omega), e65 _ (by omega)]; exact g9 i hi
  · rw [e65 _ (by omega), e65 _ (by omega)]; exact g10 j hj
  · rw [e65 _ (by omega)]; exact g11 i hi
  · rw [e65 _ (by omega)]; exact g13 w hw
theorem pr_stand (hI : Inv σ) (x w : Int32) : Pr l 82 [some (.ref 0), some (.int x), some (.int w)] 136 [some (.ref 13), some (.int x), some (.int w), none] σ := by
  have hI0 := hI
  obtain ⟨n, d, t, c, h, r, q, f, y, hpl, hdr, hsh, htp, hmt, has, hct, hrd, hln, hfl, hli⟩ := hI
  have hpl0 := hpl
  obtain ⟨hn, hs, hm, hp⟩ := hpl
  have hm1 : (-1 : Int32).toInt = -1 := by decide
  have h00 : (0 : Int32).toInt = 0 := by decide
  rcases nI_case x n (by omega) with ⟨p, hpn, rfl⟩ | hx
  · have e24 : 24 + nI p = nI (24 + p) := nI_add 24 p
    have h31 : σ 31 p = σ 65 (24 + p) := (hct.2.2.2.2.2.2.1 p hpn).1
    have h14 : σ 14 p = σ 58 p := (hp p hpn).1
    by_cases hw1 : w = -1
    · refine b_X10_stand_0 _ _ (pl_t hn hs hpn (br1 (br_t' hw1 (br_t' hw1 (b_X1_put_r7_0 _ _ ?_)))))
      rw [cl_nI (by omega)]
      refine ⟨in_nI (by omega) (by decide), in_nI (by omega) (by decide), ?_⟩
      refine b_X11_stand_0 _ _ (mpl_t (n := n) hn hm hpn (br1 (br_t' hw1 (br_t' (by rw [hw1]; decide) ?_))))
      rw [e24, cl_nI (by omega)]
      exact ⟨in_nI (by omega) (by decide), in_nI (by omega) (by decide), fin h31 (stand_inv (by rw [hw1]; unfold rg; decide) hpn hn hpl0 hdr hsh htp hmt has hct hrd hln hfl hli)⟩
    · by_cases hw : 0 ≤ w.toInt ∧ w.toInt ≤ 4
      · by_cases hmay : ¬ σ 14 p = 3 ∨ 2 ≤ w.toInt
        · refine b_X10_stand_0 _ _ (pl_t hn hs hpn (br1 (br_f' hw1 (ward_t hw (br1 (br_f' hw1 (c_may hn hpn hw.1 (fun _ => br1 (b_X1_put_r7_0 _ _ ?_)) (fun z => absurd hmay z))))))))
          rw [cl_nI (by omega)]
          refine ⟨in_nI (by omega) (by decide), in_nI (by omega) (by decide), ?_⟩
          refine b_X11_stand_0 _ _ (mpl_t (n := n) hn hm hpn (br1 (br_f' hw1 (mward_t hw (br1 (br_f' (by rw [lt_toInt, h00]; omega) (m_may hn hpn hw.1 (fun _ => br1 ?_) (fun z => absurd (by show ¬ σ 58 p = 3 ∨ _; rw [← h14]; exact hmay) z))))))))
          rw [e24, cl_nI (by omega)]
          exact ⟨in_nI (by omega) (by decide), in_nI (by omega) (by decide), fin h31 (stand_inv ⟨by omega, hw.2⟩ hpn hn hpl0 hdr hsh htp hmt has hct hrd hln hfl hli)⟩
        · refine b_X10_stand_0 _ _ (pl_t hn hs hpn (br1 (br_f' hw1 (ward_t hw (br1 (br_f' hw1 (c_may hn hpn hw.1 (fun z => absurd z hmay) (fun _ => br0 ?_))))))))
          exact b_X11_stand_0 _ _ (mpl_t (n := n) hn hm hpn (br1 (br_f' hw1 (mward_t hw (br1 (br_f' (by rw [lt_toInt, h00]; omega) (m_may hn hpn hw.1 (fun z => absurd (by rw [h14]; exact z) hmay) (fun _ => br0 (fin rfl hI0)))))))))
      · refine b_X10_stand_0 _ _ (pl_t hn hs hpn (br1 (br_f' hw1 (ward_f hw (br0 ?_)))))
        exact b_X11_stand_0 _ _ (mpl_t (n := n) hn hm hpn (br1 (br_f' hw1 (mward_f hw (br0 (fin rfl hI0))))))
  · refine b_X10_stand_0 _ _ (pl_f hn hs hx (br0 ?_))
    exact b_X11_stand_0 _ _ (mpl_f (n := n) hn hm hx (br0 (fin rfl hI0)))
theorem pr_driven (hI : Inv σ) (x w : Int32) : Pr l 76 [some (.ref 0), some (.int x), some (.int w)] 119 [some (.ref 13), some (.int x), some (.int w)] σ := by
  have hI0 := hI
  obtain ⟨n, d, t, c, h, r, q, f, y, hpl, hdr, hsh, htp, hmt, has, hct, hrd, hln, hfl, hli⟩ := hI
  obtain ⟨hd, hs, hm, hp⟩ := hdr
  rcases nI_case x d (by omega) with ⟨p, hpn, rfl⟩ | hx
  · have e36 : 36 + nI p = nI (36 + p) := nI_add 36 p
    have e52 : 52 + nI p = nI (52 + p) := nI_add 52 p
    have hc := hct.2.2.2.2.2.2.2.2.2.1 p (by omega)
    by_cases h0 : w = 0
    · refine b_X10_driven_0 _ _ (dr_t hd hs hpn (br1 (swt h0 ⟨in_nI (by omega) (by decide), ?_⟩)))
      refine b_X11_driven_0 _ _ (mdr_t hd hm hpn (br1 (swt h0 ⟨in_nI (by omega) (by decide), fin ?_ hI0⟩)))
      rw [cl_nI (by omega)]; exact (hp p hpn).1
    · by_cases h1 : w = 1
      · refine b_X10_driven_0 _ _ (dr_t hd hs hpn (br1 (swf h0 (swt h1 ⟨in_nI (by omega) (by decide), ?_⟩))))
        refine b_X11_driven_0 _ _ (mdr_t hd hm hpn (br1 (swf h0 (swt h1 ?_))))
        rw [e36]
        exact ⟨in_nI (by omega) (by decide), fin (by rw [cl_nI (by omega), cl_nI (by omega)]; exact hc.1) hI0⟩
      · by_cases h2 : w = 2
        · refine b_X10_driven_0 _ _ (dr_t hd hs hpn (br1 (swf h0 (swf h1 (swt h2 ⟨in_nI (by omega) (by decide), ?_⟩)))))
          refine b_X11_driven_0 _ _ (mdr_t hd hm hpn (br1 (swf h0 (swf h1 (swt h2 ?_)))))
          rw [e52]
          exact ⟨in_nI (by omega) (by decide), fin (by rw [cl_nI (by omega), cl_nI (by omega)]; exact hc.2) hI0⟩
        · refine b_X10_driven_0 _ _ (dr_t hd hs hpn (br1 (swf h0 (swf h1 (swf h2 ?_)))))
          exact b_X11_driven_0 _ _ (mdr_t hd hm hpn (br1 (swf h0 (swf h1 (swf h2 (fin rfl hI0))))))
  · refine b_X10_driven_0 _ _ (dr_f hd hs hx (br0 ?_))
    exact b_X11_driven_0 _ _ (mdr_f hd hm hx (br0 (fin rfl hI0)))
theorem c_max (x y : Int32) (h : P (some (.int (if x < y then y else x))) σ) : Ev l 175 0 [some (.int x), some (.int y)] [] σ P := by
  refine b_J9_max_7cf53_0 x y (br_i (fun e => ?_) (fun e => ?_))
  · rw [if_pos e] at h; exact h
  · rw [if_neg e] at h; exact h
theorem c_min (x y : Int32) (h : P (some (.int (if y < x then y else x))) σ) : Ev l 176 0 [some (.int x), some (.int y)] [] σ P := by
  refine b_J9_min_7cf53_0 x y (br_i (fun e => ?_) (fun e => ?_))
  · rw [if_pos e] at h; exact h
  · rw [if_neg e] at h; exact h
theorem sub_toInt {x y : Int32} (h1 : -2147483648 ≤ x.toInt - y.toInt) (h2 : x.toInt - y.toInt < 2147483648) : (x - y).toInt = x.toInt - y.toInt := by
  rw [Int32.toInt_sub]
  exact Int.bmod_eq_of_le (by omega) (by omega)
theorem add_toInt {x y : Int32} (h1 : -2147483648 ≤ x.toInt + y.toInt) (h2 : x.toInt + y.toInt < 2147483648) : (x + y).toInt = x.toInt + y.toInt := by
  rw [Int32.toInt_add]
  exact Int.bmod_eq_of_le (by omega) (by omega)
theorem mul_toInt {x y : Int32} (h1 : -2147483648 ≤ x.toInt * y.toInt) (h2 : x.toInt * y.toInt < 2147483648) : (x * y).toInt = x.toInt * y.toInt := by
  rw [Int32.toInt_mul]
  exact Int.bmod_eq_of_le (by omega) (by omega)
theorem pr_about (hI : Inv σ) (x w : Int32) : Pr l 75 [some (.ref 0), some (.int x), some (.int w)] 118 [some (.ref 13), some (.int x), some (.int w)] σ := by
  have hI0 := hI
  obtain ⟨n, d, t, c, h, r, q, f, y, hpl, hdr, hsh, htp, hmt, has, hct, hrd, hln, hfl, hli⟩ := hI
  obtain ⟨hn, hs, hm, hp⟩ := hpl
  rcases nI_case x n (by omega) with ⟨p, hpn, rfl⟩ | hx
  · have e12 : 12 + nI p = nI (12 + p) := nI_add 12 p
    have e24 : 24 + nI p = nI (24 + p) := nI_add 24 p
    have e2 : nI p * 2 = nI (2 * p) := by rw [show (2 : Int32) = nI 2 from rfl, pk_mul, Nat.mul_comm]
    have e21 : nI p * 2 + 1 = nI (2 * p + 1) := by rw [e2]; exact nI_1 _
    have hc := hct.2.2.2.2.2.2.2.2.1 p (by omega)
    have hin : vp_in (nI p) 12 := in_nI (by omega) (by decide)
    have hin8 : vp_in (nI p) 88 := in_nI (by omega) (by decide)
    have hcl : (nI p).toNatClampNeg = p := cl_nI (by omega)
    by_cases h0 : w = 0
    · refine b_X10_about_0 _ _ (pl_t hn hs hpn (br1 (swt h0 ⟨hin, ?_⟩)))
      exact b_X11_about_0 _ _ (mpl_t hn hm hpn (br1 (swt h0 ⟨hin, fin (by rw [hcl]; exact (hp p hpn).1) hI0⟩)))
    by_cases h1 : w = 1
    · refine b_X10_about_0 _ _ (pl_t hn hs hpn (br1 (swf h0 (swt h1 ⟨hin, ?_⟩))))
      exact b_X11_about_0 _ _ (mpl_t hn hm hpn (br1 (swf h0 (swt h1 ⟨hin, fin (by rw [hcl]; exact (hp p hpn).2.1) hI0⟩))))
    by_cases h2 : w = 2
    · refine b_X10_about_0 _ _ (pl_t hn hs hpn (br1 (swf h0 (swf h1 (swt h2 ?_)))))
      rw [e2]
      refine ⟨in_nI (by omega) (by decide), ?_⟩
      exact b_X11_about_0 _ _ (mpl_t hn hm hpn (br1 (swf h0 (swf h1 (swt h2 ⟨hin, fin (by rw [hcl, cl_nI (by omega)]; exact (hsh.1 p hpn).1) hI0⟩)))))
    by_cases h3 : w = 3
    · refine b_X10_about_0 _ _ (pl_t hn hs hpn (br1 (swf h0 (swf h1 (swf h2 (swt h3 ?_))))))
      rw [e21]
      refine ⟨in_nI (by omega) (by decide), ?_⟩
      exact b_X11_about_0 _ _ (mpl_t hn hm hpn (br1 (swf h0 (swf h1 (swf h2 (swt h3 ⟨hin, fin (by rw [hcl, cl_nI (by omega)]; exact (hsh.1 p hpn).2) hI0⟩))))))
    by_cases h4 : w = 4
    · refine b_X10_about_0 _ _ (pl_t hn hs hpn (br1 (swf h0 (swf h1 (swf h2 (swf h3 (swt h4 ⟨hin, ?_⟩)))))))
      exact b_X11_about_0 _ _ (mpl_t hn hm hpn (br1 (swf h0 (swf h1 (swf h2 (swf h3 (swt h4 ⟨hin8, fin (by rw [hcl]; exact hc.1) hI0⟩)))))))
    by_cases h5 : w = 5
    · refine b_X10_about_0 _ _ (pl_t hn hs hpn (br1 (swf h0 (swf h1 (swf h2 (swf h3 (swf h4 (swt h5 ⟨hin, ?_⟩))))))))
      refine b_X11_about_0 _ _ (mpl_t hn hm hpn (br1 (swf h0 (swf h1 (swf h2 (swf h3 (swf h4 (swt h5 ?_))))))))
      rw [e12]
      exact ⟨in_nI (by omega) (by decide), fin (by rw [hcl, cl_nI (by omega)]; exact hc.2.1) hI0⟩
    by_cases h6 : w = 6
    · refine b_X10_about_0 _ _ (pl_t hn hs hpn (br1 (swf h0 (swf h1 (swf h2 (swf h3 (swf h4 (swf h5 (swt h6 ⟨hin, ?_⟩)))))))))
      refine b_X11_about_0 _ _ (mpl_t hn hm hpn (br1 (swf h0 (swf h1 (swf h2 (swf h3 (swf h4 (swf h5 (swt h6 ?_)))))))))
      rw [e24]
      exact ⟨in_nI (by omega) (by decide), fin (by rw [hcl, cl_nI (by omega)]; exact (hct.2.2.2.2.2.2.1 p hpn).1) hI0⟩
    by_cases h7 : w = 7
    · have h400 := hct.1
      obtain ⟨hc1, -, hc3, hc4⟩ := hc
      have h14 : σ 14 p = σ 58 p := (hp p hpn).1
      have h5i : (5 : Int32).toInt = 5 := by decide
      have h0i : (0 : Int32).toInt = 0 := by decide
      by_cases hk : σ 14 p = 1
      · have hsub : (5 - σ 32 p).toInt = 5 - (σ 32 p).toInt := by
          rw [sub_toInt (by rw [h5i]; omega) (by rw [h5i]; omega), h5i]
        refine b_X10_about_0 _ _ (pl_t hn hs hpn (br1 (swf h0 (swf h1 (swf h2 (swf h3 (swf h4 (swf h5 (swf h6 (swt h7 ⟨hin, b_X6_hoursDue_0 _ _ ⟨hin, br_t' (by rw [hcl]; exact hk) (c_max _ _ ?_)⟩⟩))))))))))
        rw [hcl]
        by_cases hlt : (σ 32 p).toInt < 5
        · rw [if_pos (by rw [lt_toInt, hsub, h0i]; omega)]
          exact b_X11_about_0 _ _ (mpl_t hn hm hpn (br1 (swf h0 (swf h1 (swf h2 (swf h3 (swf h4 (swf h5 (swf h6 (swt h7 ⟨hin, br_t' (by rw [hcl, ← h14]; exact hk) ⟨hin8, br_t' (by rw [hcl, ← hc1, lt_toInt, h5i]; exact hlt) ⟨hin8, fin (by rw [hcl, ← hc1]) hI0⟩⟩⟩))))))))))
        · rw [if_neg (by rw [lt_toInt, hsub, h0i]; omega)]
          exact b_X11_about_0 _ _ (mpl_t hn hm hpn (br1 (swf h0 (swf h1 (swf h2 (swf h3 (swf h4 (swf h5 (swf h6 (swt h7 ⟨hin, br_t' (by rw [hcl, ← h14]; exact hk) ⟨hin8, br_f' (by rw [hcl, ← hc1, lt_toInt, h5i]; exact hlt) (fin rfl hI0)⟩⟩))))))))))
      · refine b_X10_about_0 _ _ (pl_t hn hs hpn (br1 (swf h0 (swf h1 (swf h2 (swf h3 (swf h4 (swf h5 (swf h6 (swt h7 ⟨hin, b_X6_hoursDue_0 _ _ ⟨hin, br_f' (by rw [hcl]; exact hk) ?_⟩⟩))))))))))
        exact b_X11_about_0 _ _ (mpl_t hn hm hpn (br1 (swf h0 (swf h1 (swf h2 (swf h3 (swf h4 (swf h5 (swf h6 (swt h7 ⟨hin, br_f' (by rw [hcl, ← h14]; exact hk) (fin rfl hI0)⟩))))))))))
    · refine b_X10_about_0 _ _ (pl_t hn hs hpn (br1 (swf h0 (swf h1 (swf h2 (swf h3 (swf h4 (swf h5 (swf h6 (swf h7 ?_))))))))))
      exact b_X11_about_0 _ _ (mpl_t hn hm hpn (br1 (swf h0 (swf h1 (swf h2 (swf h3 (swf h4 (swf h5 (swf h6 (swf h7 (fin rfl hI0)))))))))))
  · refine b_X10_about_0 _ _ (pl_f hn hs hx (br0 ?_))
    exact b_X11_about_0 _ _ (mpl_f hn hm hx (br0 (fin rfl hI0)))
theorem pr_rode (hI : Inv σ) (x w : Int32) : Pr l 86 [some (.ref 0), some (.int x), some (.int w)] 146 [some (.ref 13), some (.int x), some (.int w)] σ := by
  have hI0 := hI
  obtain ⟨n, d, t, c, h, r, q, f, y, hpl, hdr, hsh, htp, hmt, has, hct, hrd, hln, hfl, hli⟩ := hI
  obtain ⟨hr, hs, hm, hp⟩ := hrd
  have hb64 : (Int32.toInt64 (σ 13 15 - 1)).toInt = (r : Int) - 1 := by rw [hm, Int32.toInt_toInt64]; exact sub1_toInt (by omega)
  rcases nI_case x r (by omega) with ⟨k, hk, rfl⟩ | hx
  · have hxk : 0 ≤ (nI k).toInt ∧ (nI k).toInt ≤ (r : Int) - 1 := by rw [nI_toInt (by omega)]; omega
    have hin : vp_in (nI k) 300 := in_nI (by omega) (by decide)
    have hcl : (nI k).toNatClampNeg = k := cl_nI (by omega)
    obtain ⟨p0, p1, p2, p3, p4⟩ := hp k hk
    by_cases hw : 0 ≤ w.toInt ∧ w.toInt ≤ 4
    · obtain ⟨b, hb, rfl⟩ := nat_of (b := 4) hw.1 hw.2
      refine b_X10_rode_0 _ _ (b_X7_has_0 _ ?_)
      rw [hs]
      refine wt hxk ⟨nar1, br1 (wt hw (br1 (b_X7_detail_0 _ _ ?_)))⟩ (by decide) (sub1_toInt (by omega))
      rw [ix5]
      refine ⟨in_nI (by omega) (by decide), ?_⟩
      rw [cl_nI (by omega)]
      have go : (∀ Q : Prop, Q → Q) := fun _ z => z
      refine b_X11_rode_0 _ _ (ni_t hxk (br1 ?_) (by decide) hb64)
      rcases (show b = 0 ∨ b = 1 ∨ b = 2 ∨ b = 3 ∨ b = 4 by omega) with rfl | rfl | rfl | rfl | rfl
      · exact swt rfl ⟨hin, fin (by rw [hcl]; exact p0) hI0⟩
      · exact swf (by decide) (swt rfl ⟨hin, fin (by rw [hcl]; exact p1) hI0⟩)
      · exact swf (by decide) (swf (by decide) (swt rfl ⟨hin, fin (by rw [hcl]; exact p2) hI0⟩))
      · exact swf (by decide) (swf (by decide) (swf (by decide) (swt rfl ⟨hin, fin (by rw [hcl]; exact p3) hI0⟩)))
      · exact swf (by decide) (swf (by decide) (swf (by decide) (swf (by decide) (swt rfl ⟨hin, fin (by rw [hcl]; exact p4) hI0⟩))))
    · have nn : ∀ m : Nat, m ≤ 4 → ¬ w = nI m := fun m hm e => hw (by rw [e, nI_toInt (by omega)]; omega)
      refine b_X10_rode_0 _ _ (b_X7_has_0 _ ?_)
      rw [hs]
      refine wt hxk ⟨nar1, br1 (wf hw (br0 ?_))⟩ (by decide) (sub1_toInt (by omega))
      exact b_X11_rode_0 _ _ (ni_t hxk (br1 (swf (nn 0 (by omega)) (swf (nn 1 (by omega)) (swf (nn 2 (by omega)) (swf (nn 3 (by omega)) (swf (nn 4 (by omega)) (fin rfl hI0))))))) (by decide) hb64)
  · have hx2 : ¬ (0 ≤ x.toInt ∧ x.toInt ≤ (r : Int) - 1) := by omega
    refine b_X10_rode_0 _ _ (b_X7_has_0 _ ?_)
    rw [hs]
    refine wf hx2 ⟨nar0, br0 ?_⟩ (by decide) (sub1_toInt (by omega))
    exact b_X11_rode_0 _ _ (ni_f hx2 (br0 (fin rfl hI0)) (by decide) hb64)
theorem pr_count (hI : Inv σ) (w : Int32) : Pr l 101 [some (.ref 0), some (.int w)] 172 [some (.ref 13), some (.int w)] σ := by
  have hI0 := hI
  obtain ⟨n, d, t, c, h, r, q, f, y, hpl, hdr, hsh, htp, hmt, has, hct, hrd, hln, hfl, hli⟩ := hI
  have F : ∀ v : Int32, v = v := fun _ => rfl
  by_cases h0 : w = 0
  · exact b_X10_count_0 _ (swt h0 (b_X11_count_0 _ (swt h0 (fin (hpl.2.1.trans hpl.2.2.1.symm) hI0))))
  by_cases h1 : w = 1
  · exact b_X10_count_0 _ (swf h0 (swt h1 (b_X11_count_0 _ (swf h0 (swt h1 (fin (hdr.2.1.trans hdr.2.2.1.symm) hI0))))))
  by_cases h2 : w = 2
  · exact b_X10_count_0 _ (swf h0 (swf h1 (swt h2 (b_X11_count_0 _ (swf h0 (swf h1 (swt h2 (fin (hct.2.1.trans hct.2.2.1.symm) hI0))))))))
  by_cases h3 : w = 3
  · exact b_X10_count_0 _ (swf h0 (swf h1 (swf h2 (swt h3 (b_X11_count_0 _ (swf h0 (swf h1 (swf h2 (swt h3 (fin hct.2.2.2.1 hI0))))))))))
  by_cases h4 : w = 4
  · exact b_X10_count_0 _ (swf h0 (swf h1 (swf h2 (swf h3 (swt h4 (b_X11_count_0 _ (swf h0 (swf h1 (swf h2 (swf h3 (swt h4 (fin hct.2.2.2.2.1 hI0))))))))))))
  by_cases h5 : w = 5
  · exact b_X10_count_0 _ (swf h0 (swf h1 (swf h2 (swf h3 (swf h4 (swt h5 (b_X11_count_0 _ (swf h0 (swf h1 (swf h2 (swf h3 (swf h4 (swt h5 (fin hct.2.2.2.2.2.1 hI0))))))))))))))
  by_cases h6 : w = 6
  · exact b_X10_count_0 _ (swf h0 (swf h1 (swf h2 (swf h3 (swf h4 (swf h5 (swt h6 (b_X11_count_0 _ (swf h0 (swf h1 (swf h2 (swf h3 (swf h4 (swf h5 (swt h6 (fin (hln.2.1.trans hln.2.2.1.symm) hI0))))))))))))))))
  by_cases h7 : w = 7
  · exact b_X10_count_0 _ (swf h0 (swf h1 (swf h2 (swf h3 (swf h4 (swf h5 (swf h6 (swt h7 (b_X11_count_0 _ (swf h0 (swf h1 (swf h2 (swf h3 (swf h4 (swf h5 (swf h6 (swt h7 (fin (hli.2.1.trans hli.2.2.1.symm) hI0))))))))))))))))))
  by_cases h8 : w = 8
  · exact b_X10_count_0 _ (swf h0 (swf h1 (swf h2 (swf h3 (swf h4 (swf h5 (swf h6 (swf h7 (swt h8 (b_X11_count_0 _ (swf h0 (swf h1 (swf h2 (swf h3 (swf h4 (swf h5 (swf h6 (swf h7 (swt h8 (fin (hfl.2.1.trans hfl.2.2.1.symm) hI0))))))))))))))))))))
  by_cases h9 : w = 9
  · exact b_X10_count_0 _ (swf h0 (swf h1 (swf h2 (swf h3 (swf h4 (swf h5 (swf h6 (swf h7 (swf h8 (swt h9 (b_X11_count_0 _ (swf h0 (swf h1 (swf h2 (swf h3 (swf h4 (swf h5 (swf h6 (swf h7 (swf h8 (swt h9 (fin (htp.2.1.trans htp.2.2.1.symm) hI0))))))))))))))))))))))
  by_cases h10 : w = 10
  · exact b_X10_count_0 _ (swf h0 (swf h1 (swf h2 (swf h3 (swf h4 (swf h5 (swf h6 (swf h7 (swf h8 (swf h9 (swt h10 (b_X11_count_0 _ (swf h0 (swf h1 (swf h2 (swf h3 (swf h4 (swf h5 (swf h6 (swf h7 (swf h8 (swf h9 (swt h10 (fin (hrd.2.1.trans hrd.2.2.1.symm) hI0))))))))))))))))))))))))
  · exact b_X10_count_0 _ (swf h0 (swf h1 (swf h2 (swf h3 (swf h4 (swf h5 (swf h6 (swf h7 (swf h8 (swf h9 (swf h10 (b_X11_count_0 _ (swf h0 (swf h1 (swf h2 (swf h3 (swf h4 (swf h5 (swf h6 (swf h7 (swf h8 (swf h9 (swf h10 (fin rfl hI0))))))))))))))))))))))))
end OpsB
end
section
/-! the line at the airport: join, call, leave -/
theorem us_uc (σ : ax_Sg) (k i : Nat) (g : Nat → Int32) (v : Int32) : ax_us (ax_uc σ k g) k i v = ax_uc σ k (upd g i v) := by
  funext k'
  by_cases h : k' = k
  · subst h; rw [us_s, uc_s, uc_s]
  · rw [us_n _ _ _ h, uc_n _ _ h, uc_n _ _ h]
theorem uc_id (σ : ax_Sg) (k : Nat) : ax_uc σ k (σ k) = σ := by
  funext k'
  by_cases h : k' = k
  · subst h; rw [uc_s]
  · rw [uc_n _ _ h]
theorem uc_uc (σ : ax_Sg) (k : Nat) (f g : Nat → Int32) : ax_uc (ax_uc σ k f) k g = ax_uc σ k g := by
  funext k'
  by_cases h : k' = k
  · subst h; rw [uc_s, uc_s]
  · rw [uc_n _ _ h, uc_n _ _ h, uc_n _ _ h]
theorem us_comm (σ : ax_Sg) {k k' : Nat} (h : k ≠ k') (g : Nat → Int32) (i : Nat) (v : Int32) : ax_uc (ax_us σ k' i v) k g = ax_us (ax_uc σ k g) k' i v := by
  funext j
  by_cases h1 : j = k
  · subst h1; rw [uc_s, us_n _ _ _ h, uc_s]
  · rw [uc_n _ _ h1]
    by_cases h2 : j = k'
    · subst h2; rw [us_s, us_s, uc_n _ _ h1]
    · rw [us_n _ _ _ h2, us_n _ _ _ h2, uc_n _ _ h1]
/-- pigeons -/
theorem php : ∀ (n y : Nat) (f : Nat → Nat), (∀ i, i < y → f i < n) → (∀ i j, i < y → j < y → f i = f j → i = j) → y ≤ n
  | 0, y, f, h, _ => by
    rcases Nat.eq_zero_or_pos y with h0 | h0
    · omega
    · exact absurd (h 0 h0) (by omega)
  | n + 1, y, f, h, hi => by
    rcases Nat.eq_zero_or_pos y with h0 | h0
    · omega
    · by_cases hx : ∃ i0, i0 < y ∧ f i0 = n
      · obtain ⟨i0, hi0, hf0⟩ := hx
        have := php n (y - 1) (fun i => if i = i0 then f (y - 1) else f i) (fun i hlt => by
          by_cases e : i = i0
          · simp only [if_pos e]
            have h1 := h (y - 1) (by omega)
            have h2 : f (y - 1) ≠ n := fun e2 => by
              have := hi (y - 1) i0 (by omega) hi0 (by rw [e2, hf0])
              omega
            omega
          · simp only [if_neg e]
            have h1 := h i (by omega)
            have h2 : f i ≠ n := fun e2 => e (hi i i0 (by omega) hi0 (by rw [e2, hf0]))
            omega) (fun i j hI hJ e => by
          by_cases e1 : i = i0
          · by_cases e2 : j = i0
            · omega
            · simp only [if_pos e1, if_neg e2] at e
              have := hi (y - 1) j (by omega) (by omega) e
              omega
          · by_cases e2 : j = i0
            · simp only [if_neg e1, if_pos e2] at e
              have := hi i (y - 1) (by omega) (by omega) e
              omega
            · simp only [if_neg e1, if_neg e2] at e
              exact hi i j (by omega) (by omega) e)
        omega
      · have := php n y f (fun i hlt => by
          have h1 := h i hlt
          have h2 : f i ≠ n := fun e => hx ⟨i, hlt, e⟩
          omega) hi
        omega
/-- the row without the place i -/
def rmv (i y : Nat) (a : Nat → Int32) : Nat → Int32 := fun j => if i ≤ j ∧ j + 1 < y then a (j + 1) else a j
section Line
variable {l : Launch} {σ : ax_Sg} {P : Option Value → ax_Sg → Prop}
theorem c_placeOf {y : Nat} (hy : y ≤ 12) (hs : σ 11 1 = nI y) (x : Int32) (hF : ∀ i, i < y → σ 54 i = x → (∀ j, j < i → ¬ σ 54 j = x) → P (some (.int (nI i))) σ) (hN : (∀ j, j < y → ¬ σ 54 j = x) → P (some (.int (-1))) σ) : Ev l 25 0 [some (.ref 11), some (.int x), none] [] σ P := by
  have loop : ∀ m k, y - k = m → k ≤ y → (∀ j, j < k → ¬ σ 54 j = x) → Ev l 25 2 [some (.ref 11), some (.int x), some (.int (nI k))] [] σ P := by
    intro m
    induction m with
    | zero =>
      intro k hk hky hpre
      have : k = y := by omega
      subst this
      refine b_X3_placeOf_2 x _ (br_f' ?_ (hN hpre))
      rw [hs]; exact nI_nlt (Nat.le_refl _) (by omega)
    | succ m ih =>
      intro k hk hky hpre
      refine b_X3_placeOf_2 x _ (br_t' ?_ ⟨in_nI (by omega) (by decide), ?_⟩)
      · rw [hs]; exact nI_lt (by omega) (by omega)
      · rw [cl_nI (by omega), nI_1]
        exact br_i (fun e => hF k (by omega) e hpre) (fun e => ih (k + 1) (by omega) (by omega) (fun j hj => by
          by_cases e2 : j = k
          · subst e2; exact e
          · exact hpre j (by omega)))
  exact b_X3_placeOf_0 x (loop y 0 (by omega) (by omega) (fun j hj => absurd hj (by omega)))
theorem m_placeOf {y : Nat} (hy : y ≤ 12) (hs : σ 13 51 = nI y) (x : Int32) (hF : ∀ i, i < y → σ 92 i = x → (∀ j, j < i → ¬ σ 92 j = x) → P (some (.int (nI i))) σ) (hN : (∀ j, j < y → ¬ σ 92 j = x) → P (some (.int (-1))) σ) : Ev l 167 0 [some (.ref 13), some (.int x), none] [] σ P := by
  have loop : ∀ m k, y - k = m → k ≤ y → (∀ j, j < k → ¬ σ 92 j = x) → Ev l 167 2 [some (.ref 13), some (.int x), some (.int (nI k))] [] σ P := by
    intro m
    induction m with
    | zero =>
      intro k hk hky hpre
      have : k = y := by omega
      subst this
      refine b_X11_placeOf_2 x _ (br_f' ?_ (hN hpre))
      rw [hs]; exact nI_nlt (Nat.le_refl _) (by omega)
    | succ m ih =>
      intro k hk hky hpre
      refine b_X11_placeOf_2 x _ (br_t' ?_ ⟨in_nI (by omega) (by decide), ?_⟩)
      · rw [hs]; exact nI_lt (by omega) (by omega)
      · rw [cl_nI (by omega), nI_1]
        exact br_i (fun e => hF k (by omega) e hpre) (fun e => ih (k + 1) (by omega) (by omega) (fun j hj => by
          by_cases e2 : j = k
          · subst e2; exact e
          · exact hpre j (by omega)))
  exact b_X11_placeOf_0 x (loop y 0 (by omega) (by omega) (fun j hj => absurd hj (by omega)))
theorem c_removeAt {y i : Nat} (hy : y ≤ 12) (hs : σ 11 1 = nI y) (hi : i < y) (h : P none (ax_us (ax_uc σ 54 (rmv i y (σ 54))) 11 1 (nI (y - 1)))) : Ev l 27 0 [some (.ref 11), some (.int (nI i)), none] [] σ P := by
  have loop : ∀ m k, y - k = m → k ≤ y → i + 1 ≤ k → Ev l 27 4 [some (.ref 11), none, some (.int (nI k))] [] (ax_uc σ 54 (rmv i k (σ 54))) P := by
    intro m
    induction m with
    | zero =>
      intro k hk hky hik
      have : k = y := by omega
      subst this
      have hs' : (ax_uc σ 54 (rmv i k (σ 54))) 11 1 = nI k := hs
      refine b_X3_removeAt_4 _ (br_f' ?_ ?_)
      · rw [hs']; exact nI_nlt (Nat.le_refl _) (by omega)
      · rw [hs', show (1 : Int32) = nI 1 from rfl, pk_sub (by omega)]
        exact h
    | succ m ih =>
      intro k hk hky hik
      have hs' : (ax_uc σ 54 (rmv i k (σ 54))) 11 1 = nI y := hs
      refine b_X3_removeAt_4 _ (br_t' ?_ ?_)
      · rw [hs']; exact nI_lt (by omega) (by omega)
      · rw [show (1 : Int32) = nI 1 from rfl, pk_sub (by omega), cl_nI (by omega), cl_nI (by omega), nI_add]
        refine ⟨in_nI (by omega) (by decide), in_nI (by omega) (by decide), ?_⟩
        have e : ax_us (ax_uc σ 54 (rmv i k (σ 54))) 54 (k - 1) ((ax_uc σ 54 (rmv i k (σ 54))) 54 k) = ax_uc σ 54 (rmv i (k + 1) (σ 54)) := by
          rw [us_uc, uc_s]
          congr 1
          funext j
          by_cases hj : j = k - 1
          · subst hj
            rw [upd_s]
            unfold rmv
            rw [if_neg (by omega), if_pos (by omega)]
            congr 1; omega
          · rw [upd_n _ _ hj]
            unfold rmv
            by_cases hc : i ≤ j ∧ j + 1 < k
            · rw [if_pos hc, if_pos (by omega)]
            · rw [if_neg hc, if_neg (by omega)]
        rw [e]
        exact ih (k + 1) (by omega) (by omega) (by omega)
  refine b_X3_removeAt_0 _ ?_
  rw [nI_1]
  have e0 : ax_uc σ 54 (rmv i (i + 1) (σ 54)) = σ := by
    have : rmv i (i + 1) (σ 54) = σ 54 := by
      funext j
      unfold rmv
      rw [if_neg (by omega)]
    rw [this, uc_id]
  have := loop (y - (i + 1)) (i + 1) rfl (by omega) (Nat.le_refl _)
  rw [e0] at this
  exact this
theorem m_goesFrom {y i : Nat} (hy : y ≤ 12) (hs : σ 13 51 = nI y) (hi : i < y) (h : P none (ax_us (ax_uc σ 92 (rmv i y (σ 92))) 13 51 (nI (y - 1)))) : Ev l 168 0 [some (.ref 13), some (.int (nI i)), none] [] σ P := by
  have loop : ∀ m k, y - 1 - k = m → k ≤ y - 1 → i ≤ k → Ev l 168 12 [some (.ref 13), none, some (.int (nI k))] [] (ax_us (ax_uc σ 92 (rmv i (k + 1) (σ 92))) 13 51 (nI (y - 1))) P := by
    intro m
    induction m with
    | zero =>
      intro k hk hky hik
      have : k = y - 1 := by omega
      subst this
      refine b_X11_goesFrom_12 _ (br_f' ?_ ?_)
      · show ¬ nI (y - 1) < nI (y - 1); exact nI_nlt (Nat.le_refl _) (by omega)
      · rw [show y - 1 + 1 = y by omega]; exact h
    | succ m ih =>
      intro k hk hky hik
      refine b_X11_goesFrom_12 _ (br_t' ?_ ?_)
      · show nI k < nI (y - 1); exact nI_lt (by omega) (by omega)
      · rw [nI_1, cl_nI (by omega), cl_nI (by omega)]
        refine ⟨in_nI (by omega) (by decide), in_nI (by omega) (by decide), ?_⟩
        have e : ax_us (ax_us (ax_uc σ 92 (rmv i (k + 1) (σ 92))) 13 51 (nI (y - 1))) 92 k ((ax_us (ax_uc σ 92 (rmv i (k + 1) (σ 92))) 13 51 (nI (y - 1))) 92 (k + 1)) = ax_us (ax_uc σ 92 (rmv i (k + 1 + 1) (σ 92))) 13 51 (nI (y - 1)) := by
          rw [ax_us_uc, us_comm _ (by decide), uc_uc, us_n _ _ _ (by decide), uc_s]
          congr 2
          funext j
          by_cases hj : j = k
          · subst hj
            rw [upd_s]
            unfold rmv
            rw [if_neg (by omega), if_pos (by omega)]
          · rw [upd_n _ _ hj]
            unfold rmv
            by_cases hc : i ≤ j ∧ j + 1 < k + 1
            · rw [if_pos hc, if_pos (by omega)]
            · rw [if_neg hc, if_neg (by omega)]
        rw [e]
        exact ih (k + 1) (by omega) (by omega) (by omega)
  refine b_X11_goesFrom_0 _ ?_
  have e0 : ax_uc σ 92 (rmv i (i + 1) (σ 92)) = σ := by
    have : rmv i (i + 1) (σ 92) = σ 92 := by
      funext j
      unfold rmv
      rw [if_neg (by omega)]
    rw [this, uc_id]
  have := loop (y - 1 - i) i rfl (by omega) (Nat.le_refl _)
  rw [e0] at this
  rw [hs, show (1 : Int32) = nI 1 from rfl, pk_sub (by omega)]
  exact this
/-- the line less one place -/
theorem li_rmv {n y i : Nat} (hli : iv_li n y σ) (hi : i < y) (σ' : ax_Sg) (h1 : σ' 11 1 = nI (y - 1)) (h2 : σ' 13 51 = nI (y - 1)) (h3 : σ' 54 = rmv i y (σ 54)) (h4 : σ' 92 = rmv i y (σ 92)) : iv_li n (y - 1) σ' := by
  obtain ⟨g1, g2, g3, g4, g5⟩ := hli
  refine ⟨by omega, h1, h2, fun j hj => ?_, fun a b ha hb e => ?_⟩
  · rw [h3, h4]
    unfold rmv
    by_cases hc : i ≤ j ∧ j + 1 < y
    · rw [if_pos hc, if_pos hc]; exact g4 _ (by omega)
    · rw [if_neg hc, if_neg hc]; exact g4 _ (by omega)
  · rw [h3] at e
    unfold rmv at e
    by_cases ca : i ≤ a ∧ a + 1 < y
    · rw [if_pos ca] at e
      by_cases cb : i ≤ b ∧ b + 1 < y
      · rw [if_pos cb] at e
        have := g5 _ _ (by omega) (by omega) e
        omega
      · rw [if_neg cb] at e
        have := g5 _ _ (by omega) (by omega) e
        omega
    · rw [if_neg ca] at e
      by_cases cb : i ≤ b ∧ b + 1 < y
      · rw [if_pos cb] at e
        have := g5 _ _ (by omega) (by omega) e
        omega
      · rw [if_neg cb] at e
        exact g5 _ _ (by omega) (by omega) e
theorem pr_join (hI : Inv σ) (x : Int32) : Pr l 98 [some (.ref 0), some (.int x)] 169 [some (.ref 13), some (.int x)] σ := by
  have hI0 := hI
  obtain ⟨n, d, t, c, h, r, q, f, y, hpl, hdr, hsh, htp, hmt, has, hct, hrd, hln, hfl, hli⟩ := hI
  have hpl0 := hpl
  obtain ⟨hn, hs, hm, hp⟩ := hpl
  obtain ⟨hy, hys, hym, hyp, hyi⟩ := hli
  rcases nI_case x n (by omega) with ⟨p, hpn, rfl⟩ | hx
  · refine b_X10_join_0 _ (pl_t hn hs hpn (br1 (c_placeOf hy hys _ (fun i hi hie hpre => ?_) (fun hnone => ?_))))
    · refine br_f' (fun e => nI_pos (n := i) (by omega) (by rw [e]; decide)) ?_
      refine b_X11_join_0 _ (mpl_t hn hm hpn (br1 (m_placeOf hy hym _ (fun j hj hje hpre' => ?_) (fun hn' => absurd (by rw [← (hyp i hi).1]; exact hie) (hn' i hi)))))
      exact br_f' (nI_pos (by omega)) (fin rfl hI0)
    · have hyn : y + 1 ≤ n := by
        refine php n (y + 1) (fun i => if i = y then p else (σ 54 i).toNatClampNeg) (fun i hi => ?_) (fun i j hi hj e => ?_)
        · by_cases e : i = y
          · simp only [if_pos e]; exact hpn
          · simp only [if_neg e]
            obtain ⟨-, p', hp', e'⟩ := hyp i (by omega)
            rw [e', cl_nI (by omega)]; exact hp'
        · by_cases e1 : i = y
          · by_cases e2 : j = y
            · omega
            · simp only [if_pos e1, if_neg e2] at e
              obtain ⟨-, p', hp', e'⟩ := hyp j (by omega)
              rw [e', cl_nI (by omega)] at e
              exact absurd (by rw [e', e]) (hnone j (by omega))
          · by_cases e2 : j = y
            · simp only [if_neg e1, if_pos e2] at e
              obtain ⟨-, p', hp', e'⟩ := hyp i (by omega)
              rw [e', cl_nI (by omega)] at e
              exact absurd (by rw [e', e]) (hnone i (by omega))
            · simp only [if_neg e1, if_neg e2] at e
              obtain ⟨-, p', hp', e'⟩ := hyp i (by omega)
              obtain ⟨-, p2, hp2, e2'⟩ := hyp j (by omega)
              rw [e', e2', cl_nI (by omega), cl_nI (by omega)] at e
              exact hyi i j (by omega) (by omega) (by rw [e', e2', e])
      refine br_t' rfl (b_X3_append_0 _ ?_)
      rw [hys, cl_nI (by omega)]
      refine ⟨in_nI (by omega) (by decide), ?_⟩
      have hym1 : (ax_us (ax_us σ 54 y (nI p)) 11 1 (nI y + 1)) 13 51 = nI y := hym
      refine b_X11_join_0 _ (mpl_t (n := n) hn hm hpn (br1 (m_placeOf hy hym1 _ (fun j hj hje hpre' => absurd (by rw [(hyp j hj).1]; exact hje) (hnone j hj)) (fun hn' => br_t' (by decide) ?_))))
      rw [hym1, cl_nI (by omega)]
      refine ⟨in_nI (by omega) (by decide), fin rfl ?_⟩
      refine ⟨n, d, t, c, h, r, q, f, y + 1, hpl0.fr, hdr.fr, hsh.fr, htp.fr, hmt.fr, has.fr, hct.fr, hrd.fr, hln.fr, hfl.fr, ⟨by omega, nI_1 y, nI_1 y, fun i hi => ?_, fun i j hi hj e => ?_⟩⟩
      · show upd (σ 54) y (nI p) i = upd (σ 92) y (nI p) i ∧ ∃ p', p' < n ∧ upd (σ 54) y (nI p) i = nI p'
        by_cases e : i = y
        · subst e; simp only [upd_s]; exact ⟨trivial, p, hpn, rfl⟩
        · simp only [upd_n _ _ e]; exact hyp i (by omega)
      · have e : upd (σ 54) y (nI p) i = upd (σ 54) y (nI p) j := e
        by_cases e1 : i = y
        · by_cases e2 : j = y
          · omega
          · rw [e1, upd_s, upd_n _ _ e2] at e
            exact absurd e.symm (hnone j (by omega))
        · by_cases e2 : j = y
          · rw [e2, upd_s, upd_n _ _ e1] at e
            exact absurd e (hnone i (by omega))
          · rw [upd_n _ _ e1, upd_n _ _ e2] at e
            exact hyi i j (by omega) (by omega) e
  · refine b_X10_join_0 _ (pl_f hn hs hx (br0 ?_))
    exact b_X11_join_0 _ (mpl_f hn hm hx (br0 (fin rfl hI0)))
theorem pr_leave (hI : Inv σ) (x : Int32) : Pr l 100 [some (.ref 0), some (.int x), none] 171 [some (.ref 13), some (.int x), none] σ := by
  have hI0 := hI
  obtain ⟨n, d, t, c, h, r, q, f, y, hpl, hdr, hsh, htp, hmt, has, hct, hrd, hln, hfl, hli⟩ := hI
  have hpl0 := hpl
  have hli0 := hli
  obtain ⟨hn, hs, hm, hp⟩ := hpl
  obtain ⟨hy, hys, hym, hyp, hyi⟩ := hli
  rcases nI_case x n (by omega) with ⟨p, hpn, rfl⟩ | hx
  · refine b_X10_leave_0 _ (pl_t hn hs hpn (br1 (c_placeOf hy hys _ (fun i hi hie hpre => ?_) (fun hnone => ?_))))
    · refine br_f' (fun e => nI_pos (n := i) (by omega) (by rw [e]; decide)) (c_removeAt hy hys hi ?_)
      have hym1 : (ax_us (ax_uc σ 54 (rmv i y (σ 54))) 11 1 (nI (y - 1))) 13 51 = nI y := hym
      refine b_X11_leave_0 _ (mpl_t (n := n) hn hm hpn (br1 (m_placeOf hy hym1 _ (fun j hj hje hpre' => ?_) (fun hn' => absurd (by show σ 92 i = _; rw [← (hyp i hi).1]; exact hie) (hn' i hi)))))
      have hij : i = j := hyi i j hi hj (by rw [hie, (hyp j hj).1]; exact hje.symm)
      subst hij
      refine br_f' (nI_pos (by omega)) (m_goesFrom hy hym1 hi ?_)
      refine fin rfl ?_
      exact ⟨n, d, t, c, h, r, q, f, y - 1, hpl0.fr, hdr.fr, hsh.fr, htp.fr, hmt.fr, has.fr, hct.fr, hrd.fr, hln.fr, hfl.fr, li_rmv hli0 hi _ rfl rfl rfl rfl⟩
    · refine br_t' rfl ?_
      refine b_X11_leave_0 _ (mpl_t (n := n) hn hm hpn (br1 (m_placeOf hy hym _ (fun j hj hje hpre' => absurd (by rw [(hyp j hj).1]; exact hje) (hnone j hj)) (fun hn' => br_t' (by decide) (fin rfl hI0)))))
  · refine b_X10_leave_0 _ (pl_f hn hs hx (br0 ?_))
    exact b_X11_leave_0 _ (mpl_f hn hm hx (br0 (fin rfl hI0)))
theorem pr_call (hI : Inv σ) (w : Int32) : Pr l 99 [some (.ref 0), some (.int w), none, none] 170 [some (.ref 13), some (.int w), none, none] σ := by
  have hI0 := hI
  obtain ⟨n, d, t, c, h, r, q, f, y, hpl, hdr, hsh, htp, hmt, has, hct, hrd, hln, hfl, hli⟩ := hI
  have hpl0 := hpl
  have hli0 := hli
  obtain ⟨hn, hs, hm, hp⟩ := hpl
  obtain ⟨hy, hys, hym, hyp, hyi⟩ := hli
  by_cases hw : 0 ≤ w.toInt ∧ w.toInt ≤ 1
  · have hw01 : w = 0 ∨ w = 1 := by
      have h0 : (0 : Int32).toInt = 0 := by decide
      have h1 : (1 : Int32).toInt = 1 := by decide
      rcases (show w.toInt = 0 ∨ w.toInt = 1 by omega) with e | e
      · exact Or.inl (eq_toInt.mpr (by rw [e, h0]))
      · exact Or.inr (eq_toInt.mpr (by rw [e, h1]))
    have gone : ∀ k, k < y → Inv (ax_us (ax_uc (ax_us (ax_uc σ 54 (rmv k y (σ 54))) 11 1 (nI (y - 1))) 92 (rmv k y (σ 92))) 13 51 (nI (y - 1))) := fun k hk =>
      ⟨n, d, t, c, h, r, q, f, y - 1, hpl0.fr, hdr.fr, hsh.fr, htp.fr, hmt.fr, has.fr, hct.fr, hrd.fr, hln.fr, hfl.fr, li_rmv hli0 hk _ rfl rfl rfl rfl⟩
    -- the reference's search, in the world behind the class's removal (or in σ)
    have mloop : ∀ (σ1 : ax_Sg) (K : Nat) (Q : Option Value → ax_Sg → Prop), σ1 13 51 = nI y → σ1 92 = σ 92 → σ1 58 = σ 58 → K ≤ y → (∀ j, j < K → ¬ (w = 0 ∨ σ 58 (σ 92 j).toNatClampNeg = 2)) → (K < y → (w = 0 ∨ σ 58 (σ 92 K).toNatClampNeg = 2) ∧ Q (some (.int (σ 92 K))) (ax_us (ax_uc σ1 92 (rmv K y (σ 92))) 13 51 (nI (y - 1)))) → (K = y → Q (some (.int (-1))) σ1) → ∀ m k, K - k = m → k ≤ K → Ev l 170 15 [some (.ref 13), some (.int w), some (.int (nI k)), none] [] σ1 Q := by
      intro σ1 K Q e51 e92 e58 hK hpre hhit hend m
      induction m with
      | zero =>
        intro k hk hkK
        have : k = K := by omega
        subst this
        by_cases hky : k < y
        · obtain ⟨hw2, hQ⟩ := hhit hky
          refine b_X11_call_15 _ _ (br_t' (by rw [e51]; exact nI_lt hky (by omega)) ⟨in_nI (by omega) (by decide), ?_⟩)
          rw [cl_nI (by omega), e92, e58]
          have hgo : Ev l 168 0 [some (.ref 13), some (.int (nI k)), none] [] σ1 (fun o1 σ2 => ax_ov o1 (Q (some (.int (σ 92 k))) σ2)) := by
            refine m_goesFrom hy e51 hky ?_
            rw [e92]
            exact hQ
          refine br_i (fun e1 => ?_) (fun _ => hgo)
          obtain ⟨a1, p', hp', e'⟩ := hyp k hky
          refine ⟨by rw [← a1, e']; exact in_nI (by omega) (by decide), br_t' ?_ hgo⟩
          rcases hw2 with h0 | h2
          · rw [h0] at e1; exact absurd e1 (by decide)
          · exact h2
        · have hky2 : k = y := by omega
          exact b_X11_call_15 _ _ (br_f' (by rw [e51, hky2]; exact nI_nlt (Nat.le_refl _) (by omega)) (hend hky2))
      | succ m ih =>
        intro k hk hkK
        have hno := hpre k (by omega)
        refine b_X11_call_15 _ _ (br_t' (by rw [e51]; exact nI_lt (by omega) (by omega)) ⟨in_nI (by omega) (by decide), ?_⟩)
        rw [cl_nI (by omega), e92, e58, nI_1]
        obtain ⟨a1, p', hp', e'⟩ := hyp k (by omega)
        refine br_t' (hw01.resolve_left (fun e => hno (Or.inl e))) ⟨by rw [← a1, e']; exact in_nI (by omega) (by decide), br_f' (fun e => hno (Or.inr e)) (ih (k + 1) (by omega) (by omega))⟩
    have cloop : ∀ m k, y - k = m → k ≤ y → (∀ j, j < k → ¬ (w = 0 ∨ σ 58 (σ 92 j).toNatClampNeg = 2)) → Ev l 99 14 [some (.ref 0), some (.int w), some (.int (nI k)), none] [] σ (fun o σ1 => ax_oi o fun v => Ev l 170 0 [some (.ref 13), some (.int w), none, none] [] σ1 (fun o2 σ2 => ax_oi o2 fun w' => v = w' ∧ Inv σ2)) := by
      intro m
      induction m with
      | zero =>
        intro k hk hky hpre
        have : k = y := by omega
        subst this
        refine b_X10_call_14 _ _ (br_f' (by rw [hys]; exact nI_nlt (Nat.le_refl _) (by omega)) ?_)
        refine b_X11_call_0 _ (ni_t hw (br1 (mloop σ k _ hym rfl rfl (Nat.le_refl _) hpre (fun hlt => absurd hlt (by omega)) (fun _ => fin rfl hI0) k 0 (by omega) (by omega))))
      | succ m ih =>
        intro k hk hky hpre
        have hky : k < y := by omega
        obtain ⟨a1, p', hp', e'⟩ := hyp k hky
        have hpk : (σ 54 k).toNatClampNeg = p' := by rw [e', cl_nI (by omega)]
        have h14 : σ 14 p' = σ 58 p' := (hp p' hp').1
        have hgo : (w = 0 ∨ σ 58 (σ 92 k).toNatClampNeg = 2) → Ev l 27 0 [some (.ref 11), some (.int (nI k)), none] [] σ (fun o1 σ2 => ax_ov o1 ((fun o σ1 => ax_oi o fun v => Ev l 170 0 [some (.ref 13), some (.int w), none, none] [] σ1 (fun o2 σ2 => ax_oi o2 fun w' => v = w' ∧ Inv σ2)) (some (.int (σ 54 k))) σ2)) := by
          intro hhit
          refine c_removeAt hy hys hky ?_
          refine b_X11_call_0 _ (ni_t hw (br1 (mloop (ax_us (ax_uc σ 54 (rmv k y (σ 54))) 11 1 (nI (y - 1))) k _ hym rfl rfl (by omega) hpre (fun _ => ⟨hhit, fin a1 (gone k hky)⟩) (fun e => absurd e (by omega)) k 0 (by omega) (by omega))))
        refine b_X10_call_14 _ _ (br_t' (by rw [hys]; exact nI_lt hky (by omega)) ⟨in_nI (by omega) (by decide), ?_⟩)
        rw [cl_nI (by omega), hpk, nI_1]
        refine br_i (fun e0 => hgo (Or.inl e0)) (fun e0 => ⟨by rw [e']; exact in_nI (by omega) (by decide), br_i (fun e2 => hgo (Or.inr (by rw [← a1, hpk, ← h14]; exact e2))) (fun e2 => ih (k + 1) (by omega) (by omega) (fun j hj => ?_))⟩)
        by_cases ej : j = k
        · subst ej
          rintro (z | z)
          · exact e0 z
          · exact e2 (by rw [h14, ← hpk, a1]; exact z)
        · exact hpre j (by omega)
    exact b_X10_call_0 _ (wt hw (br1 (cloop y 0 (by omega) (by omega) (fun j hj => absurd hj (by omega)))))
  · refine b_X10_call_0 _ (wf hw (br0 ?_))
    exact b_X11_call_0 _ (ni_f hw (br0 (fin rfl hI0)))
end Line
end
