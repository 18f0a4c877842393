-- ===== PART A: goes FIRST, ahead of the names: the tables' words, and 'selects' of the private methods out of them =====
/-- a private method of a class that the tables say can be made, by its rows of tables_1 -/
def lw_okq (q : MethodName × Nat) : Prop := (q.1.cls ≠ "java/lang/invoke/MethodHandle" ∧ q.1.cls ≠ "java/lang/invoke/VarHandle") ∧ Cond.instantiable q.1.cls q.2 ∈ tables_1 ∧ Cond.privateMethod q.1 ∈ tables_1 ∧ Cond.instanceMethod q.1 ∈ tables_1
theorem lw_p0 : lw_okq (⟨"WindLawyer", "refuse", "(I)I"⟩, 15) := ⟨⟨by decide +kernel, by decide +kernel⟩, List.mem_of_getElem? (i := 22) (by decide +kernel), List.mem_of_getElem? (i := 339) (by decide +kernel), List.mem_of_getElem? (i := 340) (by decide +kernel)⟩
theorem lw_p1 : lw_okq (⟨"WindLawyer$Reader", "goOn", "()V"⟩, 7) := ⟨⟨by decide +kernel, by decide +kernel⟩, List.mem_of_getElem? (i := 152) (by decide +kernel), List.mem_of_getElem? (i := 405) (by decide +kernel), List.mem_of_getElem? (i := 406) (by decide +kernel)⟩
theorem lw_p2 : lw_okq (⟨"WindLawyer$Reader", "runEnd", "(III)I"⟩, 7) := ⟨⟨by decide +kernel, by decide +kernel⟩, List.mem_of_getElem? (i := 152) (by decide +kernel), List.mem_of_getElem? (i := 409) (by decide +kernel), List.mem_of_getElem? (i := 410) (by decide +kernel)⟩
theorem lw_p3 : lw_okq (⟨"WindLawyer$Reader", "isWord", "(Ljava/lang/String;)Z"⟩, 7) := ⟨⟨by decide +kernel, by decide +kernel⟩, List.mem_of_getElem? (i := 152) (by decide +kernel), List.mem_of_getElem? (i := 419) (by decide +kernel), List.mem_of_getElem? (i := 420) (by decide +kernel)⟩
theorem lw_p4 : lw_okq (⟨"WindLawyer$Reader", "stops", "()Z"⟩, 7) := ⟨⟨by decide +kernel, by decide +kernel⟩, List.mem_of_getElem? (i := 152) (by decide +kernel), List.mem_of_getElem? (i := 471) (by decide +kernel), List.mem_of_getElem? (i := 472) (by decide +kernel)⟩
theorem lw_p5 : lw_okq (⟨"WindLawyer$Reader", "readWinds", "()Z"⟩, 7) := ⟨⟨by decide +kernel, by decide +kernel⟩, List.mem_of_getElem? (i := 152) (by decide +kernel), List.mem_of_getElem? (i := 476) (by decide +kernel), List.mem_of_getElem? (i := 477) (by decide +kernel)⟩
theorem lw_p6 : lw_okq (⟨"WindLawyer$Reader", "isNumber", "(II)Z"⟩, 7) := ⟨⟨by decide +kernel, by decide +kernel⟩, List.mem_of_getElem? (i := 152) (by decide +kernel), List.mem_of_getElem? (i := 480) (by decide +kernel), List.mem_of_getElem? (i := 481) (by decide +kernel)⟩
theorem lw_p7 : lw_okq (⟨"WindLawyer$Reader", "goesOnWith", "(II)Z"⟩, 7) := ⟨⟨by decide +kernel, by decide +kernel⟩, List.mem_of_getElem? (i := 152) (by decide +kernel), List.mem_of_getElem? (i := 484) (by decide +kernel), List.mem_of_getElem? (i := 485) (by decide +kernel)⟩
theorem lw_p8 : lw_okq (⟨"WindLawyer$Reader", "readUser", "()Z"⟩, 7) := ⟨⟨by decide +kernel, by decide +kernel⟩, List.mem_of_getElem? (i := 152) (by decide +kernel), List.mem_of_getElem? (i := 490) (by decide +kernel), List.mem_of_getElem? (i := 491) (by decide +kernel)⟩
theorem lw_p9 : lw_okq (⟨"WindLawyer$Reader", "readSuit", "()Z"⟩, 7) := ⟨⟨by decide +kernel, by decide +kernel⟩, List.mem_of_getElem? (i := 152) (by decide +kernel), List.mem_of_getElem? (i := 497) (by decide +kernel), List.mem_of_getElem? (i := 498) (by decide +kernel)⟩
theorem lw_p10 : lw_okq (⟨"WindLawyer$Reader", "readHours", "()Z"⟩, 7) := ⟨⟨by decide +kernel, by decide +kernel⟩, List.mem_of_getElem? (i := 152) (by decide +kernel), List.mem_of_getElem? (i := 506) (by decide +kernel), List.mem_of_getElem? (i := 507) (by decide +kernel)⟩
theorem lw_p11 : lw_okq (⟨"WindLawyer", "isUser", "(I)Z"⟩, 15) := ⟨⟨by decide +kernel, by decide +kernel⟩, List.mem_of_getElem? (i := 22) (by decide +kernel), List.mem_of_getElem? (i := 584) (by decide +kernel), List.mem_of_getElem? (i := 585) (by decide +kernel)⟩
theorem lw_p12 : lw_okq (⟨"WindLawyer", "isSuit", "(I)Z"⟩, 15) := ⟨⟨by decide +kernel, by decide +kernel⟩, List.mem_of_getElem? (i := 22) (by decide +kernel), List.mem_of_getElem? (i := 593) (by decide +kernel), List.mem_of_getElem? (i := 594) (by decide +kernel)⟩
theorem lw_p13 : lw_okq (⟨"WindLawyer$Forecast", "takenInDay", "(LWindLawyer$Island;LWindLawyer$Table;II)I"⟩, 5) := ⟨⟨by decide +kernel, by decide +kernel⟩, List.mem_of_getElem? (i := 183) (by decide +kernel), List.mem_of_getElem? (i := 677) (by decide +kernel), List.mem_of_getElem? (i := 678) (by decide +kernel)⟩
theorem lw_p14 : lw_okq (⟨"WindLawyer$Session", "wonInOrder", "(LWindLawyer$Island;)I"⟩, 4) := ⟨⟨by decide +kernel, by decide +kernel⟩, List.mem_of_getElem? (i := 209) (by decide +kernel), List.mem_of_getElem? (i := 735) (by decide +kernel), List.mem_of_getElem? (i := 736) (by decide +kernel)⟩
theorem lw_p15 : lw_okq (⟨"WindLawyer$Session", "goToNextOrder", "()Z"⟩, 4) := ⟨⟨by decide +kernel, by decide +kernel⟩, List.mem_of_getElem? (i := 209) (by decide +kernel), List.mem_of_getElem? (i := 743) (by decide +kernel), List.mem_of_getElem? (i := 744) (by decide +kernel)⟩
def lw_privs_1 : List (MethodName × Nat) := [(⟨"WindLawyer", "refuse", "(I)I"⟩, 15), (⟨"WindLawyer$Reader", "goOn", "()V"⟩, 7), (⟨"WindLawyer$Reader", "runEnd", "(III)I"⟩, 7), (⟨"WindLawyer$Reader", "isWord", "(Ljava/lang/String;)Z"⟩, 7), (⟨"WindLawyer$Reader", "stops", "()Z"⟩, 7), (⟨"WindLawyer$Reader", "readWinds", "()Z"⟩, 7), (⟨"WindLawyer$Reader", "isNumber", "(II)Z"⟩, 7), (⟨"WindLawyer$Reader", "goesOnWith", "(II)Z"⟩, 7), (⟨"WindLawyer$Reader", "readUser", "()Z"⟩, 7), (⟨"WindLawyer$Reader", "readSuit", "()Z"⟩, 7), (⟨"WindLawyer$Reader", "readHours", "()Z"⟩, 7), (⟨"WindLawyer", "isUser", "(I)Z"⟩, 15), (⟨"WindLawyer", "isSuit", "(I)Z"⟩, 15), (⟨"WindLawyer$Forecast", "takenInDay", "(LWindLawyer$Island;LWindLawyer$Table;II)I"⟩, 5), (⟨"WindLawyer$Session", "wonInOrder", "(LWindLawyer$Island;)I"⟩, 4), (⟨"WindLawyer$Session", "goToNextOrder", "()Z"⟩, 4)]
theorem lw_r1 : ∀ q ∈ lw_privs_1, lw_okq q := List.forall_mem_cons.mpr ⟨lw_p0, List.forall_mem_cons.mpr ⟨lw_p1, List.forall_mem_cons.mpr ⟨lw_p2, List.forall_mem_cons.mpr ⟨lw_p3, List.forall_mem_cons.mpr ⟨lw_p4, List.forall_mem_cons.mpr ⟨lw_p5, List.forall_mem_cons.mpr ⟨lw_p6, List.forall_mem_cons.mpr ⟨lw_p7, List.forall_mem_cons.mpr ⟨lw_p8, List.forall_mem_cons.mpr ⟨lw_p9, List.forall_mem_cons.mpr ⟨lw_p10, List.forall_mem_cons.mpr ⟨lw_p11, List.forall_mem_cons.mpr ⟨lw_p12, List.forall_mem_cons.mpr ⟨lw_p13, List.forall_mem_cons.mpr ⟨lw_p14, List.forall_mem_cons.mpr ⟨lw_p15, fun _ h => absurd h List.not_mem_nil⟩⟩⟩⟩⟩⟩⟩⟩⟩⟩⟩⟩⟩⟩⟩⟩
theorem lw_p16 : lw_okq (⟨"WindLawyer$Session", "swap", "(II)V"⟩, 4) := ⟨⟨by decide +kernel, by decide +kernel⟩, List.mem_of_getElem? (i := 209) (by decide +kernel), List.mem_of_getElem? (i := 747) (by decide +kernel), List.mem_of_getElem? (i := 748) (by decide +kernel)⟩
theorem lw_p17 : lw_okq (⟨"WindLawyer$Evidence", "fitsReadings", "(LWindLawyer$Island;I)Z"⟩, 5) := ⟨⟨by decide +kernel, by decide +kernel⟩, List.mem_of_getElem? (i := 231) (by decide +kernel), List.mem_of_getElem? (i := 771) (by decide +kernel), List.mem_of_getElem? (i := 772) (by decide +kernel)⟩
theorem lw_p18 : lw_okq (⟨"WindLawyer$Evidence", "mostAlike", "(I)I"⟩, 5) := ⟨⟨by decide +kernel, by decide +kernel⟩, List.mem_of_getElem? (i := 231) (by decide +kernel), List.mem_of_getElem? (i := 825) (by decide +kernel), List.mem_of_getElem? (i := 826) (by decide +kernel)⟩
theorem lw_p19 : lw_okq (⟨"WindLawyer", "howMany", "(I)I"⟩, 15) := ⟨⟨by decide +kernel, by decide +kernel⟩, List.mem_of_getElem? (i := 22) (by decide +kernel), List.mem_of_getElem? (i := 911) (by decide +kernel), List.mem_of_getElem? (i := 912) (by decide +kernel)⟩
theorem lw_p20 : lw_okq (⟨"WindLawyerModel", "bad", "()I"⟩, 19) := ⟨⟨by decide +kernel, by decide +kernel⟩, List.mem_of_getElem? (i := 931) (by decide +kernel), List.mem_of_getElem? (i := 1012) (by decide +kernel), List.mem_of_getElem? (i := 1013) (by decide +kernel)⟩
theorem lw_p21 : lw_okq (⟨"WindLawyerModel", "full", "()I"⟩, 19) := ⟨⟨by decide +kernel, by decide +kernel⟩, List.mem_of_getElem? (i := 931) (by decide +kernel), List.mem_of_getElem? (i := 1023) (by decide +kernel), List.mem_of_getElem? (i := 1024) (by decide +kernel)⟩
theorem lw_p22 : lw_okq (⟨"WindLawyerModel", "next", "()V"⟩, 19) := ⟨⟨by decide +kernel, by decide +kernel⟩, List.mem_of_getElem? (i := 931) (by decide +kernel), List.mem_of_getElem? (i := 1043) (by decide +kernel), List.mem_of_getElem? (i := 1044) (by decide +kernel)⟩
theorem lw_p23 : lw_okq (⟨"WindLawyerModel", "wordBy", "(I)I"⟩, 19) := ⟨⟨by decide +kernel, by decide +kernel⟩, List.mem_of_getElem? (i := 931) (by decide +kernel), List.mem_of_getElem? (i := 1053) (by decide +kernel), List.mem_of_getElem? (i := 1054) (by decide +kernel)⟩
theorem lw_p24 : lw_okq (⟨"WindLawyerModel", "must", "(Z)V"⟩, 19) := ⟨⟨by decide +kernel, by decide +kernel⟩, List.mem_of_getElem? (i := 931) (by decide +kernel), List.mem_of_getElem? (i := 1057) (by decide +kernel), List.mem_of_getElem? (i := 1058) (by decide +kernel)⟩
theorem lw_p25 : lw_okq (⟨"WindLawyerModel", "goOnReading", "()V"⟩, 19) := ⟨⟨by decide +kernel, by decide +kernel⟩, List.mem_of_getElem? (i := 931) (by decide +kernel), List.mem_of_getElem? (i := 1061) (by decide +kernel), List.mem_of_getElem? (i := 1062) (by decide +kernel)⟩
theorem lw_p26 : lw_okq (⟨"WindLawyerModel", "end", "()V"⟩, 19) := ⟨⟨by decide +kernel, by decide +kernel⟩, List.mem_of_getElem? (i := 931) (by decide +kernel), List.mem_of_getElem? (i := 1065) (by decide +kernel), List.mem_of_getElem? (i := 1066) (by decide +kernel)⟩
theorem lw_p27 : lw_okq (⟨"WindLawyerModel", "readWinds", "()V"⟩, 19) := ⟨⟨by decide +kernel, by decide +kernel⟩, List.mem_of_getElem? (i := 931) (by decide +kernel), List.mem_of_getElem? (i := 1069) (by decide +kernel), List.mem_of_getElem? (i := 1070) (by decide +kernel)⟩
theorem lw_p28 : lw_okq (⟨"WindLawyerModel", "number", "(II)I"⟩, 19) := ⟨⟨by decide +kernel, by decide +kernel⟩, List.mem_of_getElem? (i := 931) (by decide +kernel), List.mem_of_getElem? (i := 1073) (by decide +kernel), List.mem_of_getElem? (i := 1074) (by decide +kernel)⟩
theorem lw_p29 : lw_okq (⟨"WindLawyerModel", "readUser", "()V"⟩, 19) := ⟨⟨by decide +kernel, by decide +kernel⟩, List.mem_of_getElem? (i := 931) (by decide +kernel), List.mem_of_getElem? (i := 1077) (by decide +kernel), List.mem_of_getElem? (i := 1078) (by decide +kernel)⟩
theorem lw_p30 : lw_okq (⟨"WindLawyerModel", "readSuit", "()V"⟩, 19) := ⟨⟨by decide +kernel, by decide +kernel⟩, List.mem_of_getElem? (i := 931) (by decide +kernel), List.mem_of_getElem? (i := 1081) (by decide +kernel), List.mem_of_getElem? (i := 1082) (by decide +kernel)⟩
theorem lw_p31 : lw_okq (⟨"WindLawyerModel", "readHours", "()V"⟩, 19) := ⟨⟨by decide +kernel, by decide +kernel⟩, List.mem_of_getElem? (i := 931) (by decide +kernel), List.mem_of_getElem? (i := 1088) (by decide +kernel), List.mem_of_getElem? (i := 1089) (by decide +kernel)⟩
def lw_privs_2 : List (MethodName × Nat) := [(⟨"WindLawyer$Session", "swap", "(II)V"⟩, 4), (⟨"WindLawyer$Evidence", "fitsReadings", "(LWindLawyer$Island;I)Z"⟩, 5), (⟨"WindLawyer$Evidence", "mostAlike", "(I)I"⟩, 5), (⟨"WindLawyer", "howMany", "(I)I"⟩, 15), (⟨"WindLawyerModel", "bad", "()I"⟩, 19), (⟨"WindLawyerModel", "full", "()I"⟩, 19), (⟨"WindLawyerModel", "next", "()V"⟩, 19), (⟨"WindLawyerModel", "wordBy", "(I)I"⟩, 19), (⟨"WindLawyerModel", "must", "(Z)V"⟩, 19), (⟨"WindLawyerModel", "goOnReading", "()V"⟩, 19), (⟨"WindLawyerModel", "end", "()V"⟩, 19), (⟨"WindLawyerModel", "readWinds", "()V"⟩, 19), (⟨"WindLawyerModel", "number", "(II)I"⟩, 19), (⟨"WindLawyerModel", "readUser", "()V"⟩, 19), (⟨"WindLawyerModel", "readSuit", "()V"⟩, 19), (⟨"WindLawyerModel", "readHours", "()V"⟩, 19)]
theorem lw_r2 : ∀ q ∈ lw_privs_2, lw_okq q := List.forall_mem_cons.mpr ⟨lw_p16, List.forall_mem_cons.mpr ⟨lw_p17, List.forall_mem_cons.mpr ⟨lw_p18, List.forall_mem_cons.mpr ⟨lw_p19, List.forall_mem_cons.mpr ⟨lw_p20, List.forall_mem_cons.mpr ⟨lw_p21, List.forall_mem_cons.mpr ⟨lw_p22, List.forall_mem_cons.mpr ⟨lw_p23, List.forall_mem_cons.mpr ⟨lw_p24, List.forall_mem_cons.mpr ⟨lw_p25, List.forall_mem_cons.mpr ⟨lw_p26, List.forall_mem_cons.mpr ⟨lw_p27, List.forall_mem_cons.mpr ⟨lw_p28, List.forall_mem_cons.mpr ⟨lw_p29, List.forall_mem_cons.mpr ⟨lw_p30, List.forall_mem_cons.mpr ⟨lw_p31, fun _ h => absurd h List.not_mem_nil⟩⟩⟩⟩⟩⟩⟩⟩⟩⟩⟩⟩⟩⟩⟩⟩
theorem lw_p32 : lw_okq (⟨"WindLawyerModel", "hoursOf", "([II)I"⟩, 19) := ⟨⟨by decide +kernel, by decide +kernel⟩, List.mem_of_getElem? (i := 931) (by decide +kernel), List.mem_of_getElem? (i := 1092) (by decide +kernel), List.mem_of_getElem? (i := 1093) (by decide +kernel)⟩
theorem lw_p33 : lw_okq (⟨"WindLawyerModel", "goOn", "([I)I"⟩, 19) := ⟨⟨by decide +kernel, by decide +kernel⟩, List.mem_of_getElem? (i := 931) (by decide +kernel), List.mem_of_getElem? (i := 1096) (by decide +kernel), List.mem_of_getElem? (i := 1097) (by decide +kernel)⟩
theorem lw_p34 : lw_okq (⟨"WindLawyerModel", "blowOf", "([III)V"⟩, 19) := ⟨⟨by decide +kernel, by decide +kernel⟩, List.mem_of_getElem? (i := 931) (by decide +kernel), List.mem_of_getElem? (i := 1103) (by decide +kernel), List.mem_of_getElem? (i := 1104) (by decide +kernel)⟩
theorem lw_p35 : lw_okq (⟨"WindLawyerModel", "blow", "([IIII)V"⟩, 19) := ⟨⟨by decide +kernel, by decide +kernel⟩, List.mem_of_getElem? (i := 931) (by decide +kernel), List.mem_of_getElem? (i := 1107) (by decide +kernel), List.mem_of_getElem? (i := 1108) (by decide +kernel)⟩
theorem lw_p36 : lw_okq (⟨"WindLawyerModel", "no", "()I"⟩, 19) := ⟨⟨by decide +kernel, by decide +kernel⟩, List.mem_of_getElem? (i := 931) (by decide +kernel), List.mem_of_getElem? (i := 1127) (by decide +kernel), List.mem_of_getElem? (i := 1128) (by decide +kernel)⟩
theorem lw_p37 : lw_okq (⟨"WindLawyerModel", "keep", "()V"⟩, 19) := ⟨⟨by decide +kernel, by decide +kernel⟩, List.mem_of_getElem? (i := 931) (by decide +kernel), List.mem_of_getElem? (i := 1136) (by decide +kernel), List.mem_of_getElem? (i := 1137) (by decide +kernel)⟩
theorem lw_p38 : lw_okq (⟨"WindLawyerModel", "isUser", "(I)Z"⟩, 19) := ⟨⟨by decide +kernel, by decide +kernel⟩, List.mem_of_getElem? (i := 931) (by decide +kernel), List.mem_of_getElem? (i := 1144) (by decide +kernel), List.mem_of_getElem? (i := 1145) (by decide +kernel)⟩
theorem lw_p39 : lw_okq (⟨"WindLawyerModel", "isSuit", "(I)Z"⟩, 19) := ⟨⟨by decide +kernel, by decide +kernel⟩, List.mem_of_getElem? (i := 931) (by decide +kernel), List.mem_of_getElem? (i := 1152) (by decide +kernel), List.mem_of_getElem? (i := 1153) (by decide +kernel)⟩
theorem lw_p40 : lw_okq (⟨"WindLawyerModel", "isHeard", "(I)Z"⟩, 19) := ⟨⟨by decide +kernel, by decide +kernel⟩, List.mem_of_getElem? (i := 931) (by decide +kernel), List.mem_of_getElem? (i := 1156) (by decide +kernel), List.mem_of_getElem? (i := 1157) (by decide +kernel)⟩
theorem lw_p41 : lw_okq (⟨"WindLawyerModel", "awardNow", "(I)I"⟩, 19) := ⟨⟨by decide +kernel, by decide +kernel⟩, List.mem_of_getElem? (i := 931) (by decide +kernel), List.mem_of_getElem? (i := 1163) (by decide +kernel), List.mem_of_getElem? (i := 1164) (by decide +kernel)⟩
theorem lw_p42 : lw_okq (⟨"WindLawyerModel", "duesOf", "(I)I"⟩, 19) := ⟨⟨by decide +kernel, by decide +kernel⟩, List.mem_of_getElem? (i := 931) (by decide +kernel), List.mem_of_getElem? (i := 1167) (by decide +kernel), List.mem_of_getElem? (i := 1168) (by decide +kernel)⟩
theorem lw_p43 : lw_okq (⟨"WindLawyerModel", "ageOf", "(I)I"⟩, 19) := ⟨⟨by decide +kernel, by decide +kernel⟩, List.mem_of_getElem? (i := 931) (by decide +kernel), List.mem_of_getElem? (i := 1171) (by decide +kernel), List.mem_of_getElem? (i := 1172) (by decide +kernel)⟩
theorem lw_p44 : lw_okq (⟨"WindLawyerModel", "layFresh", "()V"⟩, 19) := ⟨⟨by decide +kernel, by decide +kernel⟩, List.mem_of_getElem? (i := 931) (by decide +kernel), List.mem_of_getElem? (i := 1203) (by decide +kernel), List.mem_of_getElem? (i := 1204) (by decide +kernel)⟩
theorem lw_p45 : lw_okq (⟨"WindLawyerModel", "dayOf", "([III)I"⟩, 19) := ⟨⟨by decide +kernel, by decide +kernel⟩, List.mem_of_getElem? (i := 931) (by decide +kernel), List.mem_of_getElem? (i := 1215) (by decide +kernel), List.mem_of_getElem? (i := 1216) (by decide +kernel)⟩
theorem lw_p46 : lw_okq (⟨"WindLawyerModel", "fraction", "(JJ)I"⟩, 19) := ⟨⟨by decide +kernel, by decide +kernel⟩, List.mem_of_getElem? (i := 931) (by decide +kernel), List.mem_of_getElem? (i := 1229) (by decide +kernel), List.mem_of_getElem? (i := 1230) (by decide +kernel)⟩
theorem lw_p47 : lw_okq (⟨"WindLawyerModel", "wonBy", "(I)I"⟩, 19) := ⟨⟨by decide +kernel, by decide +kernel⟩, List.mem_of_getElem? (i := 931) (by decide +kernel), List.mem_of_getElem? (i := 1241) (by decide +kernel), List.mem_of_getElem? (i := 1242) (by decide +kernel)⟩
def lw_privs_3 : List (MethodName × Nat) := [(⟨"WindLawyerModel", "hoursOf", "([II)I"⟩, 19), (⟨"WindLawyerModel", "goOn", "([I)I"⟩, 19), (⟨"WindLawyerModel", "blowOf", "([III)V"⟩, 19), (⟨"WindLawyerModel", "blow", "([IIII)V"⟩, 19), (⟨"WindLawyerModel", "no", "()I"⟩, 19), (⟨"WindLawyerModel", "keep", "()V"⟩, 19), (⟨"WindLawyerModel", "isUser", "(I)Z"⟩, 19), (⟨"WindLawyerModel", "isSuit", "(I)Z"⟩, 19), (⟨"WindLawyerModel", "isHeard", "(I)Z"⟩, 19), (⟨"WindLawyerModel", "awardNow", "(I)I"⟩, 19), (⟨"WindLawyerModel", "duesOf", "(I)I"⟩, 19), (⟨"WindLawyerModel", "ageOf", "(I)I"⟩, 19), (⟨"WindLawyerModel", "layFresh", "()V"⟩, 19), (⟨"WindLawyerModel", "dayOf", "([III)I"⟩, 19), (⟨"WindLawyerModel", "fraction", "(JJ)I"⟩, 19), (⟨"WindLawyerModel", "wonBy", "(I)I"⟩, 19)]
theorem lw_r3 : ∀ q ∈ lw_privs_3, lw_okq q := List.forall_mem_cons.mpr ⟨lw_p32, List.forall_mem_cons.mpr ⟨lw_p33, List.forall_mem_cons.mpr ⟨lw_p34, List.forall_mem_cons.mpr ⟨lw_p35, List.forall_mem_cons.mpr ⟨lw_p36, List.forall_mem_cons.mpr ⟨lw_p37, List.forall_mem_cons.mpr ⟨lw_p38, List.forall_mem_cons.mpr ⟨lw_p39, List.forall_mem_cons.mpr ⟨lw_p40, List.forall_mem_cons.mpr ⟨lw_p41, List.forall_mem_cons.mpr ⟨lw_p42, List.forall_mem_cons.mpr ⟨lw_p43, List.forall_mem_cons.mpr ⟨lw_p44, List.forall_mem_cons.mpr ⟨lw_p45, List.forall_mem_cons.mpr ⟨lw_p46, List.forall_mem_cons.mpr ⟨lw_p47, fun _ h => absurd h List.not_mem_nil⟩⟩⟩⟩⟩⟩⟩⟩⟩⟩⟩⟩⟩⟩⟩⟩
theorem lw_p48 : lw_okq (⟨"WindLawyerModel", "nextRow", "(I)Z"⟩, 19) := ⟨⟨by decide +kernel, by decide +kernel⟩, List.mem_of_getElem? (i := 931) (by decide +kernel), List.mem_of_getElem? (i := 1245) (by decide +kernel), List.mem_of_getElem? (i := 1246) (by decide +kernel)⟩
theorem lw_p49 : lw_okq (⟨"WindLawyerModel", "isSo", "(I)Z"⟩, 19) := ⟨⟨by decide +kernel, by decide +kernel⟩, List.mem_of_getElem? (i := 931) (by decide +kernel), List.mem_of_getElem? (i := 1262) (by decide +kernel), List.mem_of_getElem? (i := 1263) (by decide +kernel)⟩
theorem lw_p50 : lw_okq (⟨"WindLawyerModel", "kindsBy", "(I)I"⟩, 19) := ⟨⟨by decide +kernel, by decide +kernel⟩, List.mem_of_getElem? (i := 931) (by decide +kernel), List.mem_of_getElem? (i := 1284) (by decide +kernel), List.mem_of_getElem? (i := 1285) (by decide +kernel)⟩
theorem lw_p51 : lw_okq (⟨"WindLawyerModel", "suitsBy", "(I)I"⟩, 19) := ⟨⟨by decide +kernel, by decide +kernel⟩, List.mem_of_getElem? (i := 931) (by decide +kernel), List.mem_of_getElem? (i := 1296) (by decide +kernel), List.mem_of_getElem? (i := 1297) (by decide +kernel)⟩
theorem lw_p52 : lw_okq (⟨"WindLawyerModel", "gain", "(III)I"⟩, 19) := ⟨⟨by decide +kernel, by decide +kernel⟩, List.mem_of_getElem? (i := 931) (by decide +kernel), List.mem_of_getElem? (i := 1308) (by decide +kernel), List.mem_of_getElem? (i := 1309) (by decide +kernel)⟩
theorem lw_p53 : lw_okq (⟨"WindLawyerModel", "counted", "(I)I"⟩, 19) := ⟨⟨by decide +kernel, by decide +kernel⟩, List.mem_of_getElem? (i := 931) (by decide +kernel), List.mem_of_getElem? (i := 1351) (by decide +kernel), List.mem_of_getElem? (i := 1352) (by decide +kernel)⟩
theorem lw_p54 : lw_okq (⟨"WindLawyerModel", "digestOf", "(JII)J"⟩, 19) := ⟨⟨by decide +kernel, by decide +kernel⟩, List.mem_of_getElem? (i := 931) (by decide +kernel), List.mem_of_getElem? (i := 1361) (by decide +kernel), List.mem_of_getElem? (i := 1362) (by decide +kernel)⟩
def lw_privs_4 : List (MethodName × Nat) := [(⟨"WindLawyerModel", "nextRow", "(I)Z"⟩, 19), (⟨"WindLawyerModel", "isSo", "(I)Z"⟩, 19), (⟨"WindLawyerModel", "kindsBy", "(I)I"⟩, 19), (⟨"WindLawyerModel", "suitsBy", "(I)I"⟩, 19), (⟨"WindLawyerModel", "gain", "(III)I"⟩, 19), (⟨"WindLawyerModel", "counted", "(I)I"⟩, 19), (⟨"WindLawyerModel", "digestOf", "(JII)J"⟩, 19)]
theorem lw_r4 : ∀ q ∈ lw_privs_4, lw_okq q := List.forall_mem_cons.mpr ⟨lw_p48, List.forall_mem_cons.mpr ⟨lw_p49, List.forall_mem_cons.mpr ⟨lw_p50, List.forall_mem_cons.mpr ⟨lw_p51, List.forall_mem_cons.mpr ⟨lw_p52, List.forall_mem_cons.mpr ⟨lw_p53, List.forall_mem_cons.mpr ⟨lw_p54, fun _ h => absurd h List.not_mem_nil⟩⟩⟩⟩⟩⟩⟩
def lw_privs : List (MethodName × Nat) := lw_privs_1 ++ (lw_privs_2 ++ (lw_privs_3 ++ (lw_privs_4)))
def lw_tbl : List Cond := k2_sels lw_privs ++ tables_1
theorem lw_privs_ok : ∀ q ∈ lw_privs, lw_okq q := by
  show ∀ q ∈ lw_privs_1 ++ (lw_privs_2 ++ (lw_privs_3 ++ (lw_privs_4))), lw_okq q
  exact List.forall_mem_append.mpr ⟨lw_r1, List.forall_mem_append.mpr ⟨lw_r2, List.forall_mem_append.mpr ⟨lw_r3, lw_r4⟩⟩⟩

-- ===== names =====
def RX0 : String := "WindLawyer$Blow"
def TX0 : u_T := fun k => match k with
  | 0 => ("WindLawyer$Blow", "ahead", "[I", true)
  | 1 => ("WindLawyer$Blow", "behind", "[I", true)
  | _ => ("WindLawyer$Blow", "taken", "[I", true)
def tyX0 : Nat → FieldType := fun k => match k with
  | 0 => .array .int
  | 1 => .array .int
  | _ => .array .int
abbrev wsX00 : List Cond := u_ws RX0 TX0 3
theorem nmX0 : ∀ a, a < 3 → ∀ b, b < 3 → a ≠ b → (TX0 a).2.1 ≠ (TX0 b).2.1 := by decide +kernel
theorem tyX0_ok : ∀ k, k < 3 → parseFieldDescriptor (TX0 k).2.2.1 = some (tyX0 k) := by decide +kernel
abbrev cX0_init : ByteArray := prog_2_method_1_code
def yX0_init : MethodName := ⟨RX0, "<init>", "()V"⟩
abbrev cX0_goInHour : ByteArray := prog_2_method_2_code
def yX0_goInHour : MethodName := ⟨RX0, "goInHour", "(LWindLawyer$Island;II)V"⟩
abbrev cX0_go : ByteArray := prog_2_method_3_code
def yX0_go : MethodName := ⟨RX0, "go", "(LWindLawyer$Table;III)V"⟩
abbrev cX0_takenBy : ByteArray := prog_2_method_4_code
def yX0_takenBy : MethodName := ⟨RX0, "takenBy", "(I)I"⟩
abbrev cX0_leftBehind : ByteArray := prog_2_method_5_code
def yX0_leftBehind : MethodName := ⟨RX0, "leftBehind", "(I)I"⟩
abbrev cX0_rentOf : ByteArray := prog_2_method_6_code
def yX0_rentOf : MethodName := ⟨RX0, "rentOf", "(LWindLawyer$Table;I)I"⟩
abbrev cX0_rentOfAll : ByteArray := prog_2_method_7_code
def yX0_rentOfAll : MethodName := ⟨RX0, "rentOfAll", "(LWindLawyer$Table;)I"⟩
abbrev cX0_takenByFirst : ByteArray := prog_2_method_8_code
def yX0_takenByFirst : MethodName := ⟨RX0, "takenByFirst", "(I)I"⟩
def RX1 : String := "WindLawyer$Evidence"
def TX1 : u_T := fun k => match k with
  | 0 => ("WindLawyer$Evidence", "blow", "LWindLawyer$Blow;", true)
  | 1 => ("WindLawyer$Evidence", "answers", "[I", true)
  | 2 => ("WindLawyer$Evidence", "sets", "I", false)
  | 3 => ("WindLawyer$Evidence", "inAll", "I", false)
  | _ => ("WindLawyer$Evidence", "inSome", "I", false)
def tyX1 : Nat → FieldType := fun k => match k with
  | 0 => .object "WindLawyer$Blow"
  | 1 => .array .int
  | 2 => .int
  | 3 => .int
  | _ => .int
abbrev wsX10 : List Cond := u_ws RX1 TX1 5
theorem nmX1 : ∀ a, a < 5 → ∀ b, b < 5 → a ≠ b → (TX1 a).2.1 ≠ (TX1 b).2.1 := by decide +kernel
theorem tyX1_ok : ∀ k, k < 5 → parseFieldDescriptor (TX1 k).2.2.1 = some (tyX1 k) := by decide +kernel
abbrev cX1_init : ByteArray := prog_3_method_1_code
def yX1_init : MethodName := ⟨RX1, "<init>", "(LWindLawyer$Blow;)V"⟩
abbrev cX1_findSets : ByteArray := prog_3_method_2_code
def yX1_findSets : MethodName := ⟨RX1, "findSets", "(LWindLawyer$Island;)V"⟩
abbrev cX1_fitsReadings : ByteArray := prog_3_method_3_code
def yX1_fitsReadings : MethodName := ⟨RX1, "fitsReadings", "(LWindLawyer$Island;I)Z"⟩
abbrev cX1_userKinds : ByteArray := prog_3_method_4_code
def yX1_userKinds : MethodName := ⟨RX1, "userKinds", "(LWindLawyer$Island;I)I"⟩
abbrev cX1_fitsNotes : ByteArray := prog_3_method_5_code
def yX1_fitsNotes : MethodName := ⟨RX1, "fitsNotes", "(LWindLawyer$Table;II)Z"⟩
abbrev cX1_nextWind : ByteArray := prog_3_method_6_code
def yX1_nextWind : MethodName := ⟨RX1, "nextWind", "(LWindLawyer$Island;I)I"⟩
abbrev cX1_suitKinds : ByteArray := prog_3_method_7_code
def yX1_suitKinds : MethodName := ⟨RX1, "suitKinds", "(LWindLawyer$Island;I)I"⟩
abbrev cX1_fitsMarks : ByteArray := prog_3_method_8_code
def yX1_fitsMarks : MethodName := ⟨RX1, "fitsMarks", "(LWindLawyer$Table;II)Z"⟩
abbrev cX1_nextTry : ByteArray := prog_3_method_9_code
def yX1_nextTry : MethodName := ⟨RX1, "nextTry", "(LWindLawyer$Island;I)I"⟩
abbrev cX1_mostAlike : ByteArray := prog_3_method_10_code
def yX1_mostAlike : MethodName := ⟨RX1, "mostAlike", "(I)I"⟩
def RX2 : String := "WindLawyer$Forecast"
def TX2 : u_T := fun k => match k with
  | 0 => ("WindLawyer$Forecast", "blow", "LWindLawyer$Blow;", true)
  | 1 => ("WindLawyer$Forecast", "guests", "LWindLawyer$Table;", true)
  | 2 => ("WindLawyer$Forecast", "totals", "[I", true)
  | 3 => ("WindLawyer$Forecast", "bestCell", "I", false)
  | _ => ("WindLawyer$Forecast", "leastLoss", "I", false)
def tyX2 : Nat → FieldType := fun k => match k with
  | 0 => .object "WindLawyer$Blow"
  | 1 => .object "WindLawyer$Table"
  | 2 => .array .int
  | 3 => .int
  | _ => .int
abbrev wsX20 : List Cond := u_ws RX2 TX2 5
theorem nmX2 : ∀ a, a < 5 → ∀ b, b < 5 → a ≠ b → (TX2 a).2.1 ≠ (TX2 b).2.1 := by decide +kernel
theorem tyX2_ok : ∀ k, k < 5 → parseFieldDescriptor (TX2 k).2.2.1 = some (tyX2 k) := by decide +kernel
abbrev cX2_init : ByteArray := prog_4_method_1_code
def yX2_init : MethodName := ⟨RX2, "<init>", "(LWindLawyer$Blow;)V"⟩
abbrev cX2_duesBehind : ByteArray := prog_4_method_2_code
def yX2_duesBehind : MethodName := ⟨RX2, "duesBehind", "(LWindLawyer$Island;II)I"⟩
abbrev cX2_firstCalm : ByteArray := prog_4_method_3_code
def yX2_firstCalm : MethodName := ⟨RX2, "firstCalm", "(LWindLawyer$Island;I)I"⟩
abbrev cX2_takenInNext : ByteArray := prog_4_method_4_code
def yX2_takenInNext : MethodName := ⟨RX2, "takenInNext", "(LWindLawyer$Island;II)I"⟩
abbrev cX2_findPlace : ByteArray := prog_4_method_5_code
def yX2_findPlace : MethodName := ⟨RX2, "findPlace", "(LWindLawyer$Island;II)V"⟩
abbrev cX2_sumOverOrders : ByteArray := prog_4_method_6_code
def yX2_sumOverOrders : MethodName := ⟨RX2, "sumOverOrders", "(LWindLawyer$Island;I)J"⟩
abbrev cX2_takenInDay : ByteArray := prog_4_method_7_code
def yX2_takenInDay : MethodName := ⟨RX2, "takenInDay", "(LWindLawyer$Island;LWindLawyer$Table;II)I"⟩
abbrev cX2_rentBySeed : ByteArray := prog_4_method_8_code
def yX2_rentBySeed : MethodName := ⟨RX2, "rentBySeed", "(LWindLawyer$Island;II)I"⟩
def RX3 : String := "WindLawyer$Fraction"
def TX3 : u_T := fun k => match k with
  | 0 => ("WindLawyer$Fraction", "above", "J", false)
  | _ => ("WindLawyer$Fraction", "below", "J", false)
def tyX3 : Nat → FieldType := fun k => match k with
  | 0 => .long
  | _ => .long
abbrev wsX30 : List Cond := u_ws RX3 TX3 2
theorem nmX3 : ∀ a, a < 2 → ∀ b, b < 2 → a ≠ b → (TX3 a).2.1 ≠ (TX3 b).2.1 := by decide +kernel
theorem tyX3_ok : ∀ k, k < 2 → parseFieldDescriptor (TX3 k).2.2.1 = some (tyX3 k) := by decide +kernel
abbrev cX3_init : ByteArray := prog_5_method_1_code
def yX3_init : MethodName := ⟨RX3, "<init>", "()V"⟩
abbrev cX3_set : ByteArray := prog_5_method_2_code
def yX3_set : MethodName := ⟨RX3, "set", "(JJ)V"⟩
abbrev cX3_greatestDivisor : ByteArray := prog_5_method_3_code
def yX3_greatestDivisor : MethodName := ⟨RX3, "greatestDivisor", "(JJ)J"⟩
def RX4 : String := "WindLawyer$Island"
def TX4 : u_T := fun k => match k with
  | 0 => ("WindLawyer$Island", "strengths", "[I", true)
  | 1 => ("WindLawyer$Island", "sides", "[I", true)
  | 2 => ("WindLawyer$Island", "users", "LWindLawyer$Table;", true)
  | 3 => ("WindLawyer$Island", "suits", "LWindLawyer$Table;", true)
  | 4 => ("WindLawyer$Island", "readings", "LWindLawyer$Table;", true)
  | 5 => ("WindLawyer$Island", "notes", "LWindLawyer$Table;", true)
  | 6 => ("WindLawyer$Island", "marks", "LWindLawyer$Table;", true)
  | 7 => ("WindLawyer$Island", "past", "LWindLawyer$Table;", true)
  | 8 => ("WindLawyer$Island", "hour", "I", false)
  | _ => ("WindLawyer$Island", "won", "I", false)
def tyX4 : Nat → FieldType := fun k => match k with
  | 0 => .array .int
  | 1 => .array .int
  | 2 => .object "WindLawyer$Table"
  | 3 => .object "WindLawyer$Table"
  | 4 => .object "WindLawyer$Table"
  | 5 => .object "WindLawyer$Table"
  | 6 => .object "WindLawyer$Table"
  | 7 => .object "WindLawyer$Table"
  | 8 => .int
  | _ => .int
abbrev wsX40 : List Cond := u_ws RX4 TX4 10
theorem nmX4 : ∀ a, a < 10 → ∀ b, b < 10 → a ≠ b → (TX4 a).2.1 ≠ (TX4 b).2.1 := by decide +kernel
theorem tyX4_ok : ∀ k, k < 10 → parseFieldDescriptor (TX4 k).2.2.1 = some (tyX4 k) := by decide +kernel
abbrev cX4_init : ByteArray := prog_6_method_1_code
def yX4_init : MethodName := ⟨RX4, "<init>", "()V"⟩
abbrev cX4_reset : ByteArray := prog_6_method_2_code
def yX4_reset : MethodName := ⟨RX4, "reset", "()V"⟩
abbrev cX4_copyFrom : ByteArray := prog_6_method_3_code
def yX4_copyFrom : MethodName := ⟨RX4, "copyFrom", "(LWindLawyer$Island;)V"⟩
abbrev cX4_tellWind : ByteArray := prog_6_method_4_code
def yX4_tellWind : MethodName := ⟨RX4, "tellWind", "(III)V"⟩
abbrev cX4_addUser : ByteArray := prog_6_method_5_code
def yX4_addUser : MethodName := ⟨RX4, "addUser", "(III)I"⟩
abbrev cX4_fileSuit : ByteArray := prog_6_method_6_code
def yX4_fileSuit : MethodName := ⟨RX4, "fileSuit", "(II)I"⟩
abbrev cX4_addReading : ByteArray := prog_6_method_7_code
def yX4_addReading : MethodName := ⟨RX4, "addReading", "(III)I"⟩
abbrev cX4_addNote : ByteArray := prog_6_method_8_code
def yX4_addNote : MethodName := ⟨RX4, "addNote", "(IIIII)I"⟩
abbrev cX4_addMark : ByteArray := prog_6_method_9_code
def yX4_addMark : MethodName := ⟨RX4, "addMark", "(IIII)I"⟩
abbrev cX4_passHours : ByteArray := prog_6_method_10_code
def yX4_passHours : MethodName := ⟨RX4, "passHours", "(ILWindLawyer$Blow;)I"⟩
abbrev cX4_hearSuit : ByteArray := prog_6_method_11_code
def yX4_hearSuit : MethodName := ⟨RX4, "hearSuit", "(I)I"⟩
abbrev cX4_isHeard : ByteArray := prog_6_method_12_code
def yX4_isHeard : MethodName := ⟨RX4, "isHeard", "(I)Z"⟩
abbrev cX4_awardNow : ByteArray := prog_6_method_13_code
def yX4_awardNow : MethodName := ⟨RX4, "awardNow", "(I)I"⟩
abbrev cX4_duesOf : ByteArray := prog_6_method_14_code
def yX4_duesOf : MethodName := ⟨RX4, "duesOf", "(I)I"⟩
abbrev cX4_duesOfAll : ByteArray := prog_6_method_15_code
def yX4_duesOfAll : MethodName := ⟨RX4, "duesOfAll", "()I"⟩
abbrev cX4_remember : ByteArray := prog_6_method_16_code
def yX4_remember : MethodName := ⟨RX4, "remember", "()V"⟩
abbrev cX4_takeBack : ByteArray := prog_6_method_17_code
def yX4_takeBack : MethodName := ⟨RX4, "takeBack", "()V"⟩
def RX5 : String := "WindLawyer$Kinds"
def TX5 : u_T := fun k => match k with
  | _ => ("", "", "", false)
def tyX5 : Nat → FieldType := fun k => match k with
  | _ => .int
abbrev wsX50 : List Cond := u_ws RX5 TX5 0
theorem nmX5 : ∀ a, a < 0 → ∀ b, b < 0 → a ≠ b → (TX5 a).2.1 ≠ (TX5 b).2.1 := by decide +kernel
theorem tyX5_ok : ∀ k, k < 0 → parseFieldDescriptor (TX5 k).2.2.1 = some (tyX5 k) := by decide +kernel
abbrev cX5_takenOf : ByteArray := prog_7_method_2_code
def yX5_takenOf : MethodName := ⟨RX5, "takenOf", "(III)I"⟩
abbrev cX5_rentOf : ByteArray := prog_7_method_3_code
def yX5_rentOf : MethodName := ⟨RX5, "rentOf", "(II)I"⟩
abbrev cX5_awardOf : ByteArray := prog_7_method_4_code
def yX5_awardOf : MethodName := ⟨RX5, "awardOf", "(III)I"⟩
def RX6 : String := "WindLawyer$Parties"
def TX6 : u_T := fun k => match k with
  | _ => ("", "", "", false)
def tyX6 : Nat → FieldType := fun k => match k with
  | _ => .int
abbrev wsX60 : List Cond := u_ws RX6 TX6 0
theorem nmX6 : ∀ a, a < 0 → ∀ b, b < 0 → a ≠ b → (TX6 a).2.1 ≠ (TX6 b).2.1 := by decide +kernel
theorem tyX6_ok : ∀ k, k < 0 → parseFieldDescriptor (TX6 k).2.2.1 = some (tyX6 k) := by decide +kernel
abbrev cX6_restingPairs : ByteArray := prog_8_method_2_code
def yX6_restingPairs : MethodName := ⟨RX6, "restingPairs", "(II)I"⟩
abbrev cX6_toWind : ByteArray := prog_8_method_3_code
def yX6_toWind : MethodName := ⟨RX6, "toWind", "(IIII)I"⟩
def RX7 : String := "WindLawyer$Reader"
def TX7 : u_T := fun k => match k with
  | 0 => ("WindLawyer$Reader", "text", "LWindLawyer$Text;", true)
  | 1 => ("WindLawyer$Reader", "blow", "LWindLawyer$Blow;", true)
  | 2 => ("WindLawyer$Reader", "island", "LWindLawyer$Island;", true)
  | 3 => ("WindLawyer$Reader", "start", "I", false)
  | 4 => ("WindLawyer$Reader", "next", "I", false)
  | 5 => ("WindLawyer$Reader", "sort", "I", false)
  | _ => ("WindLawyer$Reader", "value", "I", false)
def tyX7 : Nat → FieldType := fun k => match k with
  | 0 => .object "WindLawyer$Text"
  | 1 => .object "WindLawyer$Blow"
  | 2 => .object "WindLawyer$Island"
  | 3 => .int
  | 4 => .int
  | 5 => .int
  | _ => .int
abbrev wsX70 : List Cond := u_ws RX7 TX7 7
theorem nmX7 : ∀ a, a < 7 → ∀ b, b < 7 → a ≠ b → (TX7 a).2.1 ≠ (TX7 b).2.1 := by decide +kernel
theorem tyX7_ok : ∀ k, k < 7 → parseFieldDescriptor (TX7 k).2.2.1 = some (tyX7 k) := by decide +kernel
abbrev cX7_init : ByteArray := prog_9_method_1_code
def yX7_init : MethodName := ⟨RX7, "<init>", "(LWindLawyer$Text;LWindLawyer$Blow;)V"⟩
abbrev cX7_parse : ByteArray := prog_9_method_2_code
def yX7_parse : MethodName := ⟨RX7, "parse", "()I"⟩
abbrev cX7_readWinds : ByteArray := prog_9_method_3_code
def yX7_readWinds : MethodName := ⟨RX7, "readWinds", "()Z"⟩
abbrev cX7_readUser : ByteArray := prog_9_method_4_code
def yX7_readUser : MethodName := ⟨RX7, "readUser", "()Z"⟩
abbrev cX7_readSuit : ByteArray := prog_9_method_5_code
def yX7_readSuit : MethodName := ⟨RX7, "readSuit", "()Z"⟩
abbrev cX7_readHours : ByteArray := prog_9_method_6_code
def yX7_readHours : MethodName := ⟨RX7, "readHours", "()Z"⟩
abbrev cX7_goesOnWith : ByteArray := prog_9_method_7_code
def yX7_goesOnWith : MethodName := ⟨RX7, "goesOnWith", "(II)Z"⟩
abbrev cX7_stops : ByteArray := prog_9_method_8_code
def yX7_stops : MethodName := ⟨RX7, "stops", "()Z"⟩
abbrev cX7_isNumber : ByteArray := prog_9_method_9_code
def yX7_isNumber : MethodName := ⟨RX7, "isNumber", "(II)Z"⟩
abbrev cX7_isWord : ByteArray := prog_9_method_10_code
def yX7_isWord : MethodName := ⟨RX7, "isWord", "(Ljava/lang/String;)Z"⟩
abbrev cX7_goOn : ByteArray := prog_9_method_11_code
def yX7_goOn : MethodName := ⟨RX7, "goOn", "()V"⟩
abbrev cX7_runEnd : ByteArray := prog_9_method_12_code
def yX7_runEnd : MethodName := ⟨RX7, "runEnd", "(III)I"⟩
def RX8 : String := "WindLawyer$Session"
def TX8 : u_T := fun k => match k with
  | 0 => ("WindLawyer$Session", "order", "[I", true)
  | 1 => ("WindLawyer$Session", "best", "[I", true)
  | 2 => ("WindLawyer$Session", "length", "I", false)
  | _ => ("WindLawyer$Session", "most", "I", false)
def tyX8 : Nat → FieldType := fun k => match k with
  | 0 => .array .int
  | 1 => .array .int
  | 2 => .int
  | _ => .int
abbrev wsX80 : List Cond := u_ws RX8 TX8 4
theorem nmX8 : ∀ a, a < 4 → ∀ b, b < 4 → a ≠ b → (TX8 a).2.1 ≠ (TX8 b).2.1 := by decide +kernel
theorem tyX8_ok : ∀ k, k < 4 → parseFieldDescriptor (TX8 k).2.2.1 = some (tyX8 k) := by decide +kernel
abbrev cX8_init : ByteArray := prog_10_method_1_code
def yX8_init : MethodName := ⟨RX8, "<init>", "()V"⟩
abbrev cX8_findBestOrder : ByteArray := prog_10_method_2_code
def yX8_findBestOrder : MethodName := ⟨RX8, "findBestOrder", "(LWindLawyer$Island;)V"⟩
abbrev cX8_wonInOrder : ByteArray := prog_10_method_3_code
def yX8_wonInOrder : MethodName := ⟨RX8, "wonInOrder", "(LWindLawyer$Island;)I"⟩
abbrev cX8_goToNextOrder : ByteArray := prog_10_method_4_code
def yX8_goToNextOrder : MethodName := ⟨RX8, "goToNextOrder", "()Z"⟩
abbrev cX8_swap : ByteArray := prog_10_method_5_code
def yX8_swap : MethodName := ⟨RX8, "swap", "(II)V"⟩
def RX9 : String := "WindLawyer$Table"
def TX9 : u_T := fun k => match k with
  | 0 => ("WindLawyer$Table", "width", "I", true)
  | 1 => ("WindLawyer$Table", "limit", "I", true)
  | 2 => ("WindLawyer$Table", "cells", "[I", true)
  | _ => ("WindLawyer$Table", "size", "I", false)
def tyX9 : Nat → FieldType := fun k => match k with
  | 0 => .int
  | 1 => .int
  | 2 => .array .int
  | _ => .int
abbrev wsX90 : List Cond := u_ws RX9 TX9 4
theorem nmX9 : ∀ a, a < 4 → ∀ b, b < 4 → a ≠ b → (TX9 a).2.1 ≠ (TX9 b).2.1 := by decide +kernel
theorem tyX9_ok : ∀ k, k < 4 → parseFieldDescriptor (TX9 k).2.2.1 = some (tyX9 k) := by decide +kernel
abbrev cX9_init : ByteArray := prog_11_method_1_code
def yX9_init : MethodName := ⟨RX9, "<init>", "(II)V"⟩
abbrev cX9_isFull : ByteArray := prog_11_method_2_code
def yX9_isFull : MethodName := ⟨RX9, "isFull", "()Z"⟩
abbrev cX9_at : ByteArray := prog_11_method_3_code
def yX9_at : MethodName := ⟨RX9, "at", "(II)I"⟩
abbrev cX9_put : ByteArray := prog_11_method_4_code
def yX9_put : MethodName := ⟨RX9, "put", "(III)V"⟩
abbrev cX9_open : ByteArray := prog_11_method_5_code
def yX9_open : MethodName := ⟨RX9, "open", "()I"⟩
abbrev cX9_dropFirst : ByteArray := prog_11_method_6_code
def yX9_dropFirst : MethodName := ⟨RX9, "dropFirst", "()V"⟩
abbrev cX9_empty : ByteArray := prog_11_method_7_code
def yX9_empty : MethodName := ⟨RX9, "empty", "()I"⟩
abbrev cX9_copyFrom : ByteArray := prog_11_method_8_code
def yX9_copyFrom : MethodName := ⟨RX9, "copyFrom", "(LWindLawyer$Table;)V"⟩
abbrev cX9_digestBehind : ByteArray := prog_11_method_9_code
def yX9_digestBehind : MethodName := ⟨RX9, "digestBehind", "(J)J"⟩
def RX10 : String := "WindLawyer$Text"
def TX10 : u_T := fun k => match k with
  | 0 => ("WindLawyer$Text", "bytes", "[I", true)
  | _ => ("WindLawyer$Text", "size", "I", false)
def tyX10 : Nat → FieldType := fun k => match k with
  | 0 => .array .int
  | _ => .int
abbrev wsX100 : List Cond := u_ws RX10 TX10 2
theorem nmX10 : ∀ a, a < 2 → ∀ b, b < 2 → a ≠ b → (TX10 a).2.1 ≠ (TX10 b).2.1 := by decide +kernel
theorem tyX10_ok : ∀ k, k < 2 → parseFieldDescriptor (TX10 k).2.2.1 = some (tyX10 k) := by decide +kernel
abbrev cX10_init : ByteArray := prog_12_method_1_code
def yX10_init : MethodName := ⟨RX10, "<init>", "()V"⟩
abbrev cX10_isFull : ByteArray := prog_12_method_2_code
def yX10_isFull : MethodName := ⟨RX10, "isFull", "()Z"⟩
abbrev cX10_add : ByteArray := prog_12_method_3_code
def yX10_add : MethodName := ⟨RX10, "add", "(I)I"⟩
abbrev cX10_at : ByteArray := prog_12_method_4_code
def yX10_at : MethodName := ⟨RX10, "at", "(I)I"⟩
def RX11 : String := "WindLawyer"
def TX11 : u_T := fun k => match k with
  | 0 => ("WindLawyer", "now", "LWindLawyer$Island;", true)
  | 1 => ("WindLawyer", "firstImage", "LWindLawyer$Island;", true)
  | 2 => ("WindLawyer", "secondImage", "LWindLawyer$Island;", true)
  | 3 => ("WindLawyer", "firstKept", "Z", false)
  | 4 => ("WindLawyer", "secondKept", "Z", false)
  | 5 => ("WindLawyer", "text", "LWindLawyer$Text;", true)
  | 6 => ("WindLawyer", "blow", "LWindLawyer$Blow;", true)
  | 7 => ("WindLawyer", "reader", "LWindLawyer$Reader;", true)
  | 8 => ("WindLawyer", "forecast", "LWindLawyer$Forecast;", true)
  | 9 => ("WindLawyer", "session", "LWindLawyer$Session;", true)
  | 10 => ("WindLawyer", "evidence", "LWindLawyer$Evidence;", true)
  | 11 => ("WindLawyer", "fraction", "LWindLawyer$Fraction;", true)
  | 12 => ("WindLawyer", "refusedBad", "I", false)
  | 13 => ("WindLawyer", "refusedNo", "I", false)
  | _ => ("WindLawyer", "refusedFull", "I", false)
def tyX11 : Nat → FieldType := fun k => match k with
  | 0 => .object "WindLawyer$Island"
  | 1 => .object "WindLawyer$Island"
  | 2 => .object "WindLawyer$Island"
  | 3 => .boolean
  | 4 => .boolean
  | 5 => .object "WindLawyer$Text"
  | 6 => .object "WindLawyer$Blow"
  | 7 => .object "WindLawyer$Reader"
  | 8 => .object "WindLawyer$Forecast"
  | 9 => .object "WindLawyer$Session"
  | 10 => .object "WindLawyer$Evidence"
  | 11 => .object "WindLawyer$Fraction"
  | 12 => .int
  | 13 => .int
  | _ => .int
abbrev wsX110 : List Cond := u_ws RX11 TX11 15
theorem nmX11 : ∀ a, a < 15 → ∀ b, b < 15 → a ≠ b → (TX11 a).2.1 ≠ (TX11 b).2.1 := by decide +kernel
theorem tyX11_ok : ∀ k, k < 15 → parseFieldDescriptor (TX11 k).2.2.1 = some (tyX11 k) := by decide +kernel
abbrev cX11_init : ByteArray := prog_1_method_1_code
def yX11_init : MethodName := ⟨RX11, "<init>", "()V"⟩
abbrev cX11_island : ByteArray := prog_1_method_2_code
def yX11_island : MethodName := ⟨RX11, "island", "()I"⟩
abbrev cX11_wind : ByteArray := prog_1_method_3_code
def yX11_wind : MethodName := ⟨RX11, "wind", "(III)I"⟩
abbrev cX11_user : ByteArray := prog_1_method_4_code
def yX11_user : MethodName := ⟨RX11, "user", "(III)I"⟩
abbrev cX11_type : ByteArray := prog_1_method_5_code
def yX11_type : MethodName := ⟨RX11, "type", "(I)I"⟩
abbrev cX11_clear : ByteArray := prog_1_method_6_code
def yX11_clear : MethodName := ⟨RX11, "clear", "()I"⟩
abbrev cX11_read : ByteArray := prog_1_method_7_code
def yX11_read : MethodName := ⟨RX11, "read", "()I"⟩
abbrev cX11_hour : ByteArray := prog_1_method_8_code
def yX11_hour : MethodName := ⟨RX11, "hour", "(I)I"⟩
abbrev cX11_suit : ByteArray := prog_1_method_9_code
def yX11_suit : MethodName := ⟨RX11, "suit", "(II)I"⟩
abbrev cX11_hears : ByteArray := prog_1_method_10_code
def yX11_hears : MethodName := ⟨RX11, "hears", "(I)I"⟩
abbrev cX11_pays : ByteArray := prog_1_method_11_code
def yX11_pays : MethodName := ⟨RX11, "pays", "(I)I"⟩
abbrev cX11_undo : ByteArray := prog_1_method_12_code
def yX11_undo : MethodName := ⟨RX11, "undo", "()I"⟩
abbrev cX11_of : ByteArray := prog_1_method_13_code
def yX11_of : MethodName := ⟨RX11, "of", "(II)I"⟩
abbrev cX11_about : ByteArray := prog_1_method_14_code
def yX11_about : MethodName := ⟨RX11, "about", "(II)I"⟩
abbrev cX11_blows : ByteArray := prog_1_method_15_code
def yX11_blows : MethodName := ⟨RX11, "blows", "(III)I"⟩
abbrev cX11_takes : ByteArray := prog_1_method_16_code
def yX11_takes : MethodName := ⟨RX11, "takes", "(II)I"⟩
abbrev cX11_then : ByteArray := prog_1_method_17_code
def yX11_then : MethodName := ⟨RX11, "then", "(II)I"⟩
abbrev cX11_calm : ByteArray := prog_1_method_18_code
def yX11_calm : MethodName := ⟨RX11, "calm", "(I)I"⟩
abbrev cX11_place : ByteArray := prog_1_method_19_code
def yX11_place : MethodName := ⟨RX11, "place", "(III)I"⟩
abbrev cX11_share : ByteArray := prog_1_method_20_code
def yX11_share : MethodName := ⟨RX11, "share", "(I)I"⟩
abbrev cX11_award : ByteArray := prog_1_method_21_code
def yX11_award : MethodName := ⟨RX11, "award", "(I)I"⟩
abbrev cX11_court : ByteArray := prog_1_method_22_code
def yX11_court : MethodName := ⟨RX11, "court", "(I)I"⟩
abbrev cX11_settle : ByteArray := prog_1_method_23_code
def yX11_settle : MethodName := ⟨RX11, "settle", "()I"⟩
abbrev cX11_reading : ByteArray := prog_1_method_24_code
def yX11_reading : MethodName := ⟨RX11, "reading", "(III)I"⟩
abbrev cX11_stood : ByteArray := prog_1_method_25_code
def yX11_stood : MethodName := ⟨RX11, "stood", "(I)I"⟩
abbrev cX11_note : ByteArray := prog_1_method_26_code
def yX11_note : MethodName := ⟨RX11, "note", "(IIIII)I"⟩
abbrev cX11_mark : ByteArray := prog_1_method_27_code
def yX11_mark : MethodName := ⟨RX11, "mark", "(IIII)I"⟩
abbrev cX11_forget : ByteArray := prog_1_method_28_code
def yX11_forget : MethodName := ⟨RX11, "forget", "(I)I"⟩
abbrev cX11_is : ByteArray := prog_1_method_29_code
def yX11_is : MethodName := ⟨RX11, "is", "(I)I"⟩
abbrev cX11_look : ByteArray := prog_1_method_30_code
def yX11_look : MethodName := ⟨RX11, "look", "(I)I"⟩
abbrev cX11_kinds : ByteArray := prog_1_method_31_code
def yX11_kinds : MethodName := ⟨RX11, "kinds", "(I)I"⟩
abbrev cX11_tries : ByteArray := prog_1_method_32_code
def yX11_tries : MethodName := ⟨RX11, "tries", "(I)I"⟩
abbrev cX11_parties : ByteArray := prog_1_method_33_code
def yX11_parties : MethodName := ⟨RX11, "parties", "(I)I"⟩
abbrev cX11_calms : ByteArray := prog_1_method_34_code
def yX11_calms : MethodName := ⟨RX11, "calms", "(III)I"⟩
abbrev cX11_years : ByteArray := prog_1_method_35_code
def yX11_years : MethodName := ⟨RX11, "years", "(II)I"⟩
abbrev cX11_part : ByteArray := prog_1_method_36_code
def yX11_part : MethodName := ⟨RX11, "part", "(I)J"⟩
abbrev cX11_image : ByteArray := prog_1_method_37_code
def yX11_image : MethodName := ⟨RX11, "image", "(I)I"⟩
abbrev cX11_from : ByteArray := prog_1_method_38_code
def yX11_from : MethodName := ⟨RX11, "from", "(I)I"⟩
abbrev cX11_status : ByteArray := prog_1_method_39_code
def yX11_status : MethodName := ⟨RX11, "status", "(I)I"⟩
abbrev cX11_count : ByteArray := prog_1_method_40_code
def yX11_count : MethodName := ⟨RX11, "count", "(I)I"⟩
abbrev cX11_digest : ByteArray := prog_1_method_41_code
def yX11_digest : MethodName := ⟨RX11, "digest", "()J"⟩
abbrev cX11_howMany : ByteArray := prog_1_method_42_code
def yX11_howMany : MethodName := ⟨RX11, "howMany", "(I)I"⟩
abbrev cX11_refuse : ByteArray := prog_1_method_43_code
def yX11_refuse : MethodName := ⟨RX11, "refuse", "(I)I"⟩
abbrev cX11_isUser : ByteArray := prog_1_method_44_code
def yX11_isUser : MethodName := ⟨RX11, "isUser", "(I)Z"⟩
abbrev cX11_isSuit : ByteArray := prog_1_method_45_code
def yX11_isSuit : MethodName := ⟨RX11, "isSuit", "(I)Z"⟩
abbrev cX11_isKind : ByteArray := prog_1_method_46_code
def yX11_isKind : MethodName := ⟨RX11, "isKind", "(I)Z"⟩
abbrev cX11_isCell : ByteArray := prog_1_method_47_code
def yX11_isCell : MethodName := ⟨RX11, "isCell", "(I)Z"⟩
abbrev cX11_isHeight : ByteArray := prog_1_method_48_code
def yX11_isHeight : MethodName := ⟨RX11, "isHeight", "(I)Z"⟩
abbrev cX11_isHourOfDay : ByteArray := prog_1_method_49_code
def yX11_isHourOfDay : MethodName := ⟨RX11, "isHourOfDay", "(I)Z"⟩
abbrev cX11_within : ByteArray := prog_1_method_50_code
def yX11_within : MethodName := ⟨RX11, "within", "(III)Z"⟩
abbrev cX11_factorial : ByteArray := prog_1_method_51_code
def yX11_factorial : MethodName := ⟨RX11, "factorial", "(I)I"⟩
def RX12 : String := "WindLawyerModel"
def TX12 : u_T := fun k => match k with
  | 0 => ("WindLawyerModel", "now", "[I", true)
  | 1 => ("WindLawyerModel", "fresh", "[I", true)
  | 2 => ("WindLawyerModel", "images", "[I", true)
  | 3 => ("WindLawyerModel", "isKept", "[Z", true)
  | 4 => ("WindLawyerModel", "above", "J", false)
  | 5 => ("WindLawyerModel", "below", "J", false)
  | 6 => ("WindLawyerModel", "refusals", "[I", true)
  | 7 => ("WindLawyerModel", "took", "[I", true)
  | 8 => ("WindLawyerModel", "aheadOf", "[I", true)
  | 9 => ("WindLawyerModel", "behind", "[I", true)
  | 10 => ("WindLawyerModel", "text", "[I", true)
  | 11 => ("WindLawyerModel", "letters", "I", false)
  | 12 => ("WindLawyerModel", "at", "I", false)
  | 13 => ("WindLawyerModel", "fault", "I", false)
  | 14 => ("WindLawyerModel", "token", "I", false)
  | 15 => ("WindLawyerModel", "start", "I", false)
  | 16 => ("WindLawyerModel", "tried", "[I", true)
  | 17 => ("WindLawyerModel", "best", "[I", true)
  | _ => ("WindLawyerModel", "dues", "[I", true)
def tyX12 : Nat → FieldType := fun k => match k with
  | 0 => .array .int
  | 1 => .array .int
  | 2 => .array .int
  | 3 => .array .boolean
  | 4 => .long
  | 5 => .long
  | 6 => .array .int
  | 7 => .array .int
  | 8 => .array .int
  | 9 => .array .int
  | 10 => .array .int
  | 11 => .int
  | 12 => .int
  | 13 => .int
  | 14 => .int
  | 15 => .int
  | 16 => .array .int
  | 17 => .array .int
  | _ => .array .int
abbrev wsX120 : List Cond := u_ws RX12 TX12 19
theorem nmX12 : ∀ a, a < 19 → ∀ b, b < 19 → a ≠ b → (TX12 a).2.1 ≠ (TX12 b).2.1 := by decide +kernel
theorem tyX12_ok : ∀ k, k < 19 → parseFieldDescriptor (TX12 k).2.2.1 = some (tyX12 k) := by decide +kernel
abbrev cX12_init : ByteArray := prog_14_method_1_code
def yX12_init : MethodName := ⟨RX12, "<init>", "()V"⟩
abbrev cX12_in : ByteArray := prog_14_method_3_code
def yX12_in : MethodName := ⟨RX12, "in", "(JJJ)Z"⟩
abbrev cX12_bad : ByteArray := prog_14_method_4_code
def yX12_bad : MethodName := ⟨RX12, "bad", "()I"⟩
abbrev cX12_no : ByteArray := prog_14_method_5_code
def yX12_no : MethodName := ⟨RX12, "no", "()I"⟩
abbrev cX12_full : ByteArray := prog_14_method_6_code
def yX12_full : MethodName := ⟨RX12, "full", "()I"⟩
abbrev cX12_isUser : ByteArray := prog_14_method_7_code
def yX12_isUser : MethodName := ⟨RX12, "isUser", "(I)Z"⟩
abbrev cX12_isSuit : ByteArray := prog_14_method_8_code
def yX12_isSuit : MethodName := ⟨RX12, "isSuit", "(I)Z"⟩
abbrev cX12_userOf : ByteArray := prog_14_method_9_code
def yX12_userOf : MethodName := ⟨RX12, "userOf", "([III)I"⟩
abbrev cX12_suitOf : ByteArray := prog_14_method_10_code
def yX12_suitOf : MethodName := ⟨RX12, "suitOf", "([III)I"⟩
abbrev cX12_has : ByteArray := prog_14_method_11_code
def yX12_has : MethodName := ⟨RX12, "has", "(II)Z"⟩
abbrev cX12_bits : ByteArray := prog_14_method_12_code
def yX12_bits : MethodName := ⟨RX12, "bits", "(I)I"⟩
abbrev cX12_fraction : ByteArray := prog_14_method_13_code
def yX12_fraction : MethodName := ⟨RX12, "fraction", "(JJ)I"⟩
abbrev cX12_taken : ByteArray := prog_14_method_14_code
def yX12_taken : MethodName := ⟨RX12, "taken", "(III)I"⟩
abbrev cX12_rentOf : ByteArray := prog_14_method_15_code
def yX12_rentOf : MethodName := ⟨RX12, "rentOf", "(II)I"⟩
abbrev cX12_awardOf : ByteArray := prog_14_method_16_code
def yX12_awardOf : MethodName := ⟨RX12, "awardOf", "(III)I"⟩
abbrev cX12_blow : ByteArray := prog_14_method_17_code
def yX12_blow : MethodName := ⟨RX12, "blow", "([IIII)V"⟩
abbrev cX12_blowOf : ByteArray := prog_14_method_18_code
def yX12_blowOf : MethodName := ⟨RX12, "blowOf", "([III)V"⟩
abbrev cX12_everyone : ByteArray := prog_14_method_19_code
def yX12_everyone : MethodName := ⟨RX12, "everyone", "([I)I"⟩
abbrev cX12_dayOf : ByteArray := prog_14_method_20_code
def yX12_dayOf : MethodName := ⟨RX12, "dayOf", "([III)I"⟩
abbrev cX12_goOn : ByteArray := prog_14_method_21_code
def yX12_goOn : MethodName := ⟨RX12, "goOn", "([I)I"⟩
abbrev cX12_hoursOf : ByteArray := prog_14_method_22_code
def yX12_hoursOf : MethodName := ⟨RX12, "hoursOf", "([II)I"⟩
abbrev cX12_empty : ByteArray := prog_14_method_23_code
def yX12_empty : MethodName := ⟨RX12, "empty", "([I)V"⟩
abbrev cX12_layFresh : ByteArray := prog_14_method_24_code
def yX12_layFresh : MethodName := ⟨RX12, "layFresh", "()V"⟩
abbrev cX12_island : ByteArray := prog_14_method_25_code
def yX12_island : MethodName := ⟨RX12, "island", "()I"⟩
abbrev cX12_wind : ByteArray := prog_14_method_26_code
def yX12_wind : MethodName := ⟨RX12, "wind", "(III)I"⟩
abbrev cX12_comes : ByteArray := prog_14_method_27_code
def yX12_comes : MethodName := ⟨RX12, "comes", "([IIII)V"⟩
abbrev cX12_user : ByteArray := prog_14_method_28_code
def yX12_user : MethodName := ⟨RX12, "user", "(III)I"⟩
abbrev cX12_type : ByteArray := prog_14_method_29_code
def yX12_type : MethodName := ⟨RX12, "type", "(I)I"⟩
abbrev cX12_clear : ByteArray := prog_14_method_30_code
def yX12_clear : MethodName := ⟨RX12, "clear", "()I"⟩
abbrev cX12_isFigure : ByteArray := prog_14_method_31_code
def yX12_isFigure : MethodName := ⟨RX12, "isFigure", "(I)Z"⟩
abbrev cX12_isLetter : ByteArray := prog_14_method_32_code
def yX12_isLetter : MethodName := ⟨RX12, "isLetter", "(I)Z"⟩
abbrev cX12_wordBy : ByteArray := prog_14_method_33_code
def yX12_wordBy : MethodName := ⟨RX12, "wordBy", "(I)I"⟩
abbrev cX12_next : ByteArray := prog_14_method_34_code
def yX12_next : MethodName := ⟨RX12, "next", "()V"⟩
abbrev cX12_must : ByteArray := prog_14_method_35_code
def yX12_must : MethodName := ⟨RX12, "must", "(Z)V"⟩
abbrev cX12_goOnReading : ByteArray := prog_14_method_36_code
def yX12_goOnReading : MethodName := ⟨RX12, "goOnReading", "()V"⟩
abbrev cX12_number : ByteArray := prog_14_method_37_code
def yX12_number : MethodName := ⟨RX12, "number", "(II)I"⟩
abbrev cX12_end : ByteArray := prog_14_method_38_code
def yX12_end : MethodName := ⟨RX12, "end", "()V"⟩
abbrev cX12_readWinds : ByteArray := prog_14_method_39_code
def yX12_readWinds : MethodName := ⟨RX12, "readWinds", "()V"⟩
abbrev cX12_readUser : ByteArray := prog_14_method_40_code
def yX12_readUser : MethodName := ⟨RX12, "readUser", "()V"⟩
abbrev cX12_files : ByteArray := prog_14_method_41_code
def yX12_files : MethodName := ⟨RX12, "files", "([III)V"⟩
abbrev cX12_readSuit : ByteArray := prog_14_method_42_code
def yX12_readSuit : MethodName := ⟨RX12, "readSuit", "()V"⟩
abbrev cX12_readHours : ByteArray := prog_14_method_43_code
def yX12_readHours : MethodName := ⟨RX12, "readHours", "()V"⟩
abbrev cX12_read : ByteArray := prog_14_method_44_code
def yX12_read : MethodName := ⟨RX12, "read", "()I"⟩
abbrev cX12_keep : ByteArray := prog_14_method_45_code
def yX12_keep : MethodName := ⟨RX12, "keep", "()V"⟩
abbrev cX12_undo : ByteArray := prog_14_method_46_code
def yX12_undo : MethodName := ⟨RX12, "undo", "()I"⟩
abbrev cX12_hour : ByteArray := prog_14_method_47_code
def yX12_hour : MethodName := ⟨RX12, "hour", "(I)I"⟩
abbrev cX12_suit : ByteArray := prog_14_method_48_code
def yX12_suit : MethodName := ⟨RX12, "suit", "(II)I"⟩
abbrev cX12_isHeard : ByteArray := prog_14_method_49_code
def yX12_isHeard : MethodName := ⟨RX12, "isHeard", "(I)Z"⟩
abbrev cX12_ageOf : ByteArray := prog_14_method_50_code
def yX12_ageOf : MethodName := ⟨RX12, "ageOf", "(I)I"⟩
abbrev cX12_duesOf : ByteArray := prog_14_method_51_code
def yX12_duesOf : MethodName := ⟨RX12, "duesOf", "(I)I"⟩
abbrev cX12_awardNow : ByteArray := prog_14_method_52_code
def yX12_awardNow : MethodName := ⟨RX12, "awardNow", "(I)I"⟩
abbrev cX12_hears : ByteArray := prog_14_method_53_code
def yX12_hears : MethodName := ⟨RX12, "hears", "(I)I"⟩
abbrev cX12_pays : ByteArray := prog_14_method_54_code
def yX12_pays : MethodName := ⟨RX12, "pays", "(I)I"⟩
abbrev cX12_of : ByteArray := prog_14_method_55_code
def yX12_of : MethodName := ⟨RX12, "of", "(II)I"⟩
abbrev cX12_about : ByteArray := prog_14_method_56_code
def yX12_about : MethodName := ⟨RX12, "about", "(II)I"⟩
abbrev cX12_blows : ByteArray := prog_14_method_57_code
def yX12_blows : MethodName := ⟨RX12, "blows", "(III)I"⟩
abbrev cX12_takes : ByteArray := prog_14_method_58_code
def yX12_takes : MethodName := ⟨RX12, "takes", "(II)I"⟩
abbrev cX12_then : ByteArray := prog_14_method_59_code
def yX12_then : MethodName := ⟨RX12, "then", "(II)I"⟩
abbrev cX12_calm : ByteArray := prog_14_method_60_code
def yX12_calm : MethodName := ⟨RX12, "calm", "(I)I"⟩
abbrev cX12_place : ByteArray := prog_14_method_61_code
def yX12_place : MethodName := ⟨RX12, "place", "(III)I"⟩
abbrev cX12_orders : ByteArray := prog_14_method_62_code
def yX12_orders : MethodName := ⟨RX12, "orders", "(I)J"⟩
abbrev cX12_share : ByteArray := prog_14_method_63_code
def yX12_share : MethodName := ⟨RX12, "share", "(I)I"⟩
abbrev cX12_award : ByteArray := prog_14_method_64_code
def yX12_award : MethodName := ⟨RX12, "award", "(I)I"⟩
abbrev cX12_nextRow : ByteArray := prog_14_method_65_code
def yX12_nextRow : MethodName := ⟨RX12, "nextRow", "(I)Z"⟩
abbrev cX12_wonBy : ByteArray := prog_14_method_66_code
def yX12_wonBy : MethodName := ⟨RX12, "wonBy", "(I)I"⟩
abbrev cX12_court : ByteArray := prog_14_method_67_code
def yX12_court : MethodName := ⟨RX12, "court", "(I)I"⟩
abbrev cX12_settle : ByteArray := prog_14_method_68_code
def yX12_settle : MethodName := ⟨RX12, "settle", "()I"⟩
abbrev cX12_reading : ByteArray := prog_14_method_69_code
def yX12_reading : MethodName := ⟨RX12, "reading", "(III)I"⟩
abbrev cX12_isSo : ByteArray := prog_14_method_70_code
def yX12_isSo : MethodName := ⟨RX12, "isSo", "(I)Z"⟩
abbrev cX12_stood : ByteArray := prog_14_method_71_code
def yX12_stood : MethodName := ⟨RX12, "stood", "(I)I"⟩
abbrev cX12_note : ByteArray := prog_14_method_72_code
def yX12_note : MethodName := ⟨RX12, "note", "(IIIII)I"⟩
abbrev cX12_mark : ByteArray := prog_14_method_73_code
def yX12_mark : MethodName := ⟨RX12, "mark", "(IIII)I"⟩
abbrev cX12_forget : ByteArray := prog_14_method_74_code
def yX12_forget : MethodName := ⟨RX12, "forget", "(I)I"⟩
abbrev cX12_kindsBy : ByteArray := prog_14_method_75_code
def yX12_kindsBy : MethodName := ⟨RX12, "kindsBy", "(I)I"⟩
abbrev cX12_is : ByteArray := prog_14_method_76_code
def yX12_is : MethodName := ⟨RX12, "is", "(I)I"⟩
abbrev cX12_look : ByteArray := prog_14_method_77_code
def yX12_look : MethodName := ⟨RX12, "look", "(I)I"⟩
abbrev cX12_suitsBy : ByteArray := prog_14_method_78_code
def yX12_suitsBy : MethodName := ⟨RX12, "suitsBy", "(I)I"⟩
abbrev cX12_kinds : ByteArray := prog_14_method_79_code
def yX12_kinds : MethodName := ⟨RX12, "kinds", "(I)I"⟩
abbrev cX12_tries : ByteArray := prog_14_method_80_code
def yX12_tries : MethodName := ⟨RX12, "tries", "(I)I"⟩
abbrev cX12_gain : ByteArray := prog_14_method_81_code
def yX12_gain : MethodName := ⟨RX12, "gain", "(III)I"⟩
abbrev cX12_parties : ByteArray := prog_14_method_82_code
def yX12_parties : MethodName := ⟨RX12, "parties", "(I)I"⟩
abbrev cX12_calms : ByteArray := prog_14_method_83_code
def yX12_calms : MethodName := ⟨RX12, "calms", "(III)I"⟩
abbrev cX12_years : ByteArray := prog_14_method_84_code
def yX12_years : MethodName := ⟨RX12, "years", "(II)I"⟩
abbrev cX12_part : ByteArray := prog_14_method_85_code
def yX12_part : MethodName := ⟨RX12, "part", "(I)J"⟩
abbrev cX12_image : ByteArray := prog_14_method_86_code
def yX12_image : MethodName := ⟨RX12, "image", "(I)I"⟩
abbrev cX12_from : ByteArray := prog_14_method_87_code
def yX12_from : MethodName := ⟨RX12, "from", "(I)I"⟩
abbrev cX12_status : ByteArray := prog_14_method_88_code
def yX12_status : MethodName := ⟨RX12, "status", "(I)I"⟩
abbrev cX12_counted : ByteArray := prog_14_method_89_code
def yX12_counted : MethodName := ⟨RX12, "counted", "(I)I"⟩
abbrev cX12_count : ByteArray := prog_14_method_90_code
def yX12_count : MethodName := ⟨RX12, "count", "(I)I"⟩
abbrev cX12_digestOf : ByteArray := prog_14_method_91_code
def yX12_digestOf : MethodName := ⟨RX12, "digestOf", "(JII)J"⟩
abbrev cX12_digest : ByteArray := prog_14_method_92_code
def yX12_digest : MethodName := ⟨RX12, "digest", "()J"⟩
def RJ6 : String := "java/lang/Integer"
def TJ6 : u_T := fun k => match k with
  | _ => ("", "", "", false)
def tyJ6 : Nat → FieldType := fun k => match k with
  | _ => .int
abbrev wsJ60 : List Cond := u_ws RJ6 TJ6 0
abbrev cJ6_bitCount_0f7a4 : ByteArray := prog_15_method_49_code
def yJ6_bitCount_0f7a4 : MethodName := ⟨RJ6, "bitCount", "(I)I"⟩
def RJ9 : String := "java/lang/Math"
def TJ9 : u_T := fun k => match k with
  | _ => ("", "", "", false)
def tyJ9 : Nat → FieldType := fun k => match k with
  | _ => .int
abbrev wsJ90 : List Cond := u_ws RJ9 TJ9 0
abbrev cJ9_floorMod_7cf53 : ByteArray := prog_16_method_50_code
def yJ9_floorMod_7cf53 : MethodName := ⟨RJ9, "floorMod", "(II)I"⟩
abbrev cJ9_abs_067f4 : ByteArray := prog_16_method_61_code
def yJ9_abs_067f4 : MethodName := ⟨RJ9, "abs", "(J)J"⟩
abbrev cJ9_max_7cf53 : ByteArray := prog_16_method_65_code
def yJ9_max_7cf53 : MethodName := ⟨RJ9, "max", "(II)I"⟩
abbrev cJ9_min_7cf53 : ByteArray := prog_16_method_69_code
def yJ9_min_7cf53 : MethodName := ⟨RJ9, "min", "(II)I"⟩
def RJ0 : String := "java/lang/String"
def TJ0 : u_T := fun k => match k with
  | _ => ("", "", "", false)
def tyJ0 : Nat → FieldType := fun k => match k with
  | _ => .int
abbrev wsJ00 : List Cond := u_ws RJ0 TJ0 0
abbrev cJ0_length_8abf5 : ByteArray := prog_17_method_54_code
def yJ0_length_8abf5 : MethodName := ⟨RJ0, "length", "()I"⟩
abbrev cJ0_charAt_5068e : ByteArray := prog_17_method_56_code
def yJ0_charAt_5068e : MethodName := ⟨RJ0, "charAt", "(I)C"⟩
abbrev cJ0_coder_7d493 : ByteArray := prog_17_method_152_code
def yJ0_coder_7d493 : MethodName := ⟨RJ0, "coder", "()B"⟩
abbrev cJ0_isLatin1_aae02 : ByteArray := prog_17_method_154_code
def yJ0_isLatin1_aae02 : MethodName := ⟨RJ0, "isLatin1", "()Z"⟩
abbrev cJ0_checkIndex_df160 : ByteArray := prog_17_method_155_code
def yJ0_checkIndex_df160 : MethodName := ⟨RJ0, "checkIndex", "(II)V"⟩
def RJ1 : String := "java/lang/StringLatin1"
def TJ1 : u_T := fun k => match k with
  | _ => ("", "", "", false)
def tyJ1 : Nat → FieldType := fun k => match k with
  | _ => .int
abbrev wsJ10 : List Cond := u_ws RJ1 TJ1 0
abbrev cJ1_charAt_3b067 : ByteArray := prog_18_method_2_code
def yJ1_charAt_3b067 : MethodName := ⟨RJ1, "charAt", "([BI)C"⟩
def RJ2 : String := "java/lang/StringUTF16"
def TJ2 : u_T := fun k => match k with
  | _ => ("", "", "", false)
def tyJ2 : Nat → FieldType := fun k => match k with
  | _ => .int
abbrev wsJ20 : List Cond := u_ws RJ2 TJ2 0
abbrev cJ2_getChar_3b067 : ByteArray := prog_19_method_5_code
def yJ2_getChar_3b067 : MethodName := ⟨RJ2, "getChar", "([BI)C"⟩
abbrev cJ2_length_9d52b : ByteArray := prog_19_method_6_code
def yJ2_length_9d52b : MethodName := ⟨RJ2, "length", "([B)I"⟩
abbrev cJ2_charAt_3b067 : ByteArray := prog_19_method_83_code
def yJ2_charAt_3b067 : MethodName := ⟨RJ2, "charAt", "([BI)C"⟩
abbrev cJ2_checkIndex_2214a : ByteArray := prog_19_method_91_code
def yJ2_checkIndex_2214a : MethodName := ⟨RJ2, "checkIndex", "(I[B)V"⟩
def RJ10 : String := "java/lang/System"
def TJ10 : u_T := fun k => match k with
  | _ => ("", "", "", false)
def tyJ10 : Nat → FieldType := fun k => match k with
  | _ => .int
abbrev wsJ100 : List Cond := u_ws RJ10 TJ10 0
def RJ3 : String := "jdk/internal/util/Preconditions"
def TJ3 : u_T := fun k => match k with
  | _ => ("", "", "", false)
def tyJ3 : Nat → FieldType := fun k => match k with
  | _ => .int
abbrev wsJ30 : List Cond := u_ws RJ3 TJ3 0
abbrev cJ3_checkIndex_8e157 : ByteArray := prog_21_method_11_code
def yJ3_checkIndex_8e157 : MethodName := ⟨RJ3, "checkIndex", "(IILjava/util/function/BiFunction;)I"⟩
def RL : String := "WindLawyerLaw"
abbrev cL_law : ByteArray := code
def yL_law : MethodName := ⟨RL, "law", "([I)Z"⟩
abbrev vwCl : List vw_C := [(RX0, TX0, 3), (RX1, TX1, 5), (RX2, TX2, 5), (RX3, TX3, 2), (RX4, TX4, 10), (RX7, TX7, 7), (RX8, TX8, 4), (RX9, TX9, 4), (RX10, TX10, 2), (RX11, TX11, 15), (RX12, TX12, 19)]
/-- the words that every method may use: those of the tables that a callee may be handed -/
def TB : List Cond := lw_tbl.filter goodWord
theorem tb_of {w : Cond} (i : Nat) (h : lw_tbl[i]? = some w ∧ goodWord w = true) : w ∈ TB := List.mem_filter.mpr ⟨List.mem_of_getElem? h.1, h.2⟩
theorem tb_good : GoodIn TB TB := fun _ h => ⟨h, good_of_word (List.mem_filter.mp h).2⟩
theorem tb_lw {w : Cond} (h : w ∈ TB) : w ∈ lw_tbl := (List.mem_filter.mp h).1
