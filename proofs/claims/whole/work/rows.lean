section
-- ===== PART A: goes FIRST, ahead of the names: the tables' words, and 'selects' of the private methods out of them =====
/-- a private method of a class that the tables say can be made, by its rows of tables_1 -/
def lw_okq (q : MethodName × Nat) : Prop := (q.1.cls ≠ "java/lang/invoke/MethodHandle" ∧ q.1.cls ≠ "java/lang/invoke/VarHandle") ∧ Cond.instantiable q.1.cls q.2 ∈ tables_1 ∧ Cond.privateMethod q.1 ∈ tables_1 ∧ Cond.instanceMethod q.1 ∈ tables_1
theorem lw_p0 : lw_okq (⟨"WindLawyer", "refuse", "(I)I"⟩, 15) := ⟨⟨by decide +kernel, by decide +kernel⟩, List.mem_of_getElem? (i := 22) (by decide +kernel), List.mem_of_getElem? (i := 339) (by decide +kernel), List.mem_of_getElem? (i := 340) (by decide +kernel)⟩
theorem lw_p1 : lw_okq (⟨"WindLawyer$Reader", "goOn", "()V"⟩, 7) := ⟨⟨by decide +kernel, by decide +kernel⟩, List.mem_of_getElem? (i := 152) (by decide +kernel), List.mem_of_getElem? (i := 405) (by decide +kernel), List.mem_of_getElem? (i := 406) (by decide +kernel)⟩
theorem lw_p2 : lw_okq (⟨"WindLawyer$Reader", "runEnd", "(III)I"⟩, 7) := ⟨⟨by decide +kernel, by decide +kernel⟩, List.mem_of_getElem? (i := 152) (by decide +kernel), List.mem_of_getElem? (i := 409) (by decide +kernel), List.mem_of_getElem? (i := 410) (by decide +kernel)⟩
theorem lw_p3 : lw_okq (⟨"WindLawyer$Reader", "isWord", "(Ljava/lang/String;)Z"⟩, 7) := ⟨⟨by decide +kernel, by decide +kernel⟩, List.mem_of_getElem? (i := 152) (by decide +kernel), List.mem_of_getElem? (i := 419) (by decide +kernel), List.mem_of_getElem? (i := 420) (by decide +kernel)⟩
theorem lw_p4 : lw_okq (⟨"WindLawyer$Reader", "stops", "()Z"⟩, 7) := ⟨⟨by decide +kernel, by decide +kernel⟩, List.mem_of_getElem? (i := 152) (by decide +kernel), List.mem_of_getElem? (i := 471) (by decide +kernel), List.mem_of_getElem? (i := 472) (by decide +kernel)⟩
theorem lw_p5 : lw_okq (⟨"WindLawyer$Reader", "readWinds", "()Z"⟩, 7) := ⟨⟨by decide +kernel, by decide +kernel⟩, List.mem_of_getElem? (i := 152) (by decide +kernel), List.mem_of_getElem? (i := 476) (by decide +kernel), List.mem_of_getElem? (i := 477) (by decide +kernel)⟩
theorem lw_p6 : lw_okq (⟨"WindLawyer$Reader", "isNumber", "(II)Z"⟩, 7) := ⟨⟨by decide +kernel, by decide +kernel⟩, List.mem_of_getElem? (i := 152) (by decide +kernel), List.mem_of_getElem? (i := 480) (by decide +kernel), List.mem_of_getElem? (i := 481) (by decide +kernel)⟩
theorem lw_p7 : lw_okq (⟨"WindLawyer$Reader", "goesOnWith", "(II)Z"⟩, 7) := ⟨⟨by decide +kernel, by decide +kernel⟩, List.mem_of_getElem? (i := 152) (by decide +kernel), List.mem_of_getElem? (i := 484) (by decide +kernel), List.mem_of_getElem? (i := 485) (by decide +kernel)⟩
theorem lw_p8 : lw_okq (⟨"WindLawyer$Reader", "readUser", "()Z"⟩, 7) := ⟨⟨by decide +kernel, by decide +kernel⟩, List.mem_of_getElem? (i := 152) (by decide +kernel), List.mem_of_getElem? (i := 490) (by decide +kernel), List.mem_of_getElem? (i := 491) (by decide +kernel)⟩
theorem lw_p9 : lw_okq (⟨"WindLawyer$Reader", "readSuit", "()Z"⟩, 7) := ⟨⟨by decide +kernel, by decide +kernel⟩, List.mem_of_getElem? (i := 152) (by decide +kernel), List.mem_of_getElem? (i := 497) (by decide +kernel), List.mem_of_getElem? (i := 498) (by decide +kernel)⟩
theorem lw_p10 : lw_okq (⟨"WindLawyer$Reader", "readHours", "()Z"⟩, 7) := ⟨⟨by decide +kernel, by decide +kernel⟩, List.mem_of_getElem? (i := 152) (by decide +kernel), List.mem_of_getElem? (i := 506) (by decide +kernel), List.mem_of_getElem? (i := 507) (by decide +kernel)⟩
theorem lw_p11 : lw_okq (⟨"WindLawyer", "isUser", "(I)Z"⟩, 15) := ⟨⟨by decide +kernel, by decide +kernel⟩, List.mem_of_getElem? (i := 22) (by decide +kernel), List.mem_of_getElem? (i := 584) (by decide +kernel), List.mem_of_getElem? (i := 585) (by decide +kernel)⟩
theorem lw_p12 : lw_okq (⟨"WindLawyer", "isSuit", "(I)Z"⟩, 15) := ⟨⟨by decide +kernel, by decide +kernel⟩, List.mem_of_getElem? (i := 22) (by decide +kernel), List.mem_of_getElem? (i := 593) (by decide +kernel), List.mem_of_getElem? (i := 594) (by decide +kernel)⟩
theorem lw_p13 : lw_okq (⟨"WindLawyer$Forecast", "takenInDay", "(LWindLawyer$Island;LWindLawyer$Table;II)I"⟩, 5) := ⟨⟨by decide +kernel, by decide +kernel⟩, List.mem_of_getElem? (i := 183) (by decide +kernel), List.mem_of_getElem? (i := 677) (by decide +kernel), List.mem_of_getElem? (i := 678) (by decide +kernel)⟩
theorem lw_p14 : lw_okq (⟨"WindLawyer$Session", "wonInOrder", "(LWindLawyer$Island;)I"⟩, 4) := ⟨⟨by decide +kernel, by decide +kernel⟩, List.mem_of_getElem? (i := 209) (by decide +kernel), List.mem_of_getElem? (i := 735) (by decide +kernel), List.mem_of_getElem? (i := 736) (by decide +kernel)⟩
theorem lw_p15 : lw_okq (⟨"WindLawyer$Session", "goToNextOrder", "()Z"⟩, 4) := ⟨⟨by decide +kernel, by decide +kernel⟩, List.mem_of_getElem? (i := 209) (by decide +kernel), List.mem_of_getElem? (i := 743) (by decide +kernel), List.mem_of_getElem? (i := 744) (by decide +kernel)⟩
def lw_privs_1 : List (MethodName × Nat) := [(⟨"WindLawyer", "refuse", "(I)I"⟩, 15), (⟨"WindLawyer$Reader", "goOn", "()V"⟩, 7), (⟨"WindLawyer$Reader", "runEnd", "(III)I"⟩, 7), (⟨"WindLawyer$Reader", "isWord", "(Ljava/lang/String;)Z"⟩, 7), (⟨"WindLawyer$Reader", "stops", "()Z"⟩, 7), (⟨"WindLawyer$Reader", "readWinds", "()Z"⟩, 7), (⟨"WindLawyer$Reader", "isNumber", "(II)Z"⟩, 7), (⟨"WindLawyer$Reader", "goesOnWith", "(II)Z"⟩, 7), (⟨"WindLawyer$Reader", "readUser", "()Z"⟩, 7), (⟨"WindLawyer$Reader", "readSuit", "()Z"⟩, 7), (⟨"WindLawyer$Reader", "readHours", "()Z"⟩, 7), (⟨"WindLawyer", "isUser", "(I)Z"⟩, 15), (⟨"WindLawyer", "isSuit", "(I)Z"⟩, 15), (⟨"WindLawyer$Forecast", "takenInDay", "(LWindLawyer$Island;LWindLawyer$Table;II)I"⟩, 5), (⟨"WindLawyer$Session", "wonInOrder", "(LWindLawyer$Island;)I"⟩, 4), (⟨"WindLawyer$Session", "goToNextOrder", "()Z"⟩, 4)]
theorem lw_r1 : ∀ q ∈ lw_privs_1, lw_okq q := List.forall_mem_cons.mpr ⟨lw_p0, List.forall_mem_cons.mpr ⟨lw_p1, List.forall_mem_cons.mpr ⟨lw_p2, List.forall_mem_cons.mpr ⟨lw_p3, List.forall_mem_cons.mpr ⟨lw_p4, List.forall_mem_cons.mpr ⟨lw_p5, List.forall_mem_cons.mpr ⟨lw_p6, List.forall_mem_cons.mpr ⟨lw_p7, List.forall_mem_cons.mpr ⟨lw_p8, List.forall_mem_cons.mpr ⟨lw_p9, List.forall_mem_cons.mpr ⟨lw_p10, List.forall_mem_cons.mpr ⟨lw_p11, List.forall_mem_cons.mpr ⟨lw_p12, List.forall_mem_cons.mpr ⟨lw_p13, List.forall_mem_cons.mpr ⟨lw_p14, List.forall_mem_cons.mpr ⟨lw_p15, fun _ h => absurd h List.not_mem_nil⟩⟩⟩⟩⟩⟩⟩⟩⟩⟩⟩⟩⟩⟩⟩⟩
theorem lw_p16 : lw_okq (⟨"WindLawyer$Session", "swap", "(II)V"⟩, 4) := ⟨⟨by decide +kernel, by decide +kernel⟩, List.mem_of_getElem? (i := 209) (by decide +kernel), List.mem_of_getElem? (i := 747) (by decide +kernel), List.mem_of_getElem? (i := 748) (by decide +kernel)⟩
theorem lw_p17 : lw_okq (⟨"WindLawyer$Evidence", "fitsReadings", "(LWindLawyer$Island;I)Z"⟩, 5) := ⟨⟨by decide +kernel, by decide +kernel⟩, List.mem_of_getElem? (i := 231) (by decide +kernel), List.mem_of_getElem? (i := 771) (by decide +kernel), List.mem_of_getElem? (i := 772) (by decide +kernel)⟩
theorem lw_p18 : lw_okq (⟨"WindLawyer$Evidence", "mostAlike", "(I)I"⟩, 5) := ⟨⟨by decide +kernel, by decide +kernel⟩, List.mem_of_getElem? (i := 231) (by decide +kernel), List.mem_of_getElem? (i := 825) (by decide +kernel), List.mem_of_getElem? (i := 826) (by decide +kernel)⟩
theorem lw_p19 : lw_okq (⟨"WindLawyer", "howMany", "(I)I"⟩, 15) := ⟨⟨by decide +kernel, by decide +kernel⟩, List.mem_of_getElem? (i := 22) (by decide +kernel), List.mem_of_getElem? (i := 911) (by decide +kernel), List.mem_of_getElem? (i := 912) (by decide +kernel)⟩
theorem lw_p20 : lw_okq (⟨"WindLawyerModel", "bad", "()I"⟩, 19) := ⟨⟨by decide +kernel, by decide +kernel⟩, List.mem_of_getElem? (i := 931) (by decide +kernel), List.mem_of_getElem? (i := 1012) (by decide +kernel), List.mem_of_getElem? (i := 1013) (by decide +kernel)⟩
theorem lw_p21 : lw_okq (⟨"WindLawyerModel", "full", "()I"⟩, 19) := ⟨⟨by decide +kernel, by decide +kernel⟩, List.mem_of_getElem? (i := 931) (by decide +kernel), List.mem_of_getElem? (i := 1023) (by decide +kernel), List.mem_of_getElem? (i := 1024) (by decide +kernel)⟩
theorem lw_p22 : lw_okq (⟨"WindLawyerModel", "next", "()V"⟩, 19) := ⟨⟨by decide +kernel, by decide +kernel⟩, List.mem_of_getElem? (i := 931) (by decide +kernel), List.mem_of_getElem? (i := 1043) (by decide +kernel), List.mem_of_getElem? (i := 1044) (by decide +kernel)⟩
theorem lw_p23 : lw_okq (⟨"WindLawyerModel", "wordBy", "(I)I"⟩, 19) := ⟨⟨by decide +kernel, by decide +kernel⟩, List.mem_of_getElem? (i := 931) (by decide +kernel), List.mem_of_getElem? (i := 1053) (by decide +kernel), List.mem_of_getElem? (i := 1054) (by decide +kernel)⟩
theorem lw_p24 : lw_okq (⟨"WindLawyerModel", "must", "(Z)V"⟩, 19) := ⟨⟨by decide +kernel, by decide +kernel⟩, List.mem_of_getElem? (i := 931) (by decide +kernel), List.mem_of_getElem? (i := 1057) (by decide +kernel), List.mem_of_getElem? (i := 1058) (by decide +kernel)⟩
theorem lw_p25 : lw_okq (⟨"WindLawyerModel", "goOnReading", "()V"⟩, 19) := ⟨⟨by decide +kernel, by decide +kernel⟩, List.mem_of_getElem? (i := 931) (by decide +kernel), List.mem_of_getElem? (i := 1061) (by decide +kernel), List.mem_of_getElem? (i := 1062) (by decide +kernel)⟩
theorem lw_p26 : lw_okq (⟨"WindLawyerModel", "end", "()V"⟩, 19) := ⟨⟨by decide +kernel, by decide +kernel⟩, List.mem_of_getElem? (i := 931) (by decide +kernel), List.mem_of_getElem? (i := 1065) (by decide +kernel), List.mem_of_getElem? (i := 1066) (by decide +kernel)⟩
theorem lw_p27 : lw_okq (⟨"WindLawyerModel", "readWinds", "()V"⟩, 19) := ⟨⟨by decide +kernel, by decide +kernel⟩, List.mem_of_getElem? (i := 931) (by decide +kernel), List.mem_of_getElem? (i := 1069) (by decide +kernel), List.mem_of_getElem? (i := 1070) (by decide +kernel)⟩
theorem lw_p28 : lw_okq (⟨"WindLawyerModel", "number", "(II)I"⟩, 19) := ⟨⟨by decide +kernel, by decide +kernel⟩, List.mem_of_getElem? (i := 931) (by decide +kernel), List.mem_of_getElem? (i := 1073) (by decide +kernel), List.mem_of_getElem? (i := 1074) (by decide +kernel)⟩
theorem lw_p29 : lw_okq (⟨"WindLawyerModel", "readUser", "()V"⟩, 19) := ⟨⟨by decide +kernel, by decide +kernel⟩, List.mem_of_getElem? (i := 931) (by decide +kernel), List.mem_of_getElem? (i := 1077) (by decide +kernel), List.mem_of_getElem? (i := 1078) (by decide +kernel)⟩
theorem lw_p30 : lw_okq (⟨"WindLawyerModel", "readSuit", "()V"⟩, 19) := ⟨⟨by decide +kernel, by decide +kernel⟩, List.mem_of_getElem? (i := 931) (by decide +kernel), List.mem_of_getElem? (i := 1081) (by decide +kernel), List.mem_of_getElem? (i := 1082) (by decide +kernel)⟩
theorem lw_p31 : lw_okq (⟨"WindLawyerModel", "readHours", "()V"⟩, 19) := ⟨⟨by decide +kernel, by decide +kernel⟩, List.mem_of_getElem? (i := 931) (by decide +kernel), List.mem_of_getElem? (i := 1088) (by decide +kernel), List.mem_of_getElem? (i := 1089) (by decide +kernel)⟩
def lw_privs_2 : List (MethodName × Nat) := [(⟨"WindLawyer$Session", "swap", "(II)V"⟩, 4), (⟨"WindLawyer$Evidence", "fitsReadings", "(LWindLawyer$Island;I)Z"⟩, 5), (⟨"WindLawyer$Evidence", "mostAlike", "(I)I"⟩, 5), (⟨"WindLawyer", "howMany", "(I)I"⟩, 15), (⟨"WindLawyerModel", "bad", "()I"⟩, 19), (⟨"WindLawyerModel", "full", "()I"⟩, 19), (⟨"WindLawyerModel", "next", "()V"⟩, 19), (⟨"WindLawyerModel", "wordBy", "(I)I"⟩, 19), (⟨"WindLawyerModel", "must", "(Z)V"⟩, 19), (⟨"WindLawyerModel", "goOnReading", "()V"⟩, 19), (⟨"WindLawyerModel", "end", "()V"⟩, 19), (⟨"WindLawyerModel", "readWinds", "()V"⟩, 19), (⟨"WindLawyerModel", "number", "(II)I"⟩, 19), (⟨"WindLawyerModel", "readUser", "()V"⟩, 19), (⟨"WindLawyerModel", "readSuit", "()V"⟩, 19), (⟨"WindLawyerModel", "readHours", "()V"⟩, 19)]
theorem lw_r2 : ∀ q ∈ lw_privs_2, lw_okq q := List.forall_mem_cons.mpr ⟨lw_p16, List.forall_mem_cons.mpr ⟨lw_p17, List.forall_mem_cons.mpr ⟨lw_p18, List.forall_mem_cons.mpr ⟨lw_p19, List.forall_mem_cons.mpr ⟨lw_p20, List.forall_mem_cons.mpr ⟨lw_p21, List.forall_mem_cons.mpr ⟨lw_p22, List.forall_mem_cons.mpr ⟨lw_p23, List.forall_mem_cons.mpr ⟨lw_p24, List.forall_mem_cons.mpr ⟨lw_p25, List.forall_mem_cons.mpr ⟨lw_p26, List.forall_mem_cons.mpr ⟨lw_p27, List.forall_mem_cons.mpr ⟨lw_p28, List.forall_mem_cons.mpr ⟨lw_p29, List.forall_mem_cons.mpr ⟨lw_p30, List.forall_mem_cons.mpr ⟨lw_p31, fun _ h => absurd h List.not_mem_nil⟩⟩⟩⟩⟩⟩⟩⟩⟩⟩⟩⟩⟩⟩⟩⟩
theorem lw_p32 : lw_okq (⟨"WindLawyerModel", "hoursOf", "([II)I"⟩, 19) := ⟨⟨by decide +kernel, by decide +kernel⟩, List.mem_of_getElem? (i := 931) (by decide +kernel), List.mem_of_getElem? (i := 1092) (by decide +kernel), List.mem_of_getElem? (i := 1093) (by decide +kernel)⟩
theorem lw_p33 : lw_okq (⟨"WindLawyerModel", "goOn", "([I)I"⟩, 19) := ⟨⟨by decide +kernel, by decide +kernel⟩, List.mem_of_getElem? (i := 931) (by decide +kernel), List.mem_of_getElem? (i := 1096) (by decide +kernel), List.mem_of_getElem? (i := 1097) (by decide +kernel)⟩
theorem lw_p34 : lw_okq (⟨"WindLawyerModel", "blowOf", "([III)V"⟩, 19) := ⟨⟨by decide +kernel, by decide +kernel⟩, List.mem_of_getElem? (i := 931) (by decide +kernel), List.mem_of_getElem? (i := 1103) (by decide +kernel), List.mem_of_getElem? (i := 1104) (by decide +kernel)⟩
theorem lw_p35 : lw_okq (⟨"WindLawyerModel", "blow", "([IIII)V"⟩, 19) := ⟨⟨by decide +kernel, by decide +kernel⟩, List.mem_of_getElem? (i := 931) (by decide +kernel), List.mem_of_getElem? (i := 1107) (by decide +kernel), List.mem_of_getElem? (i := 1108) (by decide +kernel)⟩
theorem lw_p36 : lw_okq (⟨"WindLawyerModel", "no", "()I"⟩, 19) := ⟨⟨by decide +kernel, by decide +kernel⟩, List.mem_of_getElem? (i := 931) (by decide +kernel), List.mem_of_getElem? (i := 1127) (by decide +kernel), List.mem_of_getElem? (i := 1128) (by decide +kernel)⟩
theorem lw_p37 : lw_okq (⟨"WindLawyerModel", "keep", "()V"⟩, 19) := ⟨⟨by decide +kernel, by decide +kernel⟩, List.mem_of_getElem? (i := 931) (by decide +kernel), List.mem_of_getElem? (i := 1136) (by decide +kernel), List.mem_of_getElem? (i := 1137) (by decide +kernel)⟩
theorem lw_p38 : lw_okq (⟨"WindLawyerModel", "isUser", "(I)Z"⟩, 19) := ⟨⟨by decide +kernel, by decide +kernel⟩, List.mem_of_getElem? (i := 931) (by decide +kernel), List.mem_of_getElem? (i := 1144) (by decide +kernel), List.mem_of_getElem? (i := 1145) (by decide +kernel)⟩
theorem lw_p39 : lw_okq (⟨"WindLawyerModel", "isSuit", "(I)Z"⟩, 19) := ⟨⟨by decide +kernel, by decide +kernel⟩, List.mem_of_getElem? (i := 931) (by decide +kernel), List.mem_of_getElem? (i := 1152) (by decide +kernel), List.mem_of_getElem? (i := 1153) (by decide +kernel)⟩
theorem lw_p40 : lw_okq (⟨"WindLawyerModel", "isHeard", "(I)Z"⟩, 19) := ⟨⟨by decide +kernel, by decide +kernel⟩, List.mem_of_getElem? (i := 931) (by decide +kernel), List.mem_of_getElem? (i := 1156) (by decide +kernel), List.mem_of_getElem? (i := 1157) (by decide +kernel)⟩
theorem lw_p41 : lw_okq (⟨"WindLawyerModel", "awardNow", "(I)I"⟩, 19) := ⟨⟨by decide +kernel, by decide +kernel⟩, List.mem_of_getElem? (i := 931) (by decide +kernel), List.mem_of_getElem? (i := 1163) (by decide +kernel), List.mem_of_getElem? (i := 1164) (by decide +kernel)⟩
theorem lw_p42 : lw_okq (⟨"WindLawyerModel", "duesOf", "(I)I"⟩, 19) := ⟨⟨by decide +kernel, by decide +kernel⟩, List.mem_of_getElem? (i := 931) (by decide +kernel), List.mem_of_getElem? (i := 1167) (by decide +kernel), List.mem_of_getElem? (i := 1168) (by decide +kernel)⟩
theorem lw_p43 : lw_okq (⟨"WindLawyerModel", "ageOf", "(I)I"⟩, 19) := ⟨⟨by decide +kernel, by decide +kernel⟩, List.mem_of_getElem? (i := 931) (by decide +kernel), List.mem_of_getElem? (i := 1171) (by decide +kernel), List.mem_of_getElem? (i := 1172) (by decide +kernel)⟩
theorem lw_p44 : lw_okq (⟨"WindLawyerModel", "layFresh", "()V"⟩, 19) := ⟨⟨by decide +kernel, by decide +kernel⟩, List.mem_of_getElem? (i := 931) (by decide +kernel), List.mem_of_getElem? (i := 1203) (by decide +kernel), List.mem_of_getElem? (i := 1204) (by decide +kernel)⟩
theorem lw_p45 : lw_okq (⟨"WindLawyerModel", "dayOf", "([III)I"⟩, 19) := ⟨⟨by decide +kernel, by decide +kernel⟩, List.mem_of_getElem? (i := 931) (by decide +kernel), List.mem_of_getElem? (i := 1215) (by decide +kernel), List.mem_of_getElem? (i := 1216) (by decide +kernel)⟩
theorem lw_p46 : lw_okq (⟨"WindLawyerModel", "fraction", "(JJ)I"⟩, 19) := ⟨⟨by decide +kernel, by decide +kernel⟩, List.mem_of_getElem? (i := 931) (by decide +kernel), List.mem_of_getElem? (i := 1229) (by decide +kernel), List.mem_of_getElem? (i := 1230) (by decide +kernel)⟩
theorem lw_p47 : lw_okq (⟨"WindLawyerModel", "wonBy", "(I)I"⟩, 19) := ⟨⟨by decide +kernel, by decide +kernel⟩, List.mem_of_getElem? (i := 931) (by decide +kernel), List.mem_of_getElem? (i := 1241) (by decide +kernel), List.mem_of_getElem? (i := 1242) (by decide +kernel)⟩
def lw_privs_3 : List (MethodName × Nat) := [(⟨"WindLawyerModel", "hoursOf", "([II)I"⟩, 19), (⟨"WindLawyerModel", "goOn", "([I)I"⟩, 19), (⟨"WindLawyerModel", "blowOf", "([III)V"⟩, 19), (⟨"WindLawyerModel", "blow", "([IIII)V"⟩, 19), (⟨"WindLawyerModel", "no", "()I"⟩, 19), (⟨"WindLawyerModel", "keep", "()V"⟩, 19), (⟨"WindLawyerModel", "isUser", "(I)Z"⟩, 19), (⟨"WindLawyerModel", "isSuit", "(I)Z"⟩, 19), (⟨"WindLawyerModel", "isHeard", "(I)Z"⟩, 19), (⟨"WindLawyerModel", "awardNow", "(I)I"⟩, 19), (⟨"WindLawyerModel", "duesOf", "(I)I"⟩, 19), (⟨"WindLawyerModel", "ageOf", "(I)I"⟩, 19), (⟨"WindLawyerModel", "layFresh", "()V"⟩, 19), (⟨"WindLawyerModel", "dayOf", "([III)I"⟩, 19), (⟨"WindLawyerModel", "fraction", "(JJ)I"⟩, 19), (⟨"WindLawyerModel", "wonBy", "(I)I"⟩, 19)]
theorem lw_r3 : ∀ q ∈ lw_privs_3, lw_okq q := List.forall_mem_cons.mpr ⟨lw_p32, List.forall_mem_cons.mpr ⟨lw_p33, List.forall_mem_cons.mpr ⟨lw_p34, List.forall_mem_cons.mpr ⟨lw_p35, List.forall_mem_cons.mpr ⟨lw_p36, List.forall_mem_cons.mpr ⟨lw_p37, List.forall_mem_cons.mpr ⟨lw_p38, List.forall_mem_cons.mpr ⟨lw_p39, List.forall_mem_cons.mpr ⟨lw_p40, List.forall_mem_cons.mpr ⟨lw_p41, List.forall_mem_cons.mpr ⟨lw_p42, List.forall_mem_cons.mpr ⟨lw_p43, List.forall_mem_cons.mpr ⟨lw_p44, List.forall_mem_cons.mpr ⟨lw_p45, List.forall_mem_cons.mpr ⟨lw_p46, List.forall_mem_cons.mpr ⟨lw_p47, fun _ h => absurd h List.not_mem_nil⟩⟩⟩⟩⟩⟩⟩⟩⟩⟩⟩⟩⟩⟩⟩⟩
theorem lw_p48 : lw_okq (⟨"WindLawyerModel", "nextRow", "(I)Z"⟩, 19) := ⟨⟨by decide +kernel, by decide +kernel⟩, List.mem_of_getElem? (i := 931) (by decide +kernel), List.mem_of_getElem? (i := 1245) (by decide +kernel), List.mem_of_getElem? (i := 1246) (by decide +kernel)⟩
theorem lw_p49 : lw_okq (⟨"WindLawyerModel", "isSo", "(I)Z"⟩, 19) := ⟨⟨by decide +kernel, by decide +kernel⟩, List.mem_of_getElem? (i := 931) (by decide +kernel), List.mem_of_getElem? (i := 1262) (by decide +kernel), List.mem_of_getElem? (i := 1263) (by decide +kernel)⟩
theorem lw_p50 : lw_okq (⟨"WindLawyerModel", "kindsBy", "(I)I"⟩, 19) := ⟨⟨by decide +kernel, by decide +kernel⟩, List.mem_of_getElem? (i := 931) (by decide +kernel), List.mem_of_getElem? (i := 1284) (by decide +kernel), List.mem_of_getElem? (i := 1285) (by decide +kernel)⟩
theorem lw_p51 : lw_okq (⟨"WindLawyerModel", "suitsBy", "(I)I"⟩, 19) := ⟨⟨by decide +kernel, by decide +kernel⟩, List.mem_of_getElem? (i := 931) (by decide +kernel), List.mem_of_getElem? (i := 1296) (by decide +kernel), List.mem_of_getElem? (i := 1297) (by decide +kernel)⟩
theorem lw_p52 : lw_okq (⟨"WindLawyerModel", "gain", "(III)I"⟩, 19) := ⟨⟨by decide +kernel, by decide +kernel⟩, List.mem_of_getElem? (i := 931) (by decide +kernel), List.mem_of_getElem? (i := 1308) (by decide +kernel), List.mem_of_getElem? (i := 1309) (by decide +kernel)⟩
theorem lw_p53 : lw_okq (⟨"WindLawyerModel", "counted", "(I)I"⟩, 19) := ⟨⟨by decide +kernel, by decide +kernel⟩, List.mem_of_getElem? (i := 931) (by decide +kernel), List.mem_of_getElem? (i := 1351) (by decide +kernel), List.mem_of_getElem? (i := 1352) (by decide +kernel)⟩
theorem lw_p54 : lw_okq (⟨"WindLawyerModel", "digestOf", "(JII)J"⟩, 19) := ⟨⟨by decide +kernel, by decide +kernel⟩, List.mem_of_getElem? (i := 931) (by decide +kernel), List.mem_of_getElem? (i := 1361) (by decide +kernel), List.mem_of_getElem? (i := 1362) (by decide +kernel)⟩
def lw_privs_4 : List (MethodName × Nat) := [(⟨"WindLawyerModel", "nextRow", "(I)Z"⟩, 19), (⟨"WindLawyerModel", "isSo", "(I)Z"⟩, 19), (⟨"WindLawyerModel", "kindsBy", "(I)I"⟩, 19), (⟨"WindLawyerModel", "suitsBy", "(I)I"⟩, 19), (⟨"WindLawyerModel", "gain", "(III)I"⟩, 19), (⟨"WindLawyerModel", "counted", "(I)I"⟩, 19), (⟨"WindLawyerModel", "digestOf", "(JII)J"⟩, 19)]
theorem lw_r4 : ∀ q ∈ lw_privs_4, lw_okq q := List.forall_mem_cons.mpr ⟨lw_p48, List.forall_mem_cons.mpr ⟨lw_p49, List.forall_mem_cons.mpr ⟨lw_p50, List.forall_mem_cons.mpr ⟨lw_p51, List.forall_mem_cons.mpr ⟨lw_p52, List.forall_mem_cons.mpr ⟨lw_p53, List.forall_mem_cons.mpr ⟨lw_p54, fun _ h => absurd h List.not_mem_nil⟩⟩⟩⟩⟩⟩⟩
def lw_privs : List (MethodName × Nat) := lw_privs_1 ++ (lw_privs_2 ++ (lw_privs_3 ++ (lw_privs_4)))
def lw_tbl : List Cond := k2_sels lw_privs ++ tables_1
theorem lw_privs_ok : ∀ q ∈ lw_privs, lw_okq q := by
  show ∀ q ∈ lw_privs_1 ++ (lw_privs_2 ++ (lw_privs_3 ++ (lw_privs_4))), lw_okq q
  exact List.forall_mem_append.mpr ⟨lw_r1, List.forall_mem_append.mpr ⟨lw_r2, List.forall_mem_append.mpr ⟨lw_r3, lw_r4⟩⟩⟩

-- ===== names =====
def RX0 : String := "WindLawyer$Blow"
def TX0 : u_T := fun k => match k with
  | 0 => ("WindLawyer$Blow", "ahead", "[I", true)
  | 1 => ("WindLawyer$Blow", "behind", "[I", true)
  | _ => ("WindLawyer$Blow", "taken", "[I", true)
def tyX0 : Nat → FieldType := fun k => match k with
  | 0 => .array .int
  | 1 => .array .int
  | _ => .array .int
abbrev wsX00 : List Cond := u_ws RX0 TX0 3
theorem nmX0 : ∀ a, a < 3 → ∀ b, b < 3 → a ≠ b → (TX0 a).2.1 ≠ (TX0 b).2.1 := by decide +kernel
theorem tyX0_ok : ∀ k, k < 3 → parseFieldDescriptor (TX0 k).2.2.1 = some (tyX0 k) := by decide +kernel
abbrev cX0_init : ByteArray := prog_2_method_1_code
def yX0_init : MethodName := ⟨RX0, "<init>", "()V"⟩
abbrev cX0_goInHour : ByteArray := prog_2_method_2_code
def yX0_goInHour : MethodName := ⟨RX0, "goInHour", "(LWindLawyer$Island;II)V"⟩
abbrev cX0_go : ByteArray := prog_2_method_3_code
def yX0_go : MethodName := ⟨RX0, "go", "(LWindLawyer$Table;III)V"⟩
abbrev cX0_takenBy : ByteArray := prog_2_method_4_code
def yX0_takenBy : MethodName := ⟨RX0, "takenBy", "(I)I"⟩
abbrev cX0_leftBehind : ByteArray := prog_2_method_5_code
def yX0_leftBehind : MethodName := ⟨RX0, "leftBehind", "(I)I"⟩
abbrev cX0_rentOf : ByteArray := prog_2_method_6_code
def yX0_rentOf : MethodName := ⟨RX0, "rentOf", "(LWindLawyer$Table;I)I"⟩
abbrev cX0_rentOfAll : ByteArray := prog_2_method_7_code
def yX0_rentOfAll : MethodName := ⟨RX0, "rentOfAll", "(LWindLawyer$Table;)I"⟩
abbrev cX0_takenByFirst : ByteArray := prog_2_method_8_code
def yX0_takenByFirst : MethodName := ⟨RX0, "takenByFirst", "(I)I"⟩
def RX1 : String := "WindLawyer$Evidence"
def TX1 : u_T := fun k => match k with
  | 0 => ("WindLawyer$Evidence", "blow", "LWindLawyer$Blow;", true)
  | 1 => ("WindLawyer$Evidence", "answers", "[I", true)
  | 2 => ("WindLawyer$Evidence", "sets", "I", false)
  | 3 => ("WindLawyer$Evidence", "inAll", "I", false)
  | _ => ("WindLawyer$Evidence", "inSome", "I", false)
def tyX1 : Nat → FieldType := fun k => match k with
  | 0 => .object "WindLawyer$Blow"
  | 1 => .array .int
  | 2 => .int
  | 3 => .int
  | _ => .int
abbrev wsX10 : List Cond := u_ws RX1 TX1 5
theorem nmX1 : ∀ a, a < 5 → ∀ b, b < 5 → a ≠ b → (TX1 a).2.1 ≠ (TX1 b).2.1 := by decide +kernel
theorem tyX1_ok : ∀ k, k < 5 → parseFieldDescriptor (TX1 k).2.2.1 = some (tyX1 k) := by decide +kernel
abbrev cX1_init : ByteArray := prog_3_method_1_code
def yX1_init : MethodName := ⟨RX1, "<init>", "(LWindLawyer$Blow;)V"⟩
abbrev cX1_findSets : ByteArray := prog_3_method_2_code
def yX1_findSets : MethodName := ⟨RX1, "findSets", "(LWindLawyer$Island;)V"⟩
abbrev cX1_fitsReadings : ByteArray := prog_3_method_3_code
def yX1_fitsReadings : MethodName := ⟨RX1, "fitsReadings", "(LWindLawyer$Island;I)Z"⟩
abbrev cX1_userKinds : ByteArray := prog_3_method_4_code
def yX1_userKinds : MethodName := ⟨RX1, "userKinds", "(LWindLawyer$Island;I)I"⟩
abbrev cX1_fitsNotes : ByteArray := prog_3_method_5_code
def yX1_fitsNotes : MethodName := ⟨RX1, "fitsNotes", "(LWindLawyer$Table;II)Z"⟩
abbrev cX1_nextWind : ByteArray := prog_3_method_6_code
def yX1_nextWind : MethodName := ⟨RX1, "nextWind", "(LWindLawyer$Island;I)I"⟩
abbrev cX1_suitKinds : ByteArray := prog_3_method_7_code
def yX1_suitKinds : MethodName := ⟨RX1, "suitKinds", "(LWindLawyer$Island;I)I"⟩
abbrev cX1_fitsMarks : ByteArray := prog_3_method_8_code
def yX1_fitsMarks : MethodName := ⟨RX1, "fitsMarks", "(LWindLawyer$Table;II)Z"⟩
abbrev cX1_nextTry : ByteArray := prog_3_method_9_code
def yX1_nextTry : MethodName := ⟨RX1, "nextTry", "(LWindLawyer$Island;I)I"⟩
abbrev cX1_mostAlike : ByteArray := prog_3_method_10_code
def yX1_mostAlike : MethodName := ⟨RX1, "mostAlike", "(I)I"⟩
def RX2 : String := "WindLawyer$Forecast"
def TX2 : u_T := fun k => match k with
  | 0 => ("WindLawyer$Forecast", "blow", "LWindLawyer$Blow;", true)
  | 1 => ("WindLawyer$Forecast", "guests", "LWindLawyer$Table;", true)
  | 2 => ("WindLawyer$Forecast", "totals", "[I", true)
  | 3 => ("WindLawyer$Forecast", "bestCell", "I", false)
  | _ => ("WindLawyer$Forecast", "leastLoss", "I", false)
def tyX2 : Nat → FieldType := fun k => match k with
  | 0 => .object "WindLawyer$Blow"
  | 1 => .object "WindLawyer$Table"
  | 2 => .array .int
  | 3 => .int
  | _ => .int
abbrev wsX20 : List Cond := u_ws RX2 TX2 5
theorem nmX2 : ∀ a, a < 5 → ∀ b, b < 5 → a ≠ b → (TX2 a).2.1 ≠ (TX2 b).2.1 := by decide +kernel
theorem tyX2_ok : ∀ k, k < 5 → parseFieldDescriptor (TX2 k).2.2.1 = some (tyX2 k) := by decide +kernel
abbrev cX2_init : ByteArray := prog_4_method_1_code
def yX2_init : MethodName := ⟨RX2, "<init>", "(LWindLawyer$Blow;)V"⟩
abbrev cX2_duesBehind : ByteArray := prog_4_method_2_code
def yX2_duesBehind : MethodName := ⟨RX2, "duesBehind", "(LWindLawyer$Island;II)I"⟩
abbrev cX2_firstCalm : ByteArray := prog_4_method_3_code
def yX2_firstCalm : MethodName := ⟨RX2, "firstCalm", "(LWindLawyer$Island;I)I"⟩
abbrev cX2_takenInNext : ByteArray := prog_4_method_4_code
def yX2_takenInNext : MethodName := ⟨RX2, "takenInNext", "(LWindLawyer$Island;II)I"⟩
abbrev cX2_findPlace : ByteArray := prog_4_method_5_code
def yX2_findPlace : MethodName := ⟨RX2, "findPlace", "(LWindLawyer$Island;II)V"⟩
abbrev cX2_sumOverOrders : ByteArray := prog_4_method_6_code
def yX2_sumOverOrders : MethodName := ⟨RX2, "sumOverOrders", "(LWindLawyer$Island;I)J"⟩
abbrev cX2_takenInDay : ByteArray := prog_4_method_7_code
def yX2_takenInDay : MethodName := ⟨RX2, "takenInDay", "(LWindLawyer$Island;LWindLawyer$Table;II)I"⟩
abbrev cX2_rentBySeed : ByteArray := prog_4_method_8_code
def yX2_rentBySeed : MethodName := ⟨RX2, "rentBySeed", "(LWindLawyer$Island;II)I"⟩
def RX3 : String := "WindLawyer$Fraction"
def TX3 : u_T := fun k => match k with
  | 0 => ("WindLawyer$Fraction", "above", "J", false)
  | _ => ("WindLawyer$Fraction", "below", "J", false)
def tyX3 : Nat → FieldType := fun k => match k with
  | 0 => .long
  | _ => .long
abbrev wsX30 : List Cond := u_ws RX3 TX3 2
theorem nmX3 : ∀ a, a < 2 → ∀ b, b < 2 → a ≠ b → (TX3 a).2.1 ≠ (TX3 b).2.1 := by decide +kernel
theorem tyX3_ok : ∀ k, k < 2 → parseFieldDescriptor (TX3 k).2.2.1 = some (tyX3 k) := by decide +kernel
abbrev cX3_init : ByteArray := prog_5_method_1_code
def yX3_init : MethodName := ⟨RX3, "<init>", "()V"⟩
abbrev cX3_set : ByteArray := prog_5_method_2_code
def yX3_set : MethodName := ⟨RX3, "set", "(JJ)V"⟩
abbrev cX3_greatestDivisor : ByteArray := prog_5_method_3_code
def yX3_greatestDivisor : MethodName := ⟨RX3, "greatestDivisor", "(JJ)J"⟩
def RX4 : String := "WindLawyer$Island"
def TX4 : u_T := fun k => match k with
  | 0 => ("WindLawyer$Island", "strengths", "[I", true)
  | 1 => ("WindLawyer$Island", "sides", "[I", true)
  | 2 => ("WindLawyer$Island", "users", "LWindLawyer$Table;", true)
  | 3 => ("WindLawyer$Island", "suits", "LWindLawyer$Table;", true)
  | 4 => ("WindLawyer$Island", "readings", "LWindLawyer$Table;", true)
  | 5 => ("WindLawyer$Island", "notes", "LWindLawyer$Table;", true)
  | 6 => ("WindLawyer$Island", "marks", "LWindLawyer$Table;", true)
  | 7 => ("WindLawyer$Island", "past", "LWindLawyer$Table;", true)
  | 8 => ("WindLawyer$Island", "hour", "I", false)
  | _ => ("WindLawyer$Island", "won", "I", false)
def tyX4 : Nat → FieldType := fun k => match k with
  | 0 => .array .int
  | 1 => .array .int
  | 2 => .object "WindLawyer$Table"
  | 3 => .object "WindLawyer$Table"
  | 4 => .object "WindLawyer$Table"
  | 5 => .object "WindLawyer$Table"
  | 6 => .object "WindLawyer$Table"
  | 7 => .object "WindLawyer$Table"
  | 8 => .int
  | _ => .int
abbrev wsX40 : List Cond := u_ws RX4 TX4 10
theorem nmX4 : ∀ a, a < 10 → ∀ b, b < 10 → a ≠ b → (TX4 a).2.1 ≠ (TX4 b).2.1 := by decide +kernel
theorem tyX4_ok : ∀ k, k < 10 → parseFieldDescriptor (TX4 k).2.2.1 = some (tyX4 k) := by decide +kernel
abbrev cX4_init : ByteArray := prog_6_method_1_code
def yX4_init : MethodName := ⟨RX4, "<init>", "()V"⟩
abbrev cX4_reset : ByteArray := prog_6_method_2_code
def yX4_reset : MethodName := ⟨RX4, "reset", "()V"⟩
abbrev cX4_copyFrom : ByteArray := prog_6_method_3_code
def yX4_copyFrom : MethodName := ⟨RX4, "copyFrom", "(LWindLawyer$Island;)V"⟩
abbrev cX4_tellWind : ByteArray := prog_6_method_4_code
def yX4_tellWind : MethodName := ⟨RX4, "tellWind", "(III)V"⟩
abbrev cX4_addUser : ByteArray := prog_6_method_5_code
def yX4_addUser : MethodName := ⟨RX4, "addUser", "(III)I"⟩
abbrev cX4_fileSuit : ByteArray := prog_6_method_6_code
def yX4_fileSuit : MethodName := ⟨RX4, "fileSuit", "(II)I"⟩
abbrev cX4_addReading : ByteArray := prog_6_method_7_code
def yX4_addReading : MethodName := ⟨RX4, "addReading", "(III)I"⟩
abbrev cX4_addNote : ByteArray := prog_6_method_8_code
def yX4_addNote : MethodName := ⟨RX4, "addNote", "(IIIII)I"⟩
abbrev cX4_addMark : ByteArray := prog_6_method_9_code
def yX4_addMark : MethodName := ⟨RX4, "addMark", "(IIII)I"⟩
abbrev cX4_passHours : ByteArray := prog_6_method_10_code
def yX4_passHours : MethodName := ⟨RX4, "passHours", "(ILWindLawyer$Blow;)I"⟩
abbrev cX4_hearSuit : ByteArray := prog_6_method_11_code
def yX4_hearSuit : MethodName := ⟨RX4, "hearSuit", "(I)I"⟩
abbrev cX4_isHeard : ByteArray := prog_6_method_12_code
def yX4_isHeard : MethodName := ⟨RX4, "isHeard", "(I)Z"⟩
abbrev cX4_awardNow : ByteArray := prog_6_method_13_code
def yX4_awardNow : MethodName := ⟨RX4, "awardNow", "(I)I"⟩
abbrev cX4_duesOf : ByteArray := prog_6_method_14_code
def yX4_duesOf : MethodName := ⟨RX4, "duesOf", "(I)I"⟩
abbrev cX4_duesOfAll : ByteArray := prog_6_method_15_code
def yX4_duesOfAll : MethodName := ⟨RX4, "duesOfAll", "()I"⟩
abbrev cX4_remember : ByteArray := prog_6_method_16_code
def yX4_remember : MethodName := ⟨RX4, "remember", "()V"⟩
abbrev cX4_takeBack : ByteArray := prog_6_method_17_code
def yX4_takeBack : MethodName := ⟨RX4, "takeBack", "()V"⟩
def RX5 : String := "WindLawyer$Kinds"
def TX5 : u_T := fun k => match k with
  | _ => ("", "", "", false)
def tyX5 : Nat → FieldType := fun k => match k with
  | _ => .int
abbrev wsX50 : List Cond := u_ws RX5 TX5 0
theorem nmX5 : ∀ a, a < 0 → ∀ b, b < 0 → a ≠ b → (TX5 a).2.1 ≠ (TX5 b).2.1 := by decide +kernel
theorem tyX5_ok : ∀ k, k < 0 → parseFieldDescriptor (TX5 k).2.2.1 = some (tyX5 k) := by decide +kernel
abbrev cX5_takenOf : ByteArray := prog_7_method_2_code
def yX5_takenOf : MethodName := ⟨RX5, "takenOf", "(III)I"⟩
abbrev cX5_rentOf : ByteArray := prog_7_method_3_code
def yX5_rentOf : MethodName := ⟨RX5, "rentOf", "(II)I"⟩
abbrev cX5_awardOf : ByteArray := prog_7_method_4_code
def yX5_awardOf : MethodName := ⟨RX5, "awardOf", "(III)I"⟩
def RX6 : String := "WindLawyer$Parties"
def TX6 : u_T := fun k => match k with
  | _ => ("", "", "", false)
def tyX6 : Nat → FieldType := fun k => match k with
  | _ => .int
abbrev wsX60 : List Cond := u_ws RX6 TX6 0
theorem nmX6 : ∀ a, a < 0 → ∀ b, b < 0 → a ≠ b → (TX6 a).2.1 ≠ (TX6 b).2.1 := by decide +kernel
theorem tyX6_ok : ∀ k, k < 0 → parseFieldDescriptor (TX6 k).2.2.1 = some (tyX6 k) := by decide +kernel
abbrev cX6_restingPairs : ByteArray := prog_8_method_2_code
def yX6_restingPairs : MethodName := ⟨RX6, "restingPairs", "(II)I"⟩
abbrev cX6_toWind : ByteArray := prog_8_method_3_code
def yX6_toWind : MethodName := ⟨RX6, "toWind", "(IIII)I"⟩
def RX7 : String := "WindLawyer$Reader"
def TX7 : u_T := fun k => match k with
  | 0 => ("WindLawyer$Reader", "text", "LWindLawyer$Text;", true)
  | 1 => ("WindLawyer$Reader", "blow", "LWindLawyer$Blow;", true)
  | 2 => ("WindLawyer$Reader", "island", "LWindLawyer$Island;", true)
  | 3 => ("WindLawyer$Reader", "start", "I", false)
  | 4 => ("WindLawyer$Reader", "next", "I", false)
  | 5 => ("WindLawyer$Reader", "sort", "I", false)
  | _ => ("WindLawyer$Reader", "value", "I", false)
def tyX7 : Nat → FieldType := fun k => match k with
  | 0 => .object "WindLawyer$Text"
  | 1 => .object "WindLawyer$Blow"
  | 2 => .object "WindLawyer$Island"
  | 3 => .int
  | 4 => .int
  | 5 => .int
  | _ => .int
abbrev wsX70 : List Cond := u_ws RX7 TX7 7
theorem nmX7 : ∀ a, a < 7 → ∀ b, b < 7 → a ≠ b → (TX7 a).2.1 ≠ (TX7 b).2.1 := by decide +kernel
theorem tyX7_ok : ∀ k, k < 7 → parseFieldDescriptor (TX7 k).2.2.1 = some (tyX7 k) := by decide +kernel
abbrev cX7_init : ByteArray := prog_9_method_1_code
def yX7_init : MethodName := ⟨RX7, "<init>", "(LWindLawyer$Text;LWindLawyer$Blow;)V"⟩
abbrev cX7_parse : ByteArray := prog_9_method_2_code
def yX7_parse : MethodName := ⟨RX7, "parse", "()I"⟩
abbrev cX7_readWinds : ByteArray := prog_9_method_3_code
def yX7_readWinds : MethodName := ⟨RX7, "readWinds", "()Z"⟩
abbrev cX7_readUser : ByteArray := prog_9_method_4_code
def yX7_readUser : MethodName := ⟨RX7, "readUser", "()Z"⟩
abbrev cX7_readSuit : ByteArray := prog_9_method_5_code
def yX7_readSuit : MethodName := ⟨RX7, "readSuit", "()Z"⟩
abbrev cX7_readHours : ByteArray := prog_9_method_6_code
def yX7_readHours : MethodName := ⟨RX7, "readHours", "()Z"⟩
abbrev cX7_goesOnWith : ByteArray := prog_9_method_7_code
def yX7_goesOnWith : MethodName := ⟨RX7, "goesOnWith", "(II)Z"⟩
abbrev cX7_stops : ByteArray := prog_9_method_8_code
def yX7_stops : MethodName := ⟨RX7, "stops", "()Z"⟩
abbrev cX7_isNumber : ByteArray := prog_9_method_9_code
def yX7_isNumber : MethodName := ⟨RX7, "isNumber", "(II)Z"⟩
abbrev cX7_isWord : ByteArray := prog_9_method_10_code
def yX7_isWord : MethodName := ⟨RX7, "isWord", "(Ljava/lang/String;)Z"⟩
abbrev cX7_goOn : ByteArray := prog_9_method_11_code
def yX7_goOn : MethodName := ⟨RX7, "goOn", "()V"⟩
abbrev cX7_runEnd : ByteArray := prog_9_method_12_code
def yX7_runEnd : MethodName := ⟨RX7, "runEnd", "(III)I"⟩
def RX8 : String := "WindLawyer$Session"
def TX8 : u_T := fun k => match k with
  | 0 => ("WindLawyer$Session", "order", "[I", true)
  | 1 => ("WindLawyer$Session", "best", "[I", true)
  | 2 => ("WindLawyer$Session", "length", "I", false)
  | _ => ("WindLawyer$Session", "most", "I", false)
def tyX8 : Nat → FieldType := fun k => match k with
  | 0 => .array .int
  | 1 => .array .int
  | 2 => .int
  | _ => .int
abbrev wsX80 : List Cond := u_ws RX8 TX8 4
theorem nmX8 : ∀ a, a < 4 → ∀ b, b < 4 → a ≠ b → (TX8 a).2.1 ≠ (TX8 b).2.1 := by decide +kernel
theorem tyX8_ok : ∀ k, k < 4 → parseFieldDescriptor (TX8 k).2.2.1 = some (tyX8 k) := by decide +kernel
abbrev cX8_init : ByteArray := prog_10_method_1_code
def yX8_init : MethodName := ⟨RX8, "<init>", "()V"⟩
abbrev cX8_findBestOrder : ByteArray := prog_10_method_2_code
def yX8_findBestOrder : MethodName := ⟨RX8, "findBestOrder", "(LWindLawyer$Island;)V"⟩
abbrev cX8_wonInOrder : ByteArray := prog_10_method_3_code
def yX8_wonInOrder : MethodName := ⟨RX8, "wonInOrder", "(LWindLawyer$Island;)I"⟩
abbrev cX8_goToNextOrder : ByteArray := prog_10_method_4_code
def yX8_goToNextOrder : MethodName := ⟨RX8, "goToNextOrder", "()Z"⟩
abbrev cX8_swap : ByteArray := prog_10_method_5_code
def yX8_swap : MethodName := ⟨RX8, "swap", "(II)V"⟩
def RX9 : String := "WindLawyer$Table"
def TX9 : u_T := fun k => match k with
  | 0 => ("WindLawyer$Table", "width", "I", true)
  | 1 => ("WindLawyer$Table", "limit", "I", true)
  | 2 => ("WindLawyer$Table", "cells", "[I", true)
  | _ => ("WindLawyer$Table", "size", "I", false)
def tyX9 : Nat → FieldType := fun k => match k with
  | 0 => .int
  | 1 => .int
  | 2 => .array .int
  | _ => .int
abbrev wsX90 : List Cond := u_ws RX9 TX9 4
theorem nmX9 : ∀ a, a < 4 → ∀ b, b < 4 → a ≠ b → (TX9 a).2.1 ≠ (TX9 b).2.1 := by decide +kernel
theorem tyX9_ok : ∀ k, k < 4 → parseFieldDescriptor (TX9 k).2.2.1 = some (tyX9 k) := by decide +kernel
abbrev cX9_init : ByteArray := prog_11_method_1_code
def yX9_init : MethodName := ⟨RX9, "<init>", "(II)V"⟩
abbrev cX9_isFull : ByteArray := prog_11_method_2_code
def yX9_isFull : MethodName := ⟨RX9, "isFull", "()Z"⟩
abbrev cX9_at : ByteArray := prog_11_method_3_code
def yX9_at : MethodName := ⟨RX9, "at", "(II)I"⟩
abbrev cX9_put : ByteArray := prog_11_method_4_code
def yX9_put : MethodName := ⟨RX9, "put", "(III)V"⟩
abbrev cX9_open : ByteArray := prog_11_method_5_code
def yX9_open : MethodName := ⟨RX9, "open", "()I"⟩
abbrev cX9_dropFirst : ByteArray := prog_11_method_6_code
def yX9_dropFirst : MethodName := ⟨RX9, "dropFirst", "()V"⟩
abbrev cX9_empty : ByteArray := prog_11_method_7_code
def yX9_empty : MethodName := ⟨RX9, "empty", "()I"⟩
abbrev cX9_copyFrom : ByteArray := prog_11_method_8_code
def yX9_copyFrom : MethodName := ⟨RX9, "copyFrom", "(LWindLawyer$Table;)V"⟩
abbrev cX9_digestBehind : ByteArray := prog_11_method_9_code
def yX9_digestBehind : MethodName := ⟨RX9, "digestBehind", "(J)J"⟩
def RX10 : String := "WindLawyer$Text"
def TX10 : u_T := fun k => match k with
  | 0 => ("WindLawyer$Text", "bytes", "[I", true)
  | _ => ("WindLawyer$Text", "size", "I", false)
def tyX10 : Nat → FieldType := fun k => match k with
  | 0 => .array .int
  | _ => .int
abbrev wsX100 : List Cond := u_ws RX10 TX10 2
theorem nmX10 : ∀ a, a < 2 → ∀ b, b < 2 → a ≠ b → (TX10 a).2.1 ≠ (TX10 b).2.1 := by decide +kernel
theorem tyX10_ok : ∀ k, k < 2 → parseFieldDescriptor (TX10 k).2.2.1 = some (tyX10 k) := by decide +kernel
abbrev cX10_init : ByteArray := prog_12_method_1_code
def yX10_init : MethodName := ⟨RX10, "<init>", "()V"⟩
abbrev cX10_isFull : ByteArray := prog_12_method_2_code
def yX10_isFull : MethodName := ⟨RX10, "isFull", "()Z"⟩
abbrev cX10_add : ByteArray := prog_12_method_3_code
def yX10_add : MethodName := ⟨RX10, "add", "(I)I"⟩
abbrev cX10_at : ByteArray := prog_12_method_4_code
def yX10_at : MethodName := ⟨RX10, "at", "(I)I"⟩
def RX11 : String := "WindLawyer"
def TX11 : u_T := fun k => match k with
  | 0 => ("WindLawyer", "now", "LWindLawyer$Island;", true)
  | 1 => ("WindLawyer", "firstImage", "LWindLawyer$Island;", true)
  | 2 => ("WindLawyer", "secondImage", "LWindLawyer$Island;", true)
  | 3 => ("WindLawyer", "firstKept", "Z", false)
  | 4 => ("WindLawyer", "secondKept", "Z", false)
  | 5 => ("WindLawyer", "text", "LWindLawyer$Text;", true)
  | 6 => ("WindLawyer", "blow", "LWindLawyer$Blow;", true)
  | 7 => ("WindLawyer", "reader", "LWindLawyer$Reader;", true)
  | 8 => ("WindLawyer", "forecast", "LWindLawyer$Forecast;", true)
  | 9 => ("WindLawyer", "session", "LWindLawyer$Session;", true)
  | 10 => ("WindLawyer", "evidence", "LWindLawyer$Evidence;", true)
  | 11 => ("WindLawyer", "fraction", "LWindLawyer$Fraction;", true)
  | 12 => ("WindLawyer", "refusedBad", "I", false)
  | 13 => ("WindLawyer", "refusedNo", "I", false)
  | _ => ("WindLawyer", "refusedFull", "I", false)
def tyX11 : Nat → FieldType := fun k => match k with
  | 0 => .object "WindLawyer$Island"
  | 1 => .object "WindLawyer$Island"
  | 2 => .object "WindLawyer$Island"
  | 3 => .boolean
  | 4 => .boolean
  | 5 => .object "WindLawyer$Text"
  | 6 => .object "WindLawyer$Blow"
  | 7 => .object "WindLawyer$Reader"
  | 8 => .object "WindLawyer$Forecast"
  | 9 => .object "WindLawyer$Session"
  | 10 => .object "WindLawyer$Evidence"
  | 11 => .object "WindLawyer$Fraction"
  | 12 => .int
  | 13 => .int
  | _ => .int
abbrev wsX110 : List Cond := u_ws RX11 TX11 15
theorem nmX11 : ∀ a, a < 15 → ∀ b, b < 15 → a ≠ b → (TX11 a).2.1 ≠ (TX11 b).2.1 := by decide +kernel
theorem tyX11_ok : ∀ k, k < 15 → parseFieldDescriptor (TX11 k).2.2.1 = some (tyX11 k) := by decide +kernel
abbrev cX11_init : ByteArray := prog_1_method_1_code
def yX11_init : MethodName := ⟨RX11, "<init>", "()V"⟩
abbrev cX11_island : ByteArray := prog_1_method_2_code
def yX11_island : MethodName := ⟨RX11, "island", "()I"⟩
abbrev cX11_wind : ByteArray := prog_1_method_3_code
def yX11_wind : MethodName := ⟨RX11, "wind", "(III)I"⟩
abbrev cX11_user : ByteArray := prog_1_method_4_code
def yX11_user : MethodName := ⟨RX11, "user", "(III)I"⟩
abbrev cX11_type : ByteArray := prog_1_method_5_code
def yX11_type : MethodName := ⟨RX11, "type", "(I)I"⟩
abbrev cX11_clear : ByteArray := prog_1_method_6_code
def yX11_clear : MethodName := ⟨RX11, "clear", "()I"⟩
abbrev cX11_read : ByteArray := prog_1_method_7_code
def yX11_read : MethodName := ⟨RX11, "read", "()I"⟩
abbrev cX11_hour : ByteArray := prog_1_method_8_code
def yX11_hour : MethodName := ⟨RX11, "hour", "(I)I"⟩
abbrev cX11_suit : ByteArray := prog_1_method_9_code
def yX11_suit : MethodName := ⟨RX11, "suit", "(II)I"⟩
abbrev cX11_hears : ByteArray := prog_1_method_10_code
def yX11_hears : MethodName := ⟨RX11, "hears", "(I)I"⟩
abbrev cX11_pays : ByteArray := prog_1_method_11_code
def yX11_pays : MethodName := ⟨RX11, "pays", "(I)I"⟩
abbrev cX11_undo : ByteArray := prog_1_method_12_code
def yX11_undo : MethodName := ⟨RX11, "undo", "()I"⟩
abbrev cX11_of : ByteArray := prog_1_method_13_code
def yX11_of : MethodName := ⟨RX11, "of", "(II)I"⟩
abbrev cX11_about : ByteArray := prog_1_method_14_code
def yX11_about : MethodName := ⟨RX11, "about", "(II)I"⟩
abbrev cX11_blows : ByteArray := prog_1_method_15_code
def yX11_blows : MethodName := ⟨RX11, "blows", "(III)I"⟩
abbrev cX11_takes : ByteArray := prog_1_method_16_code
def yX11_takes : MethodName := ⟨RX11, "takes", "(II)I"⟩
abbrev cX11_then : ByteArray := prog_1_method_17_code
def yX11_then : MethodName := ⟨RX11, "then", "(II)I"⟩
abbrev cX11_calm : ByteArray := prog_1_method_18_code
def yX11_calm : MethodName := ⟨RX11, "calm", "(I)I"⟩
abbrev cX11_place : ByteArray := prog_1_method_19_code
def yX11_place : MethodName := ⟨RX11, "place", "(III)I"⟩
abbrev cX11_share : ByteArray := prog_1_method_20_code
def yX11_share : MethodName := ⟨RX11, "share", "(I)I"⟩
abbrev cX11_award : ByteArray := prog_1_method_21_code
def yX11_award : MethodName := ⟨RX11, "award", "(I)I"⟩
abbrev cX11_court : ByteArray := prog_1_method_22_code
def yX11_court : MethodName := ⟨RX11, "court", "(I)I"⟩
abbrev cX11_settle : ByteArray := prog_1_method_23_code
def yX11_settle : MethodName := ⟨RX11, "settle", "()I"⟩
abbrev cX11_reading : ByteArray := prog_1_method_24_code
def yX11_reading : MethodName := ⟨RX11, "reading", "(III)I"⟩
abbrev cX11_stood : ByteArray := prog_1_method_25_code
def yX11_stood : MethodName := ⟨RX11, "stood", "(I)I"⟩
abbrev cX11_note : ByteArray := prog_1_method_26_code
def yX11_note : MethodName := ⟨RX11, "note", "(IIIII)I"⟩
abbrev cX11_mark : ByteArray := prog_1_method_27_code
def yX11_mark : MethodName := ⟨RX11, "mark", "(IIII)I"⟩
abbrev cX11_forget : ByteArray := prog_1_method_28_code
def yX11_forget : MethodName := ⟨RX11, "forget", "(I)I"⟩
abbrev cX11_is : ByteArray := prog_1_method_29_code
def yX11_is : MethodName := ⟨RX11, "is", "(I)I"⟩
abbrev cX11_look : ByteArray := prog_1_method_30_code
def yX11_look : MethodName := ⟨RX11, "look", "(I)I"⟩
abbrev cX11_kinds : ByteArray := prog_1_method_31_code
def yX11_kinds : MethodName := ⟨RX11, "kinds", "(I)I"⟩
abbrev cX11_tries : ByteArray := prog_1_method_32_code
def yX11_tries : MethodName := ⟨RX11, "tries", "(I)I"⟩
abbrev cX11_parties : ByteArray := prog_1_method_33_code
def yX11_parties : MethodName := ⟨RX11, "parties", "(I)I"⟩
abbrev cX11_calms : ByteArray := prog_1_method_34_code
def yX11_calms : MethodName := ⟨RX11, "calms", "(III)I"⟩
abbrev cX11_years : ByteArray := prog_1_method_35_code
def yX11_years : MethodName := ⟨RX11, "years", "(II)I"⟩
abbrev cX11_part : ByteArray := prog_1_method_36_code
def yX11_part : MethodName := ⟨RX11, "part", "(I)J"⟩
abbrev cX11_image : ByteArray := prog_1_method_37_code
def yX11_image : MethodName := ⟨RX11, "image", "(I)I"⟩
abbrev cX11_from : ByteArray := prog_1_method_38_code
def yX11_from : MethodName := ⟨RX11, "from", "(I)I"⟩
abbrev cX11_status : ByteArray := prog_1_method_39_code
def yX11_status : MethodName := ⟨RX11, "status", "(I)I"⟩
abbrev cX11_count : ByteArray := prog_1_method_40_code
def yX11_count : MethodName := ⟨RX11, "count", "(I)I"⟩
abbrev cX11_digest : ByteArray := prog_1_method_41_code
def yX11_digest : MethodName := ⟨RX11, "digest", "()J"⟩
abbrev cX11_howMany : ByteArray := prog_1_method_42_code
def yX11_howMany : MethodName := ⟨RX11, "howMany", "(I)I"⟩
abbrev cX11_refuse : ByteArray := prog_1_method_43_code
def yX11_refuse : MethodName := ⟨RX11, "refuse", "(I)I"⟩
abbrev cX11_isUser : ByteArray := prog_1_method_44_code
def yX11_isUser : MethodName := ⟨RX11, "isUser", "(I)Z"⟩
abbrev cX11_isSuit : ByteArray := prog_1_method_45_code
def yX11_isSuit : MethodName := ⟨RX11, "isSuit", "(I)Z"⟩
abbrev cX11_isKind : ByteArray := prog_1_method_46_code
def yX11_isKind : MethodName := ⟨RX11, "isKind", "(I)Z"⟩
abbrev cX11_isCell : ByteArray := prog_1_method_47_code
def yX11_isCell : MethodName := ⟨RX11, "isCell", "(I)Z"⟩
abbrev cX11_isHeight : ByteArray := prog_1_method_48_code
def yX11_isHeight : MethodName := ⟨RX11, "isHeight", "(I)Z"⟩
abbrev cX11_isHourOfDay : ByteArray := prog_1_method_49_code
def yX11_isHourOfDay : MethodName := ⟨RX11, "isHourOfDay", "(I)Z"⟩
abbrev cX11_within : ByteArray := prog_1_method_50_code
def yX11_within : MethodName := ⟨RX11, "within", "(III)Z"⟩
abbrev cX11_factorial : ByteArray := prog_1_method_51_code
def yX11_factorial : MethodName := ⟨RX11, "factorial", "(I)I"⟩
def RX12 : String := "WindLawyerModel"
def TX12 : u_T := fun k => match k with
  | 0 => ("WindLawyerModel", "now", "[I", true)
  | 1 => ("WindLawyerModel", "fresh", "[I", true)
  | 2 => ("WindLawyerModel", "images", "[I", true)
  | 3 => ("WindLawyerModel", "isKept", "[Z", true)
  | 4 => ("WindLawyerModel", "above", "J", false)
  | 5 => ("WindLawyerModel", "below", "J", false)
  | 6 => ("WindLawyerModel", "refusals", "[I", true)
  | 7 => ("WindLawyerModel", "took", "[I", true)
  | 8 => ("WindLawyerModel", "aheadOf", "[I", true)
  | 9 => ("WindLawyerModel", "behind", "[I", true)
  | 10 => ("WindLawyerModel", "text", "[I", true)
  | 11 => ("WindLawyerModel", "letters", "I", false)
  | 12 => ("WindLawyerModel", "at", "I", false)
  | 13 => ("WindLawyerModel", "fault", "I", false)
  | 14 => ("WindLawyerModel", "token", "I", false)
  | 15 => ("WindLawyerModel", "start", "I", false)
  | 16 => ("WindLawyerModel", "tried", "[I", true)
  | 17 => ("WindLawyerModel", "best", "[I", true)
  | _ => ("WindLawyerModel", "dues", "[I", true)
def tyX12 : Nat → FieldType := fun k => match k with
  | 0 => .array .int
  | 1 => .array .int
  | 2 => .array .int
  | 3 => .array .boolean
  | 4 => .long
  | 5 => .long
  | 6 => .array .int
  | 7 => .array .int
  | 8 => .array .int
  | 9 => .array .int
  | 10 => .array .int
  | 11 => .int
  | 12 => .int
  | 13 => .int
  | 14 => .int
  | 15 => .int
  | 16 => .array .int
  | 17 => .array .int
  | _ => .array .int
abbrev wsX120 : List Cond := u_ws RX12 TX12 19
theorem nmX12 : ∀ a, a < 19 → ∀ b, b < 19 → a ≠ b → (TX12 a).2.1 ≠ (TX12 b).2.1 := by decide +kernel
theorem tyX12_ok : ∀ k, k < 19 → parseFieldDescriptor (TX12 k).2.2.1 = some (tyX12 k) := by decide +kernel
abbrev cX12_init : ByteArray := prog_14_method_1_code
def yX12_init : MethodName := ⟨RX12, "<init>", "()V"⟩
abbrev cX12_in : ByteArray := prog_14_method_3_code
def yX12_in : MethodName := ⟨RX12, "in", "(JJJ)Z"⟩
abbrev cX12_bad : ByteArray := prog_14_method_4_code
def yX12_bad : MethodName := ⟨RX12, "bad", "()I"⟩
abbrev cX12_no : ByteArray := prog_14_method_5_code
def yX12_no : MethodName := ⟨RX12, "no", "()I"⟩
abbrev cX12_full : ByteArray := prog_14_method_6_code
def yX12_full : MethodName := ⟨RX12, "full", "()I"⟩
abbrev cX12_isUser : ByteArray := prog_14_method_7_code
def yX12_isUser : MethodName := ⟨RX12, "isUser", "(I)Z"⟩
abbrev cX12_isSuit : ByteArray := prog_14_method_8_code
def yX12_isSuit : MethodName := ⟨RX12, "isSuit", "(I)Z"⟩
abbrev cX12_userOf : ByteArray := prog_14_method_9_code
def yX12_userOf : MethodName := ⟨RX12, "userOf", "([III)I"⟩
abbrev cX12_suitOf : ByteArray := prog_14_method_10_code
def yX12_suitOf : MethodName := ⟨RX12, "suitOf", "([III)I"⟩
abbrev cX12_has : ByteArray := prog_14_method_11_code
def yX12_has : MethodName := ⟨RX12, "has", "(II)Z"⟩
abbrev cX12_bits : ByteArray := prog_14_method_12_code
def yX12_bits : MethodName := ⟨RX12, "bits", "(I)I"⟩
abbrev cX12_fraction : ByteArray := prog_14_method_13_code
def yX12_fraction : MethodName := ⟨RX12, "fraction", "(JJ)I"⟩
abbrev cX12_taken : ByteArray := prog_14_method_14_code
def yX12_taken : MethodName := ⟨RX12, "taken", "(III)I"⟩
abbrev cX12_rentOf : ByteArray := prog_14_method_15_code
def yX12_rentOf : MethodName := ⟨RX12, "rentOf", "(II)I"⟩
abbrev cX12_awardOf : ByteArray := prog_14_method_16_code
def yX12_awardOf : MethodName := ⟨RX12, "awardOf", "(III)I"⟩
abbrev cX12_blow : ByteArray := prog_14_method_17_code
def yX12_blow : MethodName := ⟨RX12, "blow", "([IIII)V"⟩
abbrev cX12_blowOf : ByteArray := prog_14_method_18_code
def yX12_blowOf : MethodName := ⟨RX12, "blowOf", "([III)V"⟩
abbrev cX12_everyone : ByteArray := prog_14_method_19_code
def yX12_everyone : MethodName := ⟨RX12, "everyone", "([I)I"⟩
abbrev cX12_dayOf : ByteArray := prog_14_method_20_code
def yX12_dayOf : MethodName := ⟨RX12, "dayOf", "([III)I"⟩
abbrev cX12_goOn : ByteArray := prog_14_method_21_code
def yX12_goOn : MethodName := ⟨RX12, "goOn", "([I)I"⟩
abbrev cX12_hoursOf : ByteArray := prog_14_method_22_code
def yX12_hoursOf : MethodName := ⟨RX12, "hoursOf", "([II)I"⟩
abbrev cX12_empty : ByteArray := prog_14_method_23_code
def yX12_empty : MethodName := ⟨RX12, "empty", "([I)V"⟩
abbrev cX12_layFresh : ByteArray := prog_14_method_24_code
def yX12_layFresh : MethodName := ⟨RX12, "layFresh", "()V"⟩
abbrev cX12_island : ByteArray := prog_14_method_25_code
def yX12_island : MethodName := ⟨RX12, "island", "()I"⟩
abbrev cX12_wind : ByteArray := prog_14_method_26_code
def yX12_wind : MethodName := ⟨RX12, "wind", "(III)I"⟩
abbrev cX12_comes : ByteArray := prog_14_method_27_code
def yX12_comes : MethodName := ⟨RX12, "comes", "([IIII)V"⟩
abbrev cX12_user : ByteArray := prog_14_method_28_code
def yX12_user : MethodName := ⟨RX12, "user", "(III)I"⟩
abbrev cX12_type : ByteArray := prog_14_method_29_code
def yX12_type : MethodName := ⟨RX12, "type", "(I)I"⟩
abbrev cX12_clear : ByteArray := prog_14_method_30_code
def yX12_clear : MethodName := ⟨RX12, "clear", "()I"⟩
abbrev cX12_isFigure : ByteArray := prog_14_method_31_code
def yX12_isFigure : MethodName := ⟨RX12, "isFigure", "(I)Z"⟩
abbrev cX12_isLetter : ByteArray := prog_14_method_32_code
def yX12_isLetter : MethodName := ⟨RX12, "isLetter", "(I)Z"⟩
abbrev cX12_wordBy : ByteArray := prog_14_method_33_code
def yX12_wordBy : MethodName := ⟨RX12, "wordBy", "(I)I"⟩
abbrev cX12_next : ByteArray := prog_14_method_34_code
def yX12_next : MethodName := ⟨RX12, "next", "()V"⟩
abbrev cX12_must : ByteArray := prog_14_method_35_code
def yX12_must : MethodName := ⟨RX12, "must", "(Z)V"⟩
abbrev cX12_goOnReading : ByteArray := prog_14_method_36_code
def yX12_goOnReading : MethodName := ⟨RX12, "goOnReading", "()V"⟩
abbrev cX12_number : ByteArray := prog_14_method_37_code
def yX12_number : MethodName := ⟨RX12, "number", "(II)I"⟩
abbrev cX12_end : ByteArray := prog_14_method_38_code
def yX12_end : MethodName := ⟨RX12, "end", "()V"⟩
abbrev cX12_readWinds : ByteArray := prog_14_method_39_code
def yX12_readWinds : MethodName := ⟨RX12, "readWinds", "()V"⟩
abbrev cX12_readUser : ByteArray := prog_14_method_40_code
def yX12_readUser : MethodName := ⟨RX12, "readUser", "()V"⟩
abbrev cX12_files : ByteArray := prog_14_method_41_code
def yX12_files : MethodName := ⟨RX12, "files", "([III)V"⟩
abbrev cX12_readSuit : ByteArray := prog_14_method_42_code
def yX12_readSuit : MethodName := ⟨RX12, "readSuit", "()V"⟩
abbrev cX12_readHours : ByteArray := prog_14_method_43_code
def yX12_readHours : MethodName := ⟨RX12, "readHours", "()V"⟩
abbrev cX12_read : ByteArray := prog_14_method_44_code
def yX12_read : MethodName := ⟨RX12, "read", "()I"⟩
abbrev cX12_keep : ByteArray := prog_14_method_45_code
def yX12_keep : MethodName := ⟨RX12, "keep", "()V"⟩
abbrev cX12_undo : ByteArray := prog_14_method_46_code
def yX12_undo : MethodName := ⟨RX12, "undo", "()I"⟩
abbrev cX12_hour : ByteArray := prog_14_method_47_code
def yX12_hour : MethodName := ⟨RX12, "hour", "(I)I"⟩
abbrev cX12_suit : ByteArray := prog_14_method_48_code
def yX12_suit : MethodName := ⟨RX12, "suit", "(II)I"⟩
abbrev cX12_isHeard : ByteArray := prog_14_method_49_code
def yX12_isHeard : MethodName := ⟨RX12, "isHeard", "(I)Z"⟩
abbrev cX12_ageOf : ByteArray := prog_14_method_50_code
def yX12_ageOf : MethodName := ⟨RX12, "ageOf", "(I)I"⟩
abbrev cX12_duesOf : ByteArray := prog_14_method_51_code
def yX12_duesOf : MethodName := ⟨RX12, "duesOf", "(I)I"⟩
abbrev cX12_awardNow : ByteArray := prog_14_method_52_code
def yX12_awardNow : MethodName := ⟨RX12, "awardNow", "(I)I"⟩
abbrev cX12_hears : ByteArray := prog_14_method_53_code
def yX12_hears : MethodName := ⟨RX12, "hears", "(I)I"⟩
abbrev cX12_pays : ByteArray := prog_14_method_54_code
def yX12_pays : MethodName := ⟨RX12, "pays", "(I)I"⟩
abbrev cX12_of : ByteArray := prog_14_method_55_code
def yX12_of : MethodName := ⟨RX12, "of", "(II)I"⟩
abbrev cX12_about : ByteArray := prog_14_method_56_code
def yX12_about : MethodName := ⟨RX12, "about", "(II)I"⟩
abbrev cX12_blows : ByteArray := prog_14_method_57_code
def yX12_blows : MethodName := ⟨RX12, "blows", "(III)I"⟩
abbrev cX12_takes : ByteArray := prog_14_method_58_code
def yX12_takes : MethodName := ⟨RX12, "takes", "(II)I"⟩
abbrev cX12_then : ByteArray := prog_14_method_59_code
def yX12_then : MethodName := ⟨RX12, "then", "(II)I"⟩
abbrev cX12_calm : ByteArray := prog_14_method_60_code
def yX12_calm : MethodName := ⟨RX12, "calm", "(I)I"⟩
abbrev cX12_place : ByteArray := prog_14_method_61_code
def yX12_place : MethodName := ⟨RX12, "place", "(III)I"⟩
abbrev cX12_orders : ByteArray := prog_14_method_62_code
def yX12_orders : MethodName := ⟨RX12, "orders", "(I)J"⟩
abbrev cX12_share : ByteArray := prog_14_method_63_code
def yX12_share : MethodName := ⟨RX12, "share", "(I)I"⟩
abbrev cX12_award : ByteArray := prog_14_method_64_code
def yX12_award : MethodName := ⟨RX12, "award", "(I)I"⟩
abbrev cX12_nextRow : ByteArray := prog_14_method_65_code
def yX12_nextRow : MethodName := ⟨RX12, "nextRow", "(I)Z"⟩
abbrev cX12_wonBy : ByteArray := prog_14_method_66_code
def yX12_wonBy : MethodName := ⟨RX12, "wonBy", "(I)I"⟩
abbrev cX12_court : ByteArray := prog_14_method_67_code
def yX12_court : MethodName := ⟨RX12, "court", "(I)I"⟩
abbrev cX12_settle : ByteArray := prog_14_method_68_code
def yX12_settle : MethodName := ⟨RX12, "settle", "()I"⟩
abbrev cX12_reading : ByteArray := prog_14_method_69_code
def yX12_reading : MethodName := ⟨RX12, "reading", "(III)I"⟩
abbrev cX12_isSo : ByteArray := prog_14_method_70_code
def yX12_isSo : MethodName := ⟨RX12, "isSo", "(I)Z"⟩
abbrev cX12_stood : ByteArray := prog_14_method_71_code
def yX12_stood : MethodName := ⟨RX12, "stood", "(I)I"⟩
abbrev cX12_note : ByteArray := prog_14_method_72_code
def yX12_note : MethodName := ⟨RX12, "note", "(IIIII)I"⟩
abbrev cX12_mark : ByteArray := prog_14_method_73_code
def yX12_mark : MethodName := ⟨RX12, "mark", "(IIII)I"⟩
abbrev cX12_forget : ByteArray := prog_14_method_74_code
def yX12_forget : MethodName := ⟨RX12, "forget", "(I)I"⟩
abbrev cX12_kindsBy : ByteArray := prog_14_method_75_code
def yX12_kindsBy : MethodName := ⟨RX12, "kindsBy", "(I)I"⟩
abbrev cX12_is : ByteArray := prog_14_method_76_code
def yX12_is : MethodName := ⟨RX12, "is", "(I)I"⟩
abbrev cX12_look : ByteArray := prog_14_method_77_code
def yX12_look : MethodName := ⟨RX12, "look", "(I)I"⟩
abbrev cX12_suitsBy : ByteArray := prog_14_method_78_code
def yX12_suitsBy : MethodName := ⟨RX12, "suitsBy", "(I)I"⟩
abbrev cX12_kinds : ByteArray := prog_14_method_79_code
def yX12_kinds : MethodName := ⟨RX12, "kinds", "(I)I"⟩
abbrev cX12_tries : ByteArray := prog_14_method_80_code
def yX12_tries : MethodName := ⟨RX12, "tries", "(I)I"⟩
abbrev cX12_gain : ByteArray := prog_14_method_81_code
def yX12_gain : MethodName := ⟨RX12, "gain", "(III)I"⟩
abbrev cX12_parties : ByteArray := prog_14_method_82_code
def yX12_parties : MethodName := ⟨RX12, "parties", "(I)I"⟩
abbrev cX12_calms : ByteArray := prog_14_method_83_code
def yX12_calms : MethodName := ⟨RX12, "calms", "(III)I"⟩
abbrev cX12_years : ByteArray := prog_14_method_84_code
def yX12_years : MethodName := ⟨RX12, "years", "(II)I"⟩
abbrev cX12_part : ByteArray := prog_14_method_85_code
def yX12_part : MethodName := ⟨RX12, "part", "(I)J"⟩
abbrev cX12_image : ByteArray := prog_14_method_86_code
def yX12_image : MethodName := ⟨RX12, "image", "(I)I"⟩
abbrev cX12_from : ByteArray := prog_14_method_87_code
def yX12_from : MethodName := ⟨RX12, "from", "(I)I"⟩
abbrev cX12_status : ByteArray := prog_14_method_88_code
def yX12_status : MethodName := ⟨RX12, "status", "(I)I"⟩
abbrev cX12_counted : ByteArray := prog_14_method_89_code
def yX12_counted : MethodName := ⟨RX12, "counted", "(I)I"⟩
abbrev cX12_count : ByteArray := prog_14_method_90_code
def yX12_count : MethodName := ⟨RX12, "count", "(I)I"⟩
abbrev cX12_digestOf : ByteArray := prog_14_method_91_code
def yX12_digestOf : MethodName := ⟨RX12, "digestOf", "(JII)J"⟩
abbrev cX12_digest : ByteArray := prog_14_method_92_code
def yX12_digest : MethodName := ⟨RX12, "digest", "()J"⟩
def RJ6 : String := "java/lang/Integer"
def TJ6 : u_T := fun k => match k with
  | _ => ("", "", "", false)
def tyJ6 : Nat → FieldType := fun k => match k with
  | _ => .int
abbrev wsJ60 : List Cond := u_ws RJ6 TJ6 0
abbrev cJ6_bitCount_0f7a4 : ByteArray := prog_15_method_49_code
def yJ6_bitCount_0f7a4 : MethodName := ⟨RJ6, "bitCount", "(I)I"⟩
def RJ9 : String := "java/lang/Math"
def TJ9 : u_T := fun k => match k with
  | _ => ("", "", "", false)
def tyJ9 : Nat → FieldType := fun k => match k with
  | _ => .int
abbrev wsJ90 : List Cond := u_ws RJ9 TJ9 0
abbrev cJ9_floorMod_7cf53 : ByteArray := prog_16_method_50_code
def yJ9_floorMod_7cf53 : MethodName := ⟨RJ9, "floorMod", "(II)I"⟩
abbrev cJ9_abs_067f4 : ByteArray := prog_16_method_61_code
def yJ9_abs_067f4 : MethodName := ⟨RJ9, "abs", "(J)J"⟩
abbrev cJ9_max_7cf53 : ByteArray := prog_16_method_65_code
def yJ9_max_7cf53 : MethodName := ⟨RJ9, "max", "(II)I"⟩
abbrev cJ9_min_7cf53 : ByteArray := prog_16_method_69_code
def yJ9_min_7cf53 : MethodName := ⟨RJ9, "min", "(II)I"⟩
def RJ0 : String := "java/lang/String"
def TJ0 : u_T := fun k => match k with
  | _ => ("", "", "", false)
def tyJ0 : Nat → FieldType := fun k => match k with
  | _ => .int
abbrev wsJ00 : List Cond := u_ws RJ0 TJ0 0
abbrev cJ0_length_8abf5 : ByteArray := prog_17_method_54_code
def yJ0_length_8abf5 : MethodName := ⟨RJ0, "length", "()I"⟩
abbrev cJ0_charAt_5068e : ByteArray := prog_17_method_56_code
def yJ0_charAt_5068e : MethodName := ⟨RJ0, "charAt", "(I)C"⟩
abbrev cJ0_coder_7d493 : ByteArray := prog_17_method_152_code
def yJ0_coder_7d493 : MethodName := ⟨RJ0, "coder", "()B"⟩
abbrev cJ0_isLatin1_aae02 : ByteArray := prog_17_method_154_code
def yJ0_isLatin1_aae02 : MethodName := ⟨RJ0, "isLatin1", "()Z"⟩
abbrev cJ0_checkIndex_df160 : ByteArray := prog_17_method_155_code
def yJ0_checkIndex_df160 : MethodName := ⟨RJ0, "checkIndex", "(II)V"⟩
def RJ1 : String := "java/lang/StringLatin1"
def TJ1 : u_T := fun k => match k with
  | _ => ("", "", "", false)
def tyJ1 : Nat → FieldType := fun k => match k with
  | _ => .int
abbrev wsJ10 : List Cond := u_ws RJ1 TJ1 0
abbrev cJ1_charAt_3b067 : ByteArray := prog_18_method_2_code
def yJ1_charAt_3b067 : MethodName := ⟨RJ1, "charAt", "([BI)C"⟩
def RJ2 : String := "java/lang/StringUTF16"
def TJ2 : u_T := fun k => match k with
  | _ => ("", "", "", false)
def tyJ2 : Nat → FieldType := fun k => match k with
  | _ => .int
abbrev wsJ20 : List Cond := u_ws RJ2 TJ2 0
abbrev cJ2_getChar_3b067 : ByteArray := prog_19_method_5_code
def yJ2_getChar_3b067 : MethodName := ⟨RJ2, "getChar", "([BI)C"⟩
abbrev cJ2_length_9d52b : ByteArray := prog_19_method_6_code
def yJ2_length_9d52b : MethodName := ⟨RJ2, "length", "([B)I"⟩
abbrev cJ2_charAt_3b067 : ByteArray := prog_19_method_83_code
def yJ2_charAt_3b067 : MethodName := ⟨RJ2, "charAt", "([BI)C"⟩
abbrev cJ2_checkIndex_2214a : ByteArray := prog_19_method_91_code
def yJ2_checkIndex_2214a : MethodName := ⟨RJ2, "checkIndex", "(I[B)V"⟩
def RJ10 : String := "java/lang/System"
def TJ10 : u_T := fun k => match k with
  | _ => ("", "", "", false)
def tyJ10 : Nat → FieldType := fun k => match k with
  | _ => .int
abbrev wsJ100 : List Cond := u_ws RJ10 TJ10 0
def RJ3 : String := "jdk/internal/util/Preconditions"
def TJ3 : u_T := fun k => match k with
  | _ => ("", "", "", false)
def tyJ3 : Nat → FieldType := fun k => match k with
  | _ => .int
abbrev wsJ30 : List Cond := u_ws RJ3 TJ3 0
abbrev cJ3_checkIndex_8e157 : ByteArray := prog_21_method_11_code
def yJ3_checkIndex_8e157 : MethodName := ⟨RJ3, "checkIndex", "(IILjava/util/function/BiFunction;)I"⟩
def RL : String := "WindLawyerLaw"
abbrev cL_law : ByteArray := code
def yL_law : MethodName := ⟨RL, "law", "([I)Z"⟩
abbrev vwCl : List vw_C := [(RX0, TX0, 3), (RX1, TX1, 5), (RX2, TX2, 5), (RX3, TX3, 2), (RX4, TX4, 10), (RX7, TX7, 7), (RX8, TX8, 4), (RX9, TX9, 4), (RX10, TX10, 2), (RX11, TX11, 15), (RX12, TX12, 19)]
/-- the words that every method may use: those of the tables that a callee may be handed -/
def TB : List Cond := lw_tbl.filter goodWord
theorem tb_of {w : Cond} (i : Nat) (h : lw_tbl[i]? = some w ∧ goodWord w = true) : w ∈ TB := List.mem_filter.mpr ⟨List.mem_of_getElem? h.1, h.2⟩
theorem tb_good : GoodIn TB TB := fun _ h => ⟨h, good_of_word (List.mem_filter.mp h).2⟩
theorem tb_lw {w : Cond} (h : w ∈ TB) : w ∈ lw_tbl := (List.mem_filter.mp h).1
end
section
theorem dX0_init_0 : decode cX0_init 0 = .ok (.aload_n 0, 1) := by decide +kernel
theorem dX0_init_1 : decode cX0_init 1 = .ok (.invokespecial 3, 3) := by decide +kernel
theorem dX0_init_4 : decode cX0_init 4 = .ok (.aload_n 0, 1) := by decide +kernel
theorem dX0_init_5 : decode cX0_init 5 = .ok (.bipush 12, 2) := by decide +kernel
theorem dX0_init_7 : decode cX0_init 7 = .ok (.newarray .int, 2) := by decide +kernel
theorem dX0_init_9 : decode cX0_init 9 = .ok (.putfield 9, 3) := by decide +kernel
theorem dX0_init_12 : decode cX0_init 12 = .ok (.aload_n 0, 1) := by decide +kernel
theorem dX0_init_13 : decode cX0_init 13 = .ok (.bipush 12, 2) := by decide +kernel
theorem dX0_init_15 : decode cX0_init 15 = .ok (.newarray .int, 2) := by decide +kernel
theorem dX0_init_17 : decode cX0_init 17 = .ok (.putfield 15, 3) := by decide +kernel
theorem dX0_init_20 : decode cX0_init 20 = .ok (.aload_n 0, 1) := by decide +kernel
theorem dX0_init_21 : decode cX0_init 21 = .ok (.bipush 7, 2) := by decide +kernel
theorem dX0_init_23 : decode cX0_init 23 = .ok (.newarray .int, 2) := by decide +kernel
theorem dX0_init_25 : decode cX0_init 25 = .ok (.putfield 18, 3) := by decide +kernel
theorem dX0_init_28 : decode cX0_init 28 = .ok (.return_, 1) := by decide +kernel
theorem dX0_goInHour_0 : decode cX0_goInHour 0 = .ok (.iload_n 2, 1) := by decide +kernel
theorem dX0_goInHour_1 : decode cX0_goInHour 1 = .ok (.bipush 8, 2) := by decide +kernel
theorem dX0_goInHour_3 : decode cX0_goInHour 3 = .ok (.invokestatic 21, 3) := by decide +kernel
theorem dX0_goInHour_6 : decode cX0_goInHour 6 = .ok (.istore 4, 2) := by decide +kernel
theorem dX0_goInHour_8 : decode cX0_goInHour 8 = .ok (.aload_n 0, 1) := by decide +kernel
theorem dX0_goInHour_9 : decode cX0_goInHour 9 = .ok (.aload_n 1, 1) := by decide +kernel
theorem dX0_goInHour_10 : decode cX0_goInHour 10 = .ok (.getfield 27, 3) := by decide +kernel
theorem dX0_goInHour_13 : decode cX0_goInHour 13 = .ok (.iload_n 3, 1) := by decide +kernel
theorem dX0_goInHour_14 : decode cX0_goInHour 14 = .ok (.aload_n 1, 1) := by decide +kernel
theorem dX0_goInHour_15 : decode cX0_goInHour 15 = .ok (.getfield 33, 3) := by decide +kernel
theorem dX0_goInHour_18 : decode cX0_goInHour 18 = .ok (.iload 4, 2) := by decide +kernel
theorem dX0_goInHour_20 : decode cX0_goInHour 20 = .ok (.iaload, 1) := by decide +kernel
theorem dX0_goInHour_21 : decode cX0_goInHour 21 = .ok (.aload_n 1, 1) := by decide +kernel
theorem dX0_goInHour_22 : decode cX0_goInHour 22 = .ok (.getfield 36, 3) := by decide +kernel
theorem dX0_goInHour_25 : decode cX0_goInHour 25 = .ok (.iload 4, 2) := by decide +kernel
theorem dX0_goInHour_27 : decode cX0_goInHour 27 = .ok (.iaload, 1) := by decide +kernel
theorem dX0_goInHour_28 : decode cX0_goInHour 28 = .ok (.invokevirtual 39, 3) := by decide +kernel
theorem dX0_goInHour_31 : decode cX0_goInHour 31 = .ok (.return_, 1) := by decide +kernel
theorem dX0_go_0 : decode cX0_go 0 = .ok (.aload_n 1, 1) := by decide +kernel
theorem dX0_go_1 : decode cX0_go 1 = .ok (.getfield 43, 3) := by decide +kernel
theorem dX0_go_4 : decode cX0_go 4 = .ok (.bipush 7, 2) := by decide +kernel
theorem dX0_go_6 : decode cX0_go 6 = .ok (.invokestatic 49, 3) := by decide +kernel
theorem dX0_go_9 : decode cX0_go 9 = .ok (.istore 5, 2) := by decide +kernel
theorem dX0_go_11 : decode cX0_go 11 = .ok (.iconst 0, 1) := by decide +kernel
theorem dX0_go_12 : decode cX0_go 12 = .ok (.istore 6, 2) := by decide +kernel
theorem dX0_go_14 : decode cX0_go 14 = .ok (.iconst 0, 1) := by decide +kernel
theorem dX0_go_15 : decode cX0_go 15 = .ok (.istore 7, 2) := by decide +kernel
theorem dX0_go_17 : decode cX0_go 17 = .ok (.iload 7, 2) := by decide +kernel
theorem dX0_go_19 : decode cX0_go 19 = .ok (.bipush 7, 2) := by decide +kernel
theorem dX0_go_21 : decode cX0_go 21 = .ok (.if_icmp .ge 48, 3) := by decide +kernel
theorem dX0_go_24 : decode cX0_go 24 = .ok (.aload_n 0, 1) := by decide +kernel
theorem dX0_go_25 : decode cX0_go 25 = .ok (.getfield 18, 3) := by decide +kernel
theorem dX0_go_28 : decode cX0_go 28 = .ok (.iload 7, 2) := by decide +kernel
theorem dX0_go_30 : decode cX0_go 30 = .ok (.iconst 0, 1) := by decide +kernel
theorem dX0_go_31 : decode cX0_go 31 = .ok (.iastore, 1) := by decide +kernel
theorem dX0_go_32 : decode cX0_go 32 = .ok (.iload 7, 2) := by decide +kernel
theorem dX0_go_34 : decode cX0_go 34 = .ok (.iload 5, 2) := by decide +kernel
theorem dX0_go_36 : decode cX0_go 36 = .ok (.if_icmp .ge 27, 3) := by decide +kernel
theorem dX0_go_39 : decode cX0_go 39 = .ok (.iload_n 2, 1) := by decide +kernel
theorem dX0_go_40 : decode cX0_go 40 = .ok (.iload 7, 2) := by decide +kernel
theorem dX0_go_42 : decode cX0_go 42 = .ok (.ishr, 1) := by decide +kernel
theorem dX0_go_43 : decode cX0_go 43 = .ok (.iconst 1, 1) := by decide +kernel
theorem dX0_go_44 : decode cX0_go 44 = .ok (.iand, 1) := by decide +kernel
theorem dX0_go_45 : decode cX0_go 45 = .ok (.iconst 1, 1) := by decide +kernel
theorem dX0_go_46 : decode cX0_go 46 = .ok (.if_icmp .ne 17, 3) := by decide +kernel
theorem dX0_go_49 : decode cX0_go 49 = .ok (.iload 6, 2) := by decide +kernel
theorem dX0_go_51 : decode cX0_go 51 = .ok (.iconst 1, 1) := by decide +kernel
theorem dX0_go_52 : decode cX0_go 52 = .ok (.aload_n 1, 1) := by decide +kernel
theorem dX0_go_53 : decode cX0_go 53 = .ok (.iload 7, 2) := by decide +kernel
theorem dX0_go_55 : decode cX0_go 55 = .ok (.iconst 1, 1) := by decide +kernel
theorem dX0_go_56 : decode cX0_go 56 = .ok (.invokevirtual 52, 3) := by decide +kernel
theorem dX0_go_59 : decode cX0_go 59 = .ok (.ishl, 1) := by decide +kernel
theorem dX0_go_60 : decode cX0_go 60 = .ok (.ior, 1) := by decide +kernel
theorem dX0_go_61 : decode cX0_go 61 = .ok (.istore 6, 2) := by decide +kernel
theorem dX0_go_63 : decode cX0_go 63 = .ok (.iinc 7 1, 3) := by decide +kernel
theorem dX0_go_66 : decode cX0_go 66 = .ok (.goto (-49), 3) := by decide +kernel
theorem dX0_go_69 : decode cX0_go 69 = .ok (.iload_n 3, 1) := by decide +kernel
theorem dX0_go_70 : decode cX0_go 70 = .ok (.istore 7, 2) := by decide +kernel
theorem dX0_go_72 : decode cX0_go 72 = .ok (.iconst 0, 1) := by decide +kernel
theorem dX0_go_73 : decode cX0_go 73 = .ok (.istore 8, 2) := by decide +kernel
theorem dX0_go_75 : decode cX0_go 75 = .ok (.iload 8, 2) := by decide +kernel
theorem dX0_go_77 : decode cX0_go 77 = .ok (.bipush 12, 2) := by decide +kernel
theorem dX0_go_79 : decode cX0_go 79 = .ok (.if_icmp .ge 149, 3) := by decide +kernel
theorem dX0_go_82 : decode cX0_go 82 = .ok (.iload 4, 2) := by decide +kernel
theorem dX0_go_84 : decode cX0_go 84 = .ok (.ifCond .ne 8, 3) := by decide +kernel
theorem dX0_go_87 : decode cX0_go 87 = .ok (.iload 8, 2) := by decide +kernel
theorem dX0_go_89 : decode cX0_go 89 = .ok (.goto 8, 3) := by decide +kernel
theorem dX0_go_92 : decode cX0_go 92 = .ok (.bipush 11, 2) := by decide +kernel
theorem dX0_go_94 : decode cX0_go 94 = .ok (.iload 8, 2) := by decide +kernel
theorem dX0_go_96 : decode cX0_go 96 = .ok (.isub, 1) := by decide +kernel
theorem dX0_go_97 : decode cX0_go 97 = .ok (.istore 9, 2) := by decide +kernel
theorem dX0_go_99 : decode cX0_go 99 = .ok (.aload_n 0, 1) := by decide +kernel
theorem dX0_go_100 : decode cX0_go 100 = .ok (.getfield 9, 3) := by decide +kernel
theorem dX0_go_103 : decode cX0_go 103 = .ok (.iload 9, 2) := by decide +kernel
theorem dX0_go_105 : decode cX0_go 105 = .ok (.iload 7, 2) := by decide +kernel
theorem dX0_go_107 : decode cX0_go 107 = .ok (.iastore, 1) := by decide +kernel
theorem dX0_go_108 : decode cX0_go 108 = .ok (.iload 6, 2) := by decide +kernel
theorem dX0_go_110 : decode cX0_go 110 = .ok (.iload 9, 2) := by decide +kernel
theorem dX0_go_112 : decode cX0_go 112 = .ok (.ishr, 1) := by decide +kernel
theorem dX0_go_113 : decode cX0_go 113 = .ok (.iconst 1, 1) := by decide +kernel
theorem dX0_go_114 : decode cX0_go 114 = .ok (.iand, 1) := by decide +kernel
theorem dX0_go_115 : decode cX0_go 115 = .ok (.iconst 1, 1) := by decide +kernel
theorem dX0_go_116 : decode cX0_go 116 = .ok (.if_icmp .ne 8, 3) := by decide +kernel
theorem dX0_go_119 : decode cX0_go 119 = .ok (.iload 5, 2) := by decide +kernel
theorem dX0_go_121 : decode cX0_go 121 = .ok (.goto 4, 3) := by decide +kernel
theorem dX0_go_124 : decode cX0_go 124 = .ok (.iconst 0, 1) := by decide +kernel
theorem dX0_go_125 : decode cX0_go 125 = .ok (.istore 10, 2) := by decide +kernel
theorem dX0_go_127 : decode cX0_go 127 = .ok (.iconst 0, 1) := by decide +kernel
theorem dX0_go_128 : decode cX0_go 128 = .ok (.istore 11, 2) := by decide +kernel
theorem dX0_go_130 : decode cX0_go 130 = .ok (.iload 11, 2) := by decide +kernel
theorem dX0_go_132 : decode cX0_go 132 = .ok (.iload 10, 2) := by decide +kernel
theorem dX0_go_134 : decode cX0_go 134 = .ok (.if_icmp .ge 69, 3) := by decide +kernel
theorem dX0_go_137 : decode cX0_go 137 = .ok (.iload_n 2, 1) := by decide +kernel
theorem dX0_go_138 : decode cX0_go 138 = .ok (.iload 11, 2) := by decide +kernel
theorem dX0_go_140 : decode cX0_go 140 = .ok (.ishr, 1) := by decide +kernel
theorem dX0_go_141 : decode cX0_go 141 = .ok (.iconst 1, 1) := by decide +kernel
theorem dX0_go_142 : decode cX0_go 142 = .ok (.iand, 1) := by decide +kernel
theorem dX0_go_143 : decode cX0_go 143 = .ok (.iconst 1, 1) := by decide +kernel
theorem dX0_go_144 : decode cX0_go 144 = .ok (.if_icmp .ne 53, 3) := by decide +kernel
theorem dX0_go_147 : decode cX0_go 147 = .ok (.aload_n 1, 1) := by decide +kernel
theorem dX0_go_148 : decode cX0_go 148 = .ok (.iload 11, 2) := by decide +kernel
theorem dX0_go_150 : decode cX0_go 150 = .ok (.iconst 1, 1) := by decide +kernel
theorem dX0_go_151 : decode cX0_go 151 = .ok (.invokevirtual 52, 3) := by decide +kernel
theorem dX0_go_154 : decode cX0_go 154 = .ok (.iload 9, 2) := by decide +kernel
theorem dX0_go_156 : decode cX0_go 156 = .ok (.if_icmp .ne 41, 3) := by decide +kernel
theorem dX0_go_159 : decode cX0_go 159 = .ok (.aload_n 0, 1) := by decide +kernel
theorem dX0_go_160 : decode cX0_go 160 = .ok (.getfield 18, 3) := by decide +kernel
theorem dX0_go_163 : decode cX0_go 163 = .ok (.iload 11, 2) := by decide +kernel
theorem dX0_go_165 : decode cX0_go 165 = .ok (.aload_n 1, 1) := by decide +kernel
theorem dX0_go_166 : decode cX0_go 166 = .ok (.iload 11, 2) := by decide +kernel
theorem dX0_go_168 : decode cX0_go 168 = .ok (.iconst 0, 1) := by decide +kernel
theorem dX0_go_169 : decode cX0_go 169 = .ok (.invokevirtual 52, 3) := by decide +kernel
theorem dX0_go_172 : decode cX0_go 172 = .ok (.aload_n 1, 1) := by decide +kernel
theorem dX0_go_173 : decode cX0_go 173 = .ok (.iload 11, 2) := by decide +kernel
theorem dX0_go_175 : decode cX0_go 175 = .ok (.iconst 2, 1) := by decide +kernel
theorem dX0_go_176 : decode cX0_go 176 = .ok (.invokevirtual 52, 3) := by decide +kernel
theorem dX0_go_179 : decode cX0_go 179 = .ok (.iload 7, 2) := by decide +kernel
theorem dX0_go_181 : decode cX0_go 181 = .ok (.invokestatic 55, 3) := by decide +kernel
theorem dX0_go_184 : decode cX0_go 184 = .ok (.iastore, 1) := by decide +kernel
theorem dX0_go_185 : decode cX0_go 185 = .ok (.iload 7, 2) := by decide +kernel
theorem dX0_go_187 : decode cX0_go 187 = .ok (.aload_n 0, 1) := by decide +kernel
theorem dX0_go_188 : decode cX0_go 188 = .ok (.getfield 18, 3) := by decide +kernel
theorem dX0_go_191 : decode cX0_go 191 = .ok (.iload 11, 2) := by decide +kernel
theorem dX0_go_193 : decode cX0_go 193 = .ok (.iaload, 1) := by decide +kernel
theorem dX0_go_194 : decode cX0_go 194 = .ok (.isub, 1) := by decide +kernel
theorem dX0_go_195 : decode cX0_go 195 = .ok (.istore 7, 2) := by decide +kernel
theorem dX0_go_197 : decode cX0_go 197 = .ok (.iinc 11 1, 3) := by decide +kernel
theorem dX0_go_200 : decode cX0_go 200 = .ok (.goto (-70), 3) := by decide +kernel
theorem dX0_go_203 : decode cX0_go 203 = .ok (.aload_n 0, 1) := by decide +kernel
theorem dX0_go_204 : decode cX0_go 204 = .ok (.getfield 15, 3) := by decide +kernel
theorem dX0_go_207 : decode cX0_go 207 = .ok (.iload 9, 2) := by decide +kernel
theorem dX0_go_209 : decode cX0_go 209 = .ok (.iload 7, 2) := by decide +kernel
theorem dX0_go_211 : decode cX0_go 211 = .ok (.iastore, 1) := by decide +kernel
theorem dX0_go_212 : decode cX0_go 212 = .ok (.iload 7, 2) := by decide +kernel
theorem dX0_go_214 : decode cX0_go 214 = .ok (.iconst 1, 1) := by decide +kernel
theorem dX0_go_215 : decode cX0_go 215 = .ok (.iadd, 1) := by decide +kernel
theorem dX0_go_216 : decode cX0_go 216 = .ok (.iload_n 3, 1) := by decide +kernel
theorem dX0_go_217 : decode cX0_go 217 = .ok (.invokestatic 49, 3) := by decide +kernel
theorem dX0_go_220 : decode cX0_go 220 = .ok (.istore 7, 2) := by decide +kernel
theorem dX0_go_222 : decode cX0_go 222 = .ok (.iinc 8 1, 3) := by decide +kernel
theorem dX0_go_225 : decode cX0_go 225 = .ok (.goto (-150), 3) := by decide +kernel
theorem dX0_go_228 : decode cX0_go 228 = .ok (.return_, 1) := by decide +kernel
theorem dX0_takenBy_0 : decode cX0_takenBy 0 = .ok (.iload_n 1, 1) := by decide +kernel
theorem dX0_takenBy_1 : decode cX0_takenBy 1 = .ok (.iconst 0, 1) := by decide +kernel
theorem dX0_takenBy_2 : decode cX0_takenBy 2 = .ok (.bipush 6, 2) := by decide +kernel
theorem dX0_takenBy_4 : decode cX0_takenBy 4 = .ok (.invokestatic 61, 3) := by decide +kernel
theorem dX0_takenBy_7 : decode cX0_takenBy 7 = .ok (.ifCond .eq 12, 3) := by decide +kernel
theorem dX0_takenBy_10 : decode cX0_takenBy 10 = .ok (.aload_n 0, 1) := by decide +kernel
theorem dX0_takenBy_11 : decode cX0_takenBy 11 = .ok (.getfield 18, 3) := by decide +kernel
theorem dX0_takenBy_14 : decode cX0_takenBy 14 = .ok (.iload_n 1, 1) := by decide +kernel
theorem dX0_takenBy_15 : decode cX0_takenBy 15 = .ok (.iaload, 1) := by decide +kernel
theorem dX0_takenBy_16 : decode cX0_takenBy 16 = .ok (.goto 4, 3) := by decide +kernel
theorem dX0_takenBy_19 : decode cX0_takenBy 19 = .ok (.iconst 0, 1) := by decide +kernel
theorem dX0_takenBy_20 : decode cX0_takenBy 20 = .ok (.ireturn, 1) := by decide +kernel
theorem dX0_leftBehind_0 : decode cX0_leftBehind 0 = .ok (.iload_n 1, 1) := by decide +kernel
theorem dX0_leftBehind_1 : decode cX0_leftBehind 1 = .ok (.invokestatic 65, 3) := by decide +kernel
theorem dX0_leftBehind_4 : decode cX0_leftBehind 4 = .ok (.ifCond .eq 12, 3) := by decide +kernel
theorem dX0_leftBehind_7 : decode cX0_leftBehind 7 = .ok (.aload_n 0, 1) := by decide +kernel
theorem dX0_leftBehind_8 : decode cX0_leftBehind 8 = .ok (.getfield 15, 3) := by decide +kernel
theorem dX0_leftBehind_11 : decode cX0_leftBehind 11 = .ok (.iload_n 1, 1) := by decide +kernel
theorem dX0_leftBehind_12 : decode cX0_leftBehind 12 = .ok (.iaload, 1) := by decide +kernel
theorem dX0_leftBehind_13 : decode cX0_leftBehind 13 = .ok (.goto 4, 3) := by decide +kernel
theorem dX0_leftBehind_16 : decode cX0_leftBehind 16 = .ok (.iconst 0, 1) := by decide +kernel
theorem dX0_leftBehind_17 : decode cX0_leftBehind 17 = .ok (.ireturn, 1) := by decide +kernel
theorem dX0_rentOf_0 : decode cX0_rentOf 0 = .ok (.aload_n 1, 1) := by decide +kernel
theorem dX0_rentOf_1 : decode cX0_rentOf 1 = .ok (.iload_n 2, 1) := by decide +kernel
theorem dX0_rentOf_2 : decode cX0_rentOf 2 = .ok (.iconst 0, 1) := by decide +kernel
theorem dX0_rentOf_3 : decode cX0_rentOf 3 = .ok (.invokevirtual 52, 3) := by decide +kernel
theorem dX0_rentOf_6 : decode cX0_rentOf 6 = .ok (.aload_n 0, 1) := by decide +kernel
theorem dX0_rentOf_7 : decode cX0_rentOf 7 = .ok (.iload_n 2, 1) := by decide +kernel
theorem dX0_rentOf_8 : decode cX0_rentOf 8 = .ok (.invokevirtual 69, 3) := by decide +kernel
theorem dX0_rentOf_11 : decode cX0_rentOf 11 = .ok (.invokestatic 73, 3) := by decide +kernel
theorem dX0_rentOf_14 : decode cX0_rentOf 14 = .ok (.ireturn, 1) := by decide +kernel
theorem dX0_rentOfAll_0 : decode cX0_rentOfAll 0 = .ok (.iconst 0, 1) := by decide +kernel
theorem dX0_rentOfAll_1 : decode cX0_rentOfAll 1 = .ok (.istore_n 2, 1) := by decide +kernel
theorem dX0_rentOfAll_2 : decode cX0_rentOfAll 2 = .ok (.iconst 0, 1) := by decide +kernel
theorem dX0_rentOfAll_3 : decode cX0_rentOfAll 3 = .ok (.istore_n 3, 1) := by decide +kernel
theorem dX0_rentOfAll_4 : decode cX0_rentOfAll 4 = .ok (.iload_n 3, 1) := by decide +kernel
theorem dX0_rentOfAll_5 : decode cX0_rentOfAll 5 = .ok (.aload_n 1, 1) := by decide +kernel
theorem dX0_rentOfAll_6 : decode cX0_rentOfAll 6 = .ok (.getfield 43, 3) := by decide +kernel
theorem dX0_rentOfAll_9 : decode cX0_rentOfAll 9 = .ok (.if_icmp .ge 18, 3) := by decide +kernel
theorem dX0_rentOfAll_12 : decode cX0_rentOfAll 12 = .ok (.iload_n 2, 1) := by decide +kernel
theorem dX0_rentOfAll_13 : decode cX0_rentOfAll 13 = .ok (.aload_n 0, 1) := by decide +kernel
theorem dX0_rentOfAll_14 : decode cX0_rentOfAll 14 = .ok (.aload_n 1, 1) := by decide +kernel
theorem dX0_rentOfAll_15 : decode cX0_rentOfAll 15 = .ok (.iload_n 3, 1) := by decide +kernel
theorem dX0_rentOfAll_16 : decode cX0_rentOfAll 16 = .ok (.invokevirtual 76, 3) := by decide +kernel
theorem dX0_rentOfAll_19 : decode cX0_rentOfAll 19 = .ok (.iadd, 1) := by decide +kernel
theorem dX0_rentOfAll_20 : decode cX0_rentOfAll 20 = .ok (.istore_n 2, 1) := by decide +kernel
theorem dX0_rentOfAll_21 : decode cX0_rentOfAll 21 = .ok (.iinc 3 1, 3) := by decide +kernel
theorem dX0_rentOfAll_24 : decode cX0_rentOfAll 24 = .ok (.goto (-20), 3) := by decide +kernel
theorem dX0_rentOfAll_27 : decode cX0_rentOfAll 27 = .ok (.iload_n 2, 1) := by decide +kernel
theorem dX0_rentOfAll_28 : decode cX0_rentOfAll 28 = .ok (.ireturn, 1) := by decide +kernel
theorem dX0_takenByFirst_0 : decode cX0_takenByFirst 0 = .ok (.iconst 0, 1) := by decide +kernel
theorem dX0_takenByFirst_1 : decode cX0_takenByFirst 1 = .ok (.istore_n 2, 1) := by decide +kernel
theorem dX0_takenByFirst_2 : decode cX0_takenByFirst 2 = .ok (.iconst 0, 1) := by decide +kernel
theorem dX0_takenByFirst_3 : decode cX0_takenByFirst 3 = .ok (.istore_n 3, 1) := by decide +kernel
theorem dX0_takenByFirst_4 : decode cX0_takenByFirst 4 = .ok (.iload_n 3, 1) := by decide +kernel
theorem dX0_takenByFirst_5 : decode cX0_takenByFirst 5 = .ok (.iload_n 1, 1) := by decide +kernel
theorem dX0_takenByFirst_6 : decode cX0_takenByFirst 6 = .ok (.if_icmp .ge 17, 3) := by decide +kernel
theorem dX0_takenByFirst_9 : decode cX0_takenByFirst 9 = .ok (.iload_n 2, 1) := by decide +kernel
theorem dX0_takenByFirst_10 : decode cX0_takenByFirst 10 = .ok (.aload_n 0, 1) := by decide +kernel
theorem dX0_takenByFirst_11 : decode cX0_takenByFirst 11 = .ok (.iload_n 3, 1) := by decide +kernel
theorem dX0_takenByFirst_12 : decode cX0_takenByFirst 12 = .ok (.invokevirtual 69, 3) := by decide +kernel
theorem dX0_takenByFirst_15 : decode cX0_takenByFirst 15 = .ok (.iadd, 1) := by decide +kernel
theorem dX0_takenByFirst_16 : decode cX0_takenByFirst 16 = .ok (.istore_n 2, 1) := by decide +kernel
theorem dX0_takenByFirst_17 : decode cX0_takenByFirst 17 = .ok (.iinc 3 1, 3) := by decide +kernel
theorem dX0_takenByFirst_20 : decode cX0_takenByFirst 20 = .ok (.goto (-16), 3) := by decide +kernel
theorem dX0_takenByFirst_23 : decode cX0_takenByFirst 23 = .ok (.iload_n 2, 1) := by decide +kernel
theorem dX0_takenByFirst_24 : decode cX0_takenByFirst 24 = .ok (.ireturn, 1) := by decide +kernel
theorem dX1_init_0 : decode cX1_init 0 = .ok (.aload_n 0, 1) := by decide +kernel
theorem dX1_init_1 : decode cX1_init 1 = .ok (.invokespecial 3, 3) := by decide +kernel
theorem dX1_init_4 : decode cX1_init 4 = .ok (.aload_n 0, 1) := by decide +kernel
theorem dX1_init_5 : decode cX1_init 5 = .ok (.bipush 6, 2) := by decide +kernel
theorem dX1_init_7 : decode cX1_init 7 = .ok (.newarray .int, 2) := by decide +kernel
theorem dX1_init_9 : decode cX1_init 9 = .ok (.putfield 9, 3) := by decide +kernel
theorem dX1_init_12 : decode cX1_init 12 = .ok (.aload_n 0, 1) := by decide +kernel
theorem dX1_init_13 : decode cX1_init 13 = .ok (.aload_n 1, 1) := by decide +kernel
theorem dX1_init_14 : decode cX1_init 14 = .ok (.putfield 15, 3) := by decide +kernel
theorem dX1_init_17 : decode cX1_init 17 = .ok (.return_, 1) := by decide +kernel
theorem dX1_findSets_0 : decode cX1_findSets 0 = .ok (.aload_n 0, 1) := by decide +kernel
theorem dX1_findSets_1 : decode cX1_findSets 1 = .ok (.iconst 0, 1) := by decide +kernel
theorem dX1_findSets_2 : decode cX1_findSets 2 = .ok (.putfield 19, 3) := by decide +kernel
theorem dX1_findSets_5 : decode cX1_findSets 5 = .ok (.aload_n 0, 1) := by decide +kernel
theorem dX1_findSets_6 : decode cX1_findSets 6 = .ok (.iconst (-1), 1) := by decide +kernel
theorem dX1_findSets_7 : decode cX1_findSets 7 = .ok (.putfield 23, 3) := by decide +kernel
theorem dX1_findSets_10 : decode cX1_findSets 10 = .ok (.aload_n 0, 1) := by decide +kernel
theorem dX1_findSets_11 : decode cX1_findSets 11 = .ok (.iconst 0, 1) := by decide +kernel
theorem dX1_findSets_12 : decode cX1_findSets 12 = .ok (.putfield 26, 3) := by decide +kernel
theorem dX1_findSets_15 : decode cX1_findSets 15 = .ok (.iconst 0, 1) := by decide +kernel
theorem dX1_findSets_16 : decode cX1_findSets 16 = .ok (.istore_n 2, 1) := by decide +kernel
theorem dX1_findSets_17 : decode cX1_findSets 17 = .ok (.iload_n 2, 1) := by decide +kernel
theorem dX1_findSets_18 : decode cX1_findSets 18 = .ok (.iconst 1, 1) := by decide +kernel
theorem dX1_findSets_19 : decode cX1_findSets 19 = .ok (.aload_n 1, 1) := by decide +kernel
theorem dX1_findSets_20 : decode cX1_findSets 20 = .ok (.getfield 29, 3) := by decide +kernel
theorem dX1_findSets_23 : decode cX1_findSets 23 = .ok (.getfield 35, 3) := by decide +kernel
theorem dX1_findSets_26 : decode cX1_findSets 26 = .ok (.ishl, 1) := by decide +kernel
theorem dX1_findSets_27 : decode cX1_findSets 27 = .ok (.if_icmp .ge 48, 3) := by decide +kernel
theorem dX1_findSets_30 : decode cX1_findSets 30 = .ok (.aload_n 0, 1) := by decide +kernel
theorem dX1_findSets_31 : decode cX1_findSets 31 = .ok (.aload_n 1, 1) := by decide +kernel
theorem dX1_findSets_32 : decode cX1_findSets 32 = .ok (.iload_n 2, 1) := by decide +kernel
theorem dX1_findSets_33 : decode cX1_findSets 33 = .ok (.invokevirtual 40, 3) := by decide +kernel
theorem dX1_findSets_36 : decode cX1_findSets 36 = .ok (.ifCond .eq 33, 3) := by decide +kernel
theorem dX1_findSets_39 : decode cX1_findSets 39 = .ok (.aload_n 0, 1) := by decide +kernel
theorem dX1_findSets_40 : decode cX1_findSets 40 = .ok (.dup, 1) := by decide +kernel
theorem dX1_findSets_41 : decode cX1_findSets 41 = .ok (.getfield 19, 3) := by decide +kernel
theorem dX1_findSets_44 : decode cX1_findSets 44 = .ok (.iconst 1, 1) := by decide +kernel
theorem dX1_findSets_45 : decode cX1_findSets 45 = .ok (.iadd, 1) := by decide +kernel
theorem dX1_findSets_46 : decode cX1_findSets 46 = .ok (.putfield 19, 3) := by decide +kernel
theorem dX1_findSets_49 : decode cX1_findSets 49 = .ok (.aload_n 0, 1) := by decide +kernel
theorem dX1_findSets_50 : decode cX1_findSets 50 = .ok (.dup, 1) := by decide +kernel
theorem dX1_findSets_51 : decode cX1_findSets 51 = .ok (.getfield 23, 3) := by decide +kernel
theorem dX1_findSets_54 : decode cX1_findSets 54 = .ok (.iload_n 2, 1) := by decide +kernel
theorem dX1_findSets_55 : decode cX1_findSets 55 = .ok (.iand, 1) := by decide +kernel
theorem dX1_findSets_56 : decode cX1_findSets 56 = .ok (.putfield 23, 3) := by decide +kernel
theorem dX1_findSets_59 : decode cX1_findSets 59 = .ok (.aload_n 0, 1) := by decide +kernel
theorem dX1_findSets_60 : decode cX1_findSets 60 = .ok (.dup, 1) := by decide +kernel
theorem dX1_findSets_61 : decode cX1_findSets 61 = .ok (.getfield 26, 3) := by decide +kernel
theorem dX1_findSets_64 : decode cX1_findSets 64 = .ok (.iload_n 2, 1) := by decide +kernel
theorem dX1_findSets_65 : decode cX1_findSets 65 = .ok (.ior, 1) := by decide +kernel
theorem dX1_findSets_66 : decode cX1_findSets 66 = .ok (.putfield 26, 3) := by decide +kernel
theorem dX1_findSets_69 : decode cX1_findSets 69 = .ok (.iinc 2 1, 3) := by decide +kernel
theorem dX1_findSets_72 : decode cX1_findSets 72 = .ok (.goto (-55), 3) := by decide +kernel
theorem dX1_findSets_75 : decode cX1_findSets 75 = .ok (.return_, 1) := by decide +kernel
theorem dX1_fitsReadings_0 : decode cX1_fitsReadings 0 = .ok (.iconst 0, 1) := by decide +kernel
theorem dX1_fitsReadings_1 : decode cX1_fitsReadings 1 = .ok (.istore_n 3, 1) := by decide +kernel
theorem dX1_fitsReadings_2 : decode cX1_fitsReadings 2 = .ok (.iload_n 3, 1) := by decide +kernel
theorem dX1_fitsReadings_3 : decode cX1_fitsReadings 3 = .ok (.aload_n 1, 1) := by decide +kernel
theorem dX1_fitsReadings_4 : decode cX1_fitsReadings 4 = .ok (.getfield 44, 3) := by decide +kernel
theorem dX1_fitsReadings_7 : decode cX1_fitsReadings 7 = .ok (.getfield 35, 3) := by decide +kernel
theorem dX1_fitsReadings_10 : decode cX1_fitsReadings 10 = .ok (.if_icmp .ge 57, 3) := by decide +kernel
theorem dX1_fitsReadings_13 : decode cX1_fitsReadings 13 = .ok (.aload_n 0, 1) := by decide +kernel
theorem dX1_fitsReadings_14 : decode cX1_fitsReadings 14 = .ok (.getfield 15, 3) := by decide +kernel
theorem dX1_fitsReadings_17 : decode cX1_fitsReadings 17 = .ok (.aload_n 1, 1) := by decide +kernel
theorem dX1_fitsReadings_18 : decode cX1_fitsReadings 18 = .ok (.aload_n 1, 1) := by decide +kernel
theorem dX1_fitsReadings_19 : decode cX1_fitsReadings 19 = .ok (.getfield 44, 3) := by decide +kernel
theorem dX1_fitsReadings_22 : decode cX1_fitsReadings 22 = .ok (.iload_n 3, 1) := by decide +kernel
theorem dX1_fitsReadings_23 : decode cX1_fitsReadings 23 = .ok (.iconst 0, 1) := by decide +kernel
theorem dX1_fitsReadings_24 : decode cX1_fitsReadings 24 = .ok (.invokevirtual 47, 3) := by decide +kernel
theorem dX1_fitsReadings_27 : decode cX1_fitsReadings 27 = .ok (.iload_n 2, 1) := by decide +kernel
theorem dX1_fitsReadings_28 : decode cX1_fitsReadings 28 = .ok (.invokevirtual 51, 3) := by decide +kernel
theorem dX1_fitsReadings_31 : decode cX1_fitsReadings 31 = .ok (.aload_n 0, 1) := by decide +kernel
theorem dX1_fitsReadings_32 : decode cX1_fitsReadings 32 = .ok (.getfield 15, 3) := by decide +kernel
theorem dX1_fitsReadings_35 : decode cX1_fitsReadings 35 = .ok (.aload_n 1, 1) := by decide +kernel
theorem dX1_fitsReadings_36 : decode cX1_fitsReadings 36 = .ok (.getfield 44, 3) := by decide +kernel
theorem dX1_fitsReadings_39 : decode cX1_fitsReadings 39 = .ok (.iload_n 3, 1) := by decide +kernel
theorem dX1_fitsReadings_40 : decode cX1_fitsReadings 40 = .ok (.iconst 1, 1) := by decide +kernel
theorem dX1_fitsReadings_41 : decode cX1_fitsReadings 41 = .ok (.invokevirtual 47, 3) := by decide +kernel
theorem dX1_fitsReadings_44 : decode cX1_fitsReadings 44 = .ok (.invokevirtual 57, 3) := by decide +kernel
theorem dX1_fitsReadings_47 : decode cX1_fitsReadings 47 = .ok (.aload_n 1, 1) := by decide +kernel
theorem dX1_fitsReadings_48 : decode cX1_fitsReadings 48 = .ok (.getfield 44, 3) := by decide +kernel
theorem dX1_fitsReadings_51 : decode cX1_fitsReadings 51 = .ok (.iload_n 3, 1) := by decide +kernel
theorem dX1_fitsReadings_52 : decode cX1_fitsReadings 52 = .ok (.iconst 2, 1) := by decide +kernel
theorem dX1_fitsReadings_53 : decode cX1_fitsReadings 53 = .ok (.invokevirtual 47, 3) := by decide +kernel
theorem dX1_fitsReadings_56 : decode cX1_fitsReadings 56 = .ok (.if_icmp .eq 5, 3) := by decide +kernel
theorem dX1_fitsReadings_59 : decode cX1_fitsReadings 59 = .ok (.iconst 0, 1) := by decide +kernel
theorem dX1_fitsReadings_60 : decode cX1_fitsReadings 60 = .ok (.ireturn, 1) := by decide +kernel
theorem dX1_fitsReadings_61 : decode cX1_fitsReadings 61 = .ok (.iinc 3 1, 3) := by decide +kernel
theorem dX1_fitsReadings_64 : decode cX1_fitsReadings 64 = .ok (.goto (-62), 3) := by decide +kernel
theorem dX1_fitsReadings_67 : decode cX1_fitsReadings 67 = .ok (.iconst 1, 1) := by decide +kernel
theorem dX1_fitsReadings_68 : decode cX1_fitsReadings 68 = .ok (.ireturn, 1) := by decide +kernel
theorem dX1_userKinds_0 : decode cX1_userKinds 0 = .ok (.iconst 0, 1) := by decide +kernel
theorem dX1_userKinds_1 : decode cX1_userKinds 1 = .ok (.istore_n 3, 1) := by decide +kernel
theorem dX1_userKinds_2 : decode cX1_userKinds 2 = .ok (.iconst 0, 1) := by decide +kernel
theorem dX1_userKinds_3 : decode cX1_userKinds 3 = .ok (.istore 4, 2) := by decide +kernel
theorem dX1_userKinds_5 : decode cX1_userKinds 5 = .ok (.iload 4, 2) := by decide +kernel
theorem dX1_userKinds_7 : decode cX1_userKinds 7 = .ok (.bipush 6, 2) := by decide +kernel
theorem dX1_userKinds_9 : decode cX1_userKinds 9 = .ok (.if_icmp .ge 29, 3) := by decide +kernel
theorem dX1_userKinds_12 : decode cX1_userKinds 12 = .ok (.aload_n 1, 1) := by decide +kernel
theorem dX1_userKinds_13 : decode cX1_userKinds 13 = .ok (.getfield 61, 3) := by decide +kernel
theorem dX1_userKinds_16 : decode cX1_userKinds 16 = .ok (.iload_n 2, 1) := by decide +kernel
theorem dX1_userKinds_17 : decode cX1_userKinds 17 = .ok (.iload 4, 2) := by decide +kernel
theorem dX1_userKinds_19 : decode cX1_userKinds 19 = .ok (.invokestatic 64, 3) := by decide +kernel
theorem dX1_userKinds_22 : decode cX1_userKinds 22 = .ok (.ifCond .eq 10, 3) := by decide +kernel
theorem dX1_userKinds_25 : decode cX1_userKinds 25 = .ok (.iload_n 3, 1) := by decide +kernel
theorem dX1_userKinds_26 : decode cX1_userKinds 26 = .ok (.iconst 1, 1) := by decide +kernel
theorem dX1_userKinds_27 : decode cX1_userKinds 27 = .ok (.iload 4, 2) := by decide +kernel
theorem dX1_userKinds_29 : decode cX1_userKinds 29 = .ok (.ishl, 1) := by decide +kernel
theorem dX1_userKinds_30 : decode cX1_userKinds 30 = .ok (.ior, 1) := by decide +kernel
theorem dX1_userKinds_31 : decode cX1_userKinds 31 = .ok (.istore_n 3, 1) := by decide +kernel
theorem dX1_userKinds_32 : decode cX1_userKinds 32 = .ok (.iinc 4 1, 3) := by decide +kernel
theorem dX1_userKinds_35 : decode cX1_userKinds 35 = .ok (.goto (-30), 3) := by decide +kernel
theorem dX1_userKinds_38 : decode cX1_userKinds 38 = .ok (.iload_n 3, 1) := by decide +kernel
theorem dX1_userKinds_39 : decode cX1_userKinds 39 = .ok (.ireturn, 1) := by decide +kernel
theorem dX1_fitsNotes_0 : decode cX1_fitsNotes 0 = .ok (.iconst 0, 1) := by decide +kernel
theorem dX1_fitsNotes_1 : decode cX1_fitsNotes 1 = .ok (.istore_n 3, 1) := by decide +kernel
theorem dX1_fitsNotes_2 : decode cX1_fitsNotes 2 = .ok (.iload_n 3, 1) := by decide +kernel
theorem dX1_fitsNotes_3 : decode cX1_fitsNotes 3 = .ok (.aload_n 0, 1) := by decide +kernel
theorem dX1_fitsNotes_4 : decode cX1_fitsNotes 4 = .ok (.getfield 35, 3) := by decide +kernel
theorem dX1_fitsNotes_7 : decode cX1_fitsNotes 7 = .ok (.if_icmp .ge 65, 3) := by decide +kernel
theorem dX1_fitsNotes_10 : decode cX1_fitsNotes 10 = .ok (.aload_n 0, 1) := by decide +kernel
theorem dX1_fitsNotes_11 : decode cX1_fitsNotes 11 = .ok (.iload_n 3, 1) := by decide +kernel
theorem dX1_fitsNotes_12 : decode cX1_fitsNotes 12 = .ok (.iconst 0, 1) := by decide +kernel
theorem dX1_fitsNotes_13 : decode cX1_fitsNotes 13 = .ok (.invokevirtual 47, 3) := by decide +kernel
theorem dX1_fitsNotes_16 : decode cX1_fitsNotes 16 = .ok (.iload_n 1, 1) := by decide +kernel
theorem dX1_fitsNotes_17 : decode cX1_fitsNotes 17 = .ok (.if_icmp .ne 49, 3) := by decide +kernel
theorem dX1_fitsNotes_20 : decode cX1_fitsNotes 20 = .ok (.iload_n 2, 1) := by decide +kernel
theorem dX1_fitsNotes_21 : decode cX1_fitsNotes 21 = .ok (.aload_n 0, 1) := by decide +kernel
theorem dX1_fitsNotes_22 : decode cX1_fitsNotes 22 = .ok (.iload_n 3, 1) := by decide +kernel
theorem dX1_fitsNotes_23 : decode cX1_fitsNotes 23 = .ok (.iconst 1, 1) := by decide +kernel
theorem dX1_fitsNotes_24 : decode cX1_fitsNotes 24 = .ok (.invokevirtual 47, 3) := by decide +kernel
theorem dX1_fitsNotes_27 : decode cX1_fitsNotes 27 = .ok (.aload_n 0, 1) := by decide +kernel
theorem dX1_fitsNotes_28 : decode cX1_fitsNotes 28 = .ok (.iload_n 3, 1) := by decide +kernel
theorem dX1_fitsNotes_29 : decode cX1_fitsNotes 29 = .ok (.iconst 2, 1) := by decide +kernel
theorem dX1_fitsNotes_30 : decode cX1_fitsNotes 30 = .ok (.invokevirtual 47, 3) := by decide +kernel
theorem dX1_fitsNotes_33 : decode cX1_fitsNotes 33 = .ok (.invokestatic 68, 3) := by decide +kernel
theorem dX1_fitsNotes_36 : decode cX1_fitsNotes 36 = .ok (.istore 4, 2) := by decide +kernel
theorem dX1_fitsNotes_38 : decode cX1_fitsNotes 38 = .ok (.iload 4, 2) := by decide +kernel
theorem dX1_fitsNotes_40 : decode cX1_fitsNotes 40 = .ok (.aload_n 0, 1) := by decide +kernel
theorem dX1_fitsNotes_41 : decode cX1_fitsNotes 41 = .ok (.iload_n 3, 1) := by decide +kernel
theorem dX1_fitsNotes_42 : decode cX1_fitsNotes 42 = .ok (.iconst 3, 1) := by decide +kernel
theorem dX1_fitsNotes_43 : decode cX1_fitsNotes 43 = .ok (.invokevirtual 47, 3) := by decide +kernel
theorem dX1_fitsNotes_46 : decode cX1_fitsNotes 46 = .ok (.if_icmp .ne 18, 3) := by decide +kernel
theorem dX1_fitsNotes_49 : decode cX1_fitsNotes 49 = .ok (.iload_n 2, 1) := by decide +kernel
theorem dX1_fitsNotes_50 : decode cX1_fitsNotes 50 = .ok (.iload 4, 2) := by decide +kernel
theorem dX1_fitsNotes_52 : decode cX1_fitsNotes 52 = .ok (.invokestatic 74, 3) := by decide +kernel
theorem dX1_fitsNotes_55 : decode cX1_fitsNotes 55 = .ok (.aload_n 0, 1) := by decide +kernel
theorem dX1_fitsNotes_56 : decode cX1_fitsNotes 56 = .ok (.iload_n 3, 1) := by decide +kernel
theorem dX1_fitsNotes_57 : decode cX1_fitsNotes 57 = .ok (.iconst 4, 1) := by decide +kernel
theorem dX1_fitsNotes_58 : decode cX1_fitsNotes 58 = .ok (.invokevirtual 47, 3) := by decide +kernel
theorem dX1_fitsNotes_61 : decode cX1_fitsNotes 61 = .ok (.if_icmp .eq 5, 3) := by decide +kernel
theorem dX1_fitsNotes_64 : decode cX1_fitsNotes 64 = .ok (.iconst 0, 1) := by decide +kernel
theorem dX1_fitsNotes_65 : decode cX1_fitsNotes 65 = .ok (.ireturn, 1) := by decide +kernel
theorem dX1_fitsNotes_66 : decode cX1_fitsNotes 66 = .ok (.iinc 3 1, 3) := by decide +kernel
theorem dX1_fitsNotes_69 : decode cX1_fitsNotes 69 = .ok (.goto (-67), 3) := by decide +kernel
theorem dX1_fitsNotes_72 : decode cX1_fitsNotes 72 = .ok (.iconst 1, 1) := by decide +kernel
theorem dX1_fitsNotes_73 : decode cX1_fitsNotes 73 = .ok (.ireturn, 1) := by decide +kernel
theorem dX1_nextWind_0 : decode cX1_nextWind 0 = .ok (.aload_n 0, 1) := by decide +kernel
theorem dX1_nextWind_1 : decode cX1_nextWind 1 = .ok (.aload_n 1, 1) := by decide +kernel
theorem dX1_nextWind_2 : decode cX1_nextWind 2 = .ok (.iload_n 2, 1) := by decide +kernel
theorem dX1_nextWind_3 : decode cX1_nextWind 3 = .ok (.invokevirtual 77, 3) := by decide +kernel
theorem dX1_nextWind_6 : decode cX1_nextWind 6 = .ok (.istore_n 3, 1) := by decide +kernel
theorem dX1_nextWind_7 : decode cX1_nextWind 7 = .ok (.aload_n 1, 1) := by decide +kernel
theorem dX1_nextWind_8 : decode cX1_nextWind 8 = .ok (.getfield 29, 3) := by decide +kernel
theorem dX1_nextWind_11 : decode cX1_nextWind 11 = .ok (.iload_n 2, 1) := by decide +kernel
theorem dX1_nextWind_12 : decode cX1_nextWind 12 = .ok (.iconst 2, 1) := by decide +kernel
theorem dX1_nextWind_13 : decode cX1_nextWind 13 = .ok (.invokevirtual 47, 3) := by decide +kernel
theorem dX1_nextWind_16 : decode cX1_nextWind 16 = .ok (.istore 4, 2) := by decide +kernel
theorem dX1_nextWind_18 : decode cX1_nextWind 18 = .ok (.bipush 7, 2) := by decide +kernel
theorem dX1_nextWind_20 : decode cX1_nextWind 20 = .ok (.istore 5, 2) := by decide +kernel
theorem dX1_nextWind_22 : decode cX1_nextWind 22 = .ok (.iconst (-1), 1) := by decide +kernel
theorem dX1_nextWind_23 : decode cX1_nextWind 23 = .ok (.istore 6, 2) := by decide +kernel
theorem dX1_nextWind_25 : decode cX1_nextWind 25 = .ok (.iconst 0, 1) := by decide +kernel
theorem dX1_nextWind_26 : decode cX1_nextWind 26 = .ok (.istore 7, 2) := by decide +kernel
theorem dX1_nextWind_28 : decode cX1_nextWind 28 = .ok (.iload 7, 2) := by decide +kernel
theorem dX1_nextWind_30 : decode cX1_nextWind 30 = .ok (.bipush 20, 2) := by decide +kernel
theorem dX1_nextWind_32 : decode cX1_nextWind 32 = .ok (.if_icmp .gt 83, 3) := by decide +kernel
theorem dX1_nextWind_35 : decode cX1_nextWind 35 = .ok (.iload_n 3, 1) := by decide +kernel
theorem dX1_nextWind_36 : decode cX1_nextWind 36 = .ok (.ifCond .eq 79, 3) := by decide +kernel
theorem dX1_nextWind_39 : decode cX1_nextWind 39 = .ok (.iconst 0, 1) := by decide +kernel
theorem dX1_nextWind_40 : decode cX1_nextWind 40 = .ok (.istore 8, 2) := by decide +kernel
theorem dX1_nextWind_42 : decode cX1_nextWind 42 = .ok (.iload 8, 2) := by decide +kernel
theorem dX1_nextWind_44 : decode cX1_nextWind 44 = .ok (.bipush 6, 2) := by decide +kernel
theorem dX1_nextWind_46 : decode cX1_nextWind 46 = .ok (.if_icmp .ge 41, 3) := by decide +kernel
theorem dX1_nextWind_49 : decode cX1_nextWind 49 = .ok (.iload 8, 2) := by decide +kernel
theorem dX1_nextWind_51 : decode cX1_nextWind 51 = .ok (.iload 4, 2) := by decide +kernel
theorem dX1_nextWind_53 : decode cX1_nextWind 53 = .ok (.iload 7, 2) := by decide +kernel
theorem dX1_nextWind_55 : decode cX1_nextWind 55 = .ok (.invokestatic 68, 3) := by decide +kernel
theorem dX1_nextWind_58 : decode cX1_nextWind 58 = .ok (.istore 9, 2) := by decide +kernel
theorem dX1_nextWind_60 : decode cX1_nextWind 60 = .ok (.aload_n 0, 1) := by decide +kernel
theorem dX1_nextWind_61 : decode cX1_nextWind 61 = .ok (.getfield 9, 3) := by decide +kernel
theorem dX1_nextWind_64 : decode cX1_nextWind 64 = .ok (.iload 8, 2) := by decide +kernel
theorem dX1_nextWind_66 : decode cX1_nextWind 66 = .ok (.sipush 1000, 3) := by decide +kernel
theorem dX1_nextWind_69 : decode cX1_nextWind 69 = .ok (.iload 9, 2) := by decide +kernel
theorem dX1_nextWind_71 : decode cX1_nextWind 71 = .ok (.imul, 1) := by decide +kernel
theorem dX1_nextWind_72 : decode cX1_nextWind 72 = .ok (.iload 8, 2) := by decide +kernel
theorem dX1_nextWind_74 : decode cX1_nextWind 74 = .ok (.iload 9, 2) := by decide +kernel
theorem dX1_nextWind_76 : decode cX1_nextWind 76 = .ok (.invokestatic 74, 3) := by decide +kernel
theorem dX1_nextWind_79 : decode cX1_nextWind 79 = .ok (.iadd, 1) := by decide +kernel
theorem dX1_nextWind_80 : decode cX1_nextWind 80 = .ok (.iastore, 1) := by decide +kernel
theorem dX1_nextWind_81 : decode cX1_nextWind 81 = .ok (.iinc 8 1, 3) := by decide +kernel
theorem dX1_nextWind_84 : decode cX1_nextWind 84 = .ok (.goto (-42), 3) := by decide +kernel
theorem dX1_nextWind_87 : decode cX1_nextWind 87 = .ok (.aload_n 0, 1) := by decide +kernel
theorem dX1_nextWind_88 : decode cX1_nextWind 88 = .ok (.iload_n 3, 1) := by decide +kernel
theorem dX1_nextWind_89 : decode cX1_nextWind 89 = .ok (.invokevirtual 81, 3) := by decide +kernel
theorem dX1_nextWind_92 : decode cX1_nextWind 92 = .ok (.istore 8, 2) := by decide +kernel
theorem dX1_nextWind_94 : decode cX1_nextWind 94 = .ok (.iload 8, 2) := by decide +kernel
theorem dX1_nextWind_96 : decode cX1_nextWind 96 = .ok (.iload 5, 2) := by decide +kernel
theorem dX1_nextWind_98 : decode cX1_nextWind 98 = .ok (.if_icmp .ge 11, 3) := by decide +kernel
theorem dX1_nextWind_101 : decode cX1_nextWind 101 = .ok (.iload 8, 2) := by decide +kernel
theorem dX1_nextWind_103 : decode cX1_nextWind 103 = .ok (.istore 5, 2) := by decide +kernel
theorem dX1_nextWind_105 : decode cX1_nextWind 105 = .ok (.iload 7, 2) := by decide +kernel
theorem dX1_nextWind_107 : decode cX1_nextWind 107 = .ok (.istore 6, 2) := by decide +kernel
theorem dX1_nextWind_109 : decode cX1_nextWind 109 = .ok (.iinc 7 1, 3) := by decide +kernel
theorem dX1_nextWind_112 : decode cX1_nextWind 112 = .ok (.goto (-84), 3) := by decide +kernel
theorem dX1_nextWind_115 : decode cX1_nextWind 115 = .ok (.iload 6, 2) := by decide +kernel
theorem dX1_nextWind_117 : decode cX1_nextWind 117 = .ok (.ireturn, 1) := by decide +kernel
theorem dX1_suitKinds_0 : decode cX1_suitKinds 0 = .ok (.iconst 0, 1) := by decide +kernel
theorem dX1_suitKinds_1 : decode cX1_suitKinds 1 = .ok (.istore_n 3, 1) := by decide +kernel
theorem dX1_suitKinds_2 : decode cX1_suitKinds 2 = .ok (.iconst 0, 1) := by decide +kernel
theorem dX1_suitKinds_3 : decode cX1_suitKinds 3 = .ok (.istore 4, 2) := by decide +kernel
theorem dX1_suitKinds_5 : decode cX1_suitKinds 5 = .ok (.iload 4, 2) := by decide +kernel
theorem dX1_suitKinds_7 : decode cX1_suitKinds 7 = .ok (.bipush 6, 2) := by decide +kernel
theorem dX1_suitKinds_9 : decode cX1_suitKinds 9 = .ok (.if_icmp .ge 29, 3) := by decide +kernel
theorem dX1_suitKinds_12 : decode cX1_suitKinds 12 = .ok (.aload_n 1, 1) := by decide +kernel
theorem dX1_suitKinds_13 : decode cX1_suitKinds 13 = .ok (.getfield 84, 3) := by decide +kernel
theorem dX1_suitKinds_16 : decode cX1_suitKinds 16 = .ok (.iload_n 2, 1) := by decide +kernel
theorem dX1_suitKinds_17 : decode cX1_suitKinds 17 = .ok (.iload 4, 2) := by decide +kernel
theorem dX1_suitKinds_19 : decode cX1_suitKinds 19 = .ok (.invokestatic 87, 3) := by decide +kernel
theorem dX1_suitKinds_22 : decode cX1_suitKinds 22 = .ok (.ifCond .eq 10, 3) := by decide +kernel
theorem dX1_suitKinds_25 : decode cX1_suitKinds 25 = .ok (.iload_n 3, 1) := by decide +kernel
theorem dX1_suitKinds_26 : decode cX1_suitKinds 26 = .ok (.iconst 1, 1) := by decide +kernel
theorem dX1_suitKinds_27 : decode cX1_suitKinds 27 = .ok (.iload 4, 2) := by decide +kernel
theorem dX1_suitKinds_29 : decode cX1_suitKinds 29 = .ok (.ishl, 1) := by decide +kernel
theorem dX1_suitKinds_30 : decode cX1_suitKinds 30 = .ok (.ior, 1) := by decide +kernel
theorem dX1_suitKinds_31 : decode cX1_suitKinds 31 = .ok (.istore_n 3, 1) := by decide +kernel
theorem dX1_suitKinds_32 : decode cX1_suitKinds 32 = .ok (.iinc 4 1, 3) := by decide +kernel
theorem dX1_suitKinds_35 : decode cX1_suitKinds 35 = .ok (.goto (-30), 3) := by decide +kernel
theorem dX1_suitKinds_38 : decode cX1_suitKinds 38 = .ok (.iload_n 3, 1) := by decide +kernel
theorem dX1_suitKinds_39 : decode cX1_suitKinds 39 = .ok (.ireturn, 1) := by decide +kernel
theorem dX1_fitsMarks_0 : decode cX1_fitsMarks 0 = .ok (.iconst 0, 1) := by decide +kernel
theorem dX1_fitsMarks_1 : decode cX1_fitsMarks 1 = .ok (.istore_n 3, 1) := by decide +kernel
theorem dX1_fitsMarks_2 : decode cX1_fitsMarks 2 = .ok (.iload_n 3, 1) := by decide +kernel
theorem dX1_fitsMarks_3 : decode cX1_fitsMarks 3 = .ok (.aload_n 0, 1) := by decide +kernel
theorem dX1_fitsMarks_4 : decode cX1_fitsMarks 4 = .ok (.getfield 35, 3) := by decide +kernel
theorem dX1_fitsMarks_7 : decode cX1_fitsMarks 7 = .ok (.if_icmp .ge 50, 3) := by decide +kernel
theorem dX1_fitsMarks_10 : decode cX1_fitsMarks 10 = .ok (.aload_n 0, 1) := by decide +kernel
theorem dX1_fitsMarks_11 : decode cX1_fitsMarks 11 = .ok (.iload_n 3, 1) := by decide +kernel
theorem dX1_fitsMarks_12 : decode cX1_fitsMarks 12 = .ok (.iconst 0, 1) := by decide +kernel
theorem dX1_fitsMarks_13 : decode cX1_fitsMarks 13 = .ok (.invokevirtual 47, 3) := by decide +kernel
theorem dX1_fitsMarks_16 : decode cX1_fitsMarks 16 = .ok (.iload_n 1, 1) := by decide +kernel
theorem dX1_fitsMarks_17 : decode cX1_fitsMarks 17 = .ok (.if_icmp .ne 34, 3) := by decide +kernel
theorem dX1_fitsMarks_20 : decode cX1_fitsMarks 20 = .ok (.iload_n 2, 1) := by decide +kernel
theorem dX1_fitsMarks_21 : decode cX1_fitsMarks 21 = .ok (.aload_n 0, 1) := by decide +kernel
theorem dX1_fitsMarks_22 : decode cX1_fitsMarks 22 = .ok (.iload_n 3, 1) := by decide +kernel
theorem dX1_fitsMarks_23 : decode cX1_fitsMarks 23 = .ok (.iconst 1, 1) := by decide +kernel
theorem dX1_fitsMarks_24 : decode cX1_fitsMarks 24 = .ok (.invokevirtual 47, 3) := by decide +kernel
theorem dX1_fitsMarks_27 : decode cX1_fitsMarks 27 = .ok (.aload_n 0, 1) := by decide +kernel
theorem dX1_fitsMarks_28 : decode cX1_fitsMarks 28 = .ok (.iload_n 3, 1) := by decide +kernel
theorem dX1_fitsMarks_29 : decode cX1_fitsMarks 29 = .ok (.iconst 2, 1) := by decide +kernel
theorem dX1_fitsMarks_30 : decode cX1_fitsMarks 30 = .ok (.invokevirtual 47, 3) := by decide +kernel
theorem dX1_fitsMarks_33 : decode cX1_fitsMarks 33 = .ok (.invokestatic 90, 3) := by decide +kernel
theorem dX1_fitsMarks_36 : decode cX1_fitsMarks 36 = .ok (.istore 4, 2) := by decide +kernel
theorem dX1_fitsMarks_38 : decode cX1_fitsMarks 38 = .ok (.iload 4, 2) := by decide +kernel
theorem dX1_fitsMarks_40 : decode cX1_fitsMarks 40 = .ok (.aload_n 0, 1) := by decide +kernel
theorem dX1_fitsMarks_41 : decode cX1_fitsMarks 41 = .ok (.iload_n 3, 1) := by decide +kernel
theorem dX1_fitsMarks_42 : decode cX1_fitsMarks 42 = .ok (.iconst 3, 1) := by decide +kernel
theorem dX1_fitsMarks_43 : decode cX1_fitsMarks 43 = .ok (.invokevirtual 47, 3) := by decide +kernel
theorem dX1_fitsMarks_46 : decode cX1_fitsMarks 46 = .ok (.if_icmp .eq 5, 3) := by decide +kernel
theorem dX1_fitsMarks_49 : decode cX1_fitsMarks 49 = .ok (.iconst 0, 1) := by decide +kernel
theorem dX1_fitsMarks_50 : decode cX1_fitsMarks 50 = .ok (.ireturn, 1) := by decide +kernel
theorem dX1_fitsMarks_51 : decode cX1_fitsMarks 51 = .ok (.iinc 3 1, 3) := by decide +kernel
theorem dX1_fitsMarks_54 : decode cX1_fitsMarks 54 = .ok (.goto (-52), 3) := by decide +kernel
theorem dX1_fitsMarks_57 : decode cX1_fitsMarks 57 = .ok (.iconst 1, 1) := by decide +kernel
theorem dX1_fitsMarks_58 : decode cX1_fitsMarks 58 = .ok (.ireturn, 1) := by decide +kernel
theorem dX1_nextTry_0 : decode cX1_nextTry 0 = .ok (.aload_n 0, 1) := by decide +kernel
theorem dX1_nextTry_1 : decode cX1_nextTry 1 = .ok (.aload_n 1, 1) := by decide +kernel
theorem dX1_nextTry_2 : decode cX1_nextTry 2 = .ok (.iload_n 2, 1) := by decide +kernel
theorem dX1_nextTry_3 : decode cX1_nextTry 3 = .ok (.invokevirtual 93, 3) := by decide +kernel
theorem dX1_nextTry_6 : decode cX1_nextTry 6 = .ok (.istore_n 3, 1) := by decide +kernel
theorem dX1_nextTry_7 : decode cX1_nextTry 7 = .ok (.bipush 7, 2) := by decide +kernel
theorem dX1_nextTry_9 : decode cX1_nextTry 9 = .ok (.istore 4, 2) := by decide +kernel
theorem dX1_nextTry_11 : decode cX1_nextTry 11 = .ok (.iconst (-1), 1) := by decide +kernel
theorem dX1_nextTry_12 : decode cX1_nextTry 12 = .ok (.istore 5, 2) := by decide +kernel
theorem dX1_nextTry_14 : decode cX1_nextTry 14 = .ok (.iconst 0, 1) := by decide +kernel
theorem dX1_nextTry_15 : decode cX1_nextTry 15 = .ok (.istore 6, 2) := by decide +kernel
theorem dX1_nextTry_17 : decode cX1_nextTry 17 = .ok (.iload 6, 2) := by decide +kernel
theorem dX1_nextTry_19 : decode cX1_nextTry 19 = .ok (.sipush 310, 3) := by decide +kernel
theorem dX1_nextTry_22 : decode cX1_nextTry 22 = .ok (.if_icmp .ge 73, 3) := by decide +kernel
theorem dX1_nextTry_25 : decode cX1_nextTry 25 = .ok (.iload_n 3, 1) := by decide +kernel
theorem dX1_nextTry_26 : decode cX1_nextTry 26 = .ok (.ifCond .eq 69, 3) := by decide +kernel
theorem dX1_nextTry_29 : decode cX1_nextTry 29 = .ok (.iconst 0, 1) := by decide +kernel
theorem dX1_nextTry_30 : decode cX1_nextTry 30 = .ok (.istore 7, 2) := by decide +kernel
theorem dX1_nextTry_32 : decode cX1_nextTry 32 = .ok (.iload 7, 2) := by decide +kernel
theorem dX1_nextTry_34 : decode cX1_nextTry 34 = .ok (.bipush 6, 2) := by decide +kernel
theorem dX1_nextTry_36 : decode cX1_nextTry 36 = .ok (.if_icmp .ge 31, 3) := by decide +kernel
theorem dX1_nextTry_39 : decode cX1_nextTry 39 = .ok (.aload_n 0, 1) := by decide +kernel
theorem dX1_nextTry_40 : decode cX1_nextTry 40 = .ok (.getfield 9, 3) := by decide +kernel
theorem dX1_nextTry_43 : decode cX1_nextTry 43 = .ok (.iload 7, 2) := by decide +kernel
theorem dX1_nextTry_45 : decode cX1_nextTry 45 = .ok (.iload 7, 2) := by decide +kernel
theorem dX1_nextTry_47 : decode cX1_nextTry 47 = .ok (.iload 6, 2) := by decide +kernel
theorem dX1_nextTry_49 : decode cX1_nextTry 49 = .ok (.bipush 10, 2) := by decide +kernel
theorem dX1_nextTry_51 : decode cX1_nextTry 51 = .ok (.idiv, 1) := by decide +kernel
theorem dX1_nextTry_52 : decode cX1_nextTry 52 = .ok (.iload 6, 2) := by decide +kernel
theorem dX1_nextTry_54 : decode cX1_nextTry 54 = .ok (.bipush 10, 2) := by decide +kernel
theorem dX1_nextTry_56 : decode cX1_nextTry 56 = .ok (.irem, 1) := by decide +kernel
theorem dX1_nextTry_57 : decode cX1_nextTry 57 = .ok (.invokestatic 90, 3) := by decide +kernel
theorem dX1_nextTry_60 : decode cX1_nextTry 60 = .ok (.iastore, 1) := by decide +kernel
theorem dX1_nextTry_61 : decode cX1_nextTry 61 = .ok (.iinc 7 1, 3) := by decide +kernel
theorem dX1_nextTry_64 : decode cX1_nextTry 64 = .ok (.goto (-32), 3) := by decide +kernel
theorem dX1_nextTry_67 : decode cX1_nextTry 67 = .ok (.aload_n 0, 1) := by decide +kernel
theorem dX1_nextTry_68 : decode cX1_nextTry 68 = .ok (.iload_n 3, 1) := by decide +kernel
theorem dX1_nextTry_69 : decode cX1_nextTry 69 = .ok (.invokevirtual 81, 3) := by decide +kernel
theorem dX1_nextTry_72 : decode cX1_nextTry 72 = .ok (.istore 7, 2) := by decide +kernel
theorem dX1_nextTry_74 : decode cX1_nextTry 74 = .ok (.iload 7, 2) := by decide +kernel
theorem dX1_nextTry_76 : decode cX1_nextTry 76 = .ok (.iload 4, 2) := by decide +kernel
theorem dX1_nextTry_78 : decode cX1_nextTry 78 = .ok (.if_icmp .ge 11, 3) := by decide +kernel
theorem dX1_nextTry_81 : decode cX1_nextTry 81 = .ok (.iload 7, 2) := by decide +kernel
theorem dX1_nextTry_83 : decode cX1_nextTry 83 = .ok (.istore 4, 2) := by decide +kernel
theorem dX1_nextTry_85 : decode cX1_nextTry 85 = .ok (.iload 6, 2) := by decide +kernel
theorem dX1_nextTry_87 : decode cX1_nextTry 87 = .ok (.istore 5, 2) := by decide +kernel
theorem dX1_nextTry_89 : decode cX1_nextTry 89 = .ok (.iinc 6 1, 3) := by decide +kernel
theorem dX1_nextTry_92 : decode cX1_nextTry 92 = .ok (.goto (-75), 3) := by decide +kernel
theorem dX1_nextTry_95 : decode cX1_nextTry 95 = .ok (.iload 5, 2) := by decide +kernel
theorem dX1_nextTry_97 : decode cX1_nextTry 97 = .ok (.ireturn, 1) := by decide +kernel
theorem dX1_mostAlike_0 : decode cX1_mostAlike 0 = .ok (.iconst 0, 1) := by decide +kernel
theorem dX1_mostAlike_1 : decode cX1_mostAlike 1 = .ok (.istore_n 2, 1) := by decide +kernel
theorem dX1_mostAlike_2 : decode cX1_mostAlike 2 = .ok (.iconst 0, 1) := by decide +kernel
theorem dX1_mostAlike_3 : decode cX1_mostAlike 3 = .ok (.istore_n 3, 1) := by decide +kernel
theorem dX1_mostAlike_4 : decode cX1_mostAlike 4 = .ok (.iload_n 3, 1) := by decide +kernel
theorem dX1_mostAlike_5 : decode cX1_mostAlike 5 = .ok (.bipush 6, 2) := by decide +kernel
theorem dX1_mostAlike_7 : decode cX1_mostAlike 7 = .ok (.if_icmp .ge 68, 3) := by decide +kernel
theorem dX1_mostAlike_10 : decode cX1_mostAlike 10 = .ok (.iconst 0, 1) := by decide +kernel
theorem dX1_mostAlike_11 : decode cX1_mostAlike 11 = .ok (.istore 4, 2) := by decide +kernel
theorem dX1_mostAlike_13 : decode cX1_mostAlike 13 = .ok (.iconst 0, 1) := by decide +kernel
theorem dX1_mostAlike_14 : decode cX1_mostAlike 14 = .ok (.istore 5, 2) := by decide +kernel
theorem dX1_mostAlike_16 : decode cX1_mostAlike 16 = .ok (.iload 5, 2) := by decide +kernel
theorem dX1_mostAlike_18 : decode cX1_mostAlike 18 = .ok (.bipush 6, 2) := by decide +kernel
theorem dX1_mostAlike_20 : decode cX1_mostAlike 20 = .ok (.if_icmp .ge 42, 3) := by decide +kernel
theorem dX1_mostAlike_23 : decode cX1_mostAlike 23 = .ok (.iload_n 1, 1) := by decide +kernel
theorem dX1_mostAlike_24 : decode cX1_mostAlike 24 = .ok (.iload_n 3, 1) := by decide +kernel
theorem dX1_mostAlike_25 : decode cX1_mostAlike 25 = .ok (.ishr, 1) := by decide +kernel
theorem dX1_mostAlike_26 : decode cX1_mostAlike 26 = .ok (.iload_n 1, 1) := by decide +kernel
theorem dX1_mostAlike_27 : decode cX1_mostAlike 27 = .ok (.iload 5, 2) := by decide +kernel
theorem dX1_mostAlike_29 : decode cX1_mostAlike 29 = .ok (.ishr, 1) := by decide +kernel
theorem dX1_mostAlike_30 : decode cX1_mostAlike 30 = .ok (.iand, 1) := by decide +kernel
theorem dX1_mostAlike_31 : decode cX1_mostAlike 31 = .ok (.iconst 1, 1) := by decide +kernel
theorem dX1_mostAlike_32 : decode cX1_mostAlike 32 = .ok (.iand, 1) := by decide +kernel
theorem dX1_mostAlike_33 : decode cX1_mostAlike 33 = .ok (.iconst 1, 1) := by decide +kernel
theorem dX1_mostAlike_34 : decode cX1_mostAlike 34 = .ok (.if_icmp .ne 22, 3) := by decide +kernel
theorem dX1_mostAlike_37 : decode cX1_mostAlike 37 = .ok (.aload_n 0, 1) := by decide +kernel
theorem dX1_mostAlike_38 : decode cX1_mostAlike 38 = .ok (.getfield 9, 3) := by decide +kernel
theorem dX1_mostAlike_41 : decode cX1_mostAlike 41 = .ok (.iload_n 3, 1) := by decide +kernel
theorem dX1_mostAlike_42 : decode cX1_mostAlike 42 = .ok (.iaload, 1) := by decide +kernel
theorem dX1_mostAlike_43 : decode cX1_mostAlike 43 = .ok (.aload_n 0, 1) := by decide +kernel
theorem dX1_mostAlike_44 : decode cX1_mostAlike 44 = .ok (.getfield 9, 3) := by decide +kernel
theorem dX1_mostAlike_47 : decode cX1_mostAlike 47 = .ok (.iload 5, 2) := by decide +kernel
theorem dX1_mostAlike_49 : decode cX1_mostAlike 49 = .ok (.iaload, 1) := by decide +kernel
theorem dX1_mostAlike_50 : decode cX1_mostAlike 50 = .ok (.if_icmp .ne 6, 3) := by decide +kernel
theorem dX1_mostAlike_53 : decode cX1_mostAlike 53 = .ok (.iinc 4 1, 3) := by decide +kernel
theorem dX1_mostAlike_56 : decode cX1_mostAlike 56 = .ok (.iinc 5 1, 3) := by decide +kernel
theorem dX1_mostAlike_59 : decode cX1_mostAlike 59 = .ok (.goto (-43), 3) := by decide +kernel
theorem dX1_mostAlike_62 : decode cX1_mostAlike 62 = .ok (.iload_n 2, 1) := by decide +kernel
theorem dX1_mostAlike_63 : decode cX1_mostAlike 63 = .ok (.iload 4, 2) := by decide +kernel
theorem dX1_mostAlike_65 : decode cX1_mostAlike 65 = .ok (.invokestatic 96, 3) := by decide +kernel
theorem dX1_mostAlike_68 : decode cX1_mostAlike 68 = .ok (.istore_n 2, 1) := by decide +kernel
theorem dX1_mostAlike_69 : decode cX1_mostAlike 69 = .ok (.iinc 3 1, 3) := by decide +kernel
theorem dX1_mostAlike_72 : decode cX1_mostAlike 72 = .ok (.goto (-68), 3) := by decide +kernel
theorem dX1_mostAlike_75 : decode cX1_mostAlike 75 = .ok (.iload_n 2, 1) := by decide +kernel
theorem dX1_mostAlike_76 : decode cX1_mostAlike 76 = .ok (.ireturn, 1) := by decide +kernel
theorem dX2_init_0 : decode cX2_init 0 = .ok (.aload_n 0, 1) := by decide +kernel
theorem dX2_init_1 : decode cX2_init 1 = .ok (.invokespecial 3, 3) := by decide +kernel
theorem dX2_init_4 : decode cX2_init 4 = .ok (.aload_n 0, 1) := by decide +kernel
theorem dX2_init_5 : decode cX2_init 5 = .ok (.new 9, 3) := by decide +kernel
theorem dX2_init_8 : decode cX2_init 8 = .ok (.dup, 1) := by decide +kernel
theorem dX2_init_9 : decode cX2_init 9 = .ok (.bipush 7, 2) := by decide +kernel
theorem dX2_init_11 : decode cX2_init 11 = .ok (.iconst 4, 1) := by decide +kernel
theorem dX2_init_12 : decode cX2_init 12 = .ok (.invokespecial 11, 3) := by decide +kernel
theorem dX2_init_15 : decode cX2_init 15 = .ok (.putfield 14, 3) := by decide +kernel
theorem dX2_init_18 : decode cX2_init 18 = .ok (.aload_n 0, 1) := by decide +kernel
theorem dX2_init_19 : decode cX2_init 19 = .ok (.sipush 128, 3) := by decide +kernel
theorem dX2_init_22 : decode cX2_init 22 = .ok (.newarray .int, 2) := by decide +kernel
theorem dX2_init_24 : decode cX2_init 24 = .ok (.putfield 20, 3) := by decide +kernel
theorem dX2_init_27 : decode cX2_init 27 = .ok (.aload_n 0, 1) := by decide +kernel
theorem dX2_init_28 : decode cX2_init 28 = .ok (.aload_n 1, 1) := by decide +kernel
theorem dX2_init_29 : decode cX2_init 29 = .ok (.putfield 24, 3) := by decide +kernel
theorem dX2_init_32 : decode cX2_init 32 = .ok (.return_, 1) := by decide +kernel
theorem dX2_duesBehind_0 : decode cX2_duesBehind 0 = .ok (.aload_n 1, 1) := by decide +kernel
theorem dX2_duesBehind_1 : decode cX2_duesBehind 1 = .ok (.iload_n 2, 1) := by decide +kernel
theorem dX2_duesBehind_2 : decode cX2_duesBehind 2 = .ok (.invokevirtual 28, 3) := by decide +kernel
theorem dX2_duesBehind_5 : decode cX2_duesBehind 5 = .ok (.istore 4, 2) := by decide +kernel
theorem dX2_duesBehind_7 : decode cX2_duesBehind 7 = .ok (.iconst 0, 1) := by decide +kernel
theorem dX2_duesBehind_8 : decode cX2_duesBehind 8 = .ok (.istore 5, 2) := by decide +kernel
theorem dX2_duesBehind_10 : decode cX2_duesBehind 10 = .ok (.iload 5, 2) := by decide +kernel
theorem dX2_duesBehind_12 : decode cX2_duesBehind 12 = .ok (.iload_n 3, 1) := by decide +kernel
theorem dX2_duesBehind_13 : decode cX2_duesBehind 13 = .ok (.if_icmp .ge 43, 3) := by decide +kernel
theorem dX2_duesBehind_16 : decode cX2_duesBehind 16 = .ok (.aload_n 0, 1) := by decide +kernel
theorem dX2_duesBehind_17 : decode cX2_duesBehind 17 = .ok (.getfield 24, 3) := by decide +kernel
theorem dX2_duesBehind_20 : decode cX2_duesBehind 20 = .ok (.aload_n 1, 1) := by decide +kernel
theorem dX2_duesBehind_21 : decode cX2_duesBehind 21 = .ok (.aload_n 1, 1) := by decide +kernel
theorem dX2_duesBehind_22 : decode cX2_duesBehind 22 = .ok (.getfield 34, 3) := by decide +kernel
theorem dX2_duesBehind_25 : decode cX2_duesBehind 25 = .ok (.iload 5, 2) := by decide +kernel
theorem dX2_duesBehind_27 : decode cX2_duesBehind 27 = .ok (.iadd, 1) := by decide +kernel
theorem dX2_duesBehind_28 : decode cX2_duesBehind 28 = .ok (.bipush 127, 2) := by decide +kernel
theorem dX2_duesBehind_30 : decode cX2_duesBehind 30 = .ok (.invokevirtual 38, 3) := by decide +kernel
theorem dX2_duesBehind_33 : decode cX2_duesBehind 33 = .ok (.iload 4, 2) := by decide +kernel
theorem dX2_duesBehind_35 : decode cX2_duesBehind 35 = .ok (.aload_n 0, 1) := by decide +kernel
theorem dX2_duesBehind_36 : decode cX2_duesBehind 36 = .ok (.getfield 24, 3) := by decide +kernel
theorem dX2_duesBehind_39 : decode cX2_duesBehind 39 = .ok (.aload_n 1, 1) := by decide +kernel
theorem dX2_duesBehind_40 : decode cX2_duesBehind 40 = .ok (.getfield 44, 3) := by decide +kernel
theorem dX2_duesBehind_43 : decode cX2_duesBehind 43 = .ok (.iload_n 2, 1) := by decide +kernel
theorem dX2_duesBehind_44 : decode cX2_duesBehind 44 = .ok (.invokevirtual 47, 3) := by decide +kernel
theorem dX2_duesBehind_47 : decode cX2_duesBehind 47 = .ok (.iadd, 1) := by decide +kernel
theorem dX2_duesBehind_48 : decode cX2_duesBehind 48 = .ok (.istore 4, 2) := by decide +kernel
theorem dX2_duesBehind_50 : decode cX2_duesBehind 50 = .ok (.iinc 5 1, 3) := by decide +kernel
theorem dX2_duesBehind_53 : decode cX2_duesBehind 53 = .ok (.goto (-43), 3) := by decide +kernel
theorem dX2_duesBehind_56 : decode cX2_duesBehind 56 = .ok (.iload 4, 2) := by decide +kernel
theorem dX2_duesBehind_58 : decode cX2_duesBehind 58 = .ok (.ireturn, 1) := by decide +kernel
theorem dX2_firstCalm_0 : decode cX2_firstCalm 0 = .ok (.iconst 0, 1) := by decide +kernel
theorem dX2_firstCalm_1 : decode cX2_firstCalm 1 = .ok (.istore_n 3, 1) := by decide +kernel
theorem dX2_firstCalm_2 : decode cX2_firstCalm 2 = .ok (.iload_n 3, 1) := by decide +kernel
theorem dX2_firstCalm_3 : decode cX2_firstCalm 3 = .ok (.bipush 23, 2) := by decide +kernel
theorem dX2_firstCalm_5 : decode cX2_firstCalm 5 = .ok (.if_icmp .gt 38, 3) := by decide +kernel
theorem dX2_firstCalm_8 : decode cX2_firstCalm 8 = .ok (.aload_n 0, 1) := by decide +kernel
theorem dX2_firstCalm_9 : decode cX2_firstCalm 9 = .ok (.getfield 24, 3) := by decide +kernel
theorem dX2_firstCalm_12 : decode cX2_firstCalm 12 = .ok (.aload_n 1, 1) := by decide +kernel
theorem dX2_firstCalm_13 : decode cX2_firstCalm 13 = .ok (.aload_n 1, 1) := by decide +kernel
theorem dX2_firstCalm_14 : decode cX2_firstCalm 14 = .ok (.getfield 34, 3) := by decide +kernel
theorem dX2_firstCalm_17 : decode cX2_firstCalm 17 = .ok (.iload_n 3, 1) := by decide +kernel
theorem dX2_firstCalm_18 : decode cX2_firstCalm 18 = .ok (.iadd, 1) := by decide +kernel
theorem dX2_firstCalm_19 : decode cX2_firstCalm 19 = .ok (.bipush 127, 2) := by decide +kernel
theorem dX2_firstCalm_21 : decode cX2_firstCalm 21 = .ok (.invokevirtual 38, 3) := by decide +kernel
theorem dX2_firstCalm_24 : decode cX2_firstCalm 24 = .ok (.aload_n 0, 1) := by decide +kernel
theorem dX2_firstCalm_25 : decode cX2_firstCalm 25 = .ok (.getfield 24, 3) := by decide +kernel
theorem dX2_firstCalm_28 : decode cX2_firstCalm 28 = .ok (.iload_n 2, 1) := by decide +kernel
theorem dX2_firstCalm_29 : decode cX2_firstCalm 29 = .ok (.invokevirtual 51, 3) := by decide +kernel
theorem dX2_firstCalm_32 : decode cX2_firstCalm 32 = .ok (.ifCond .ne 5, 3) := by decide +kernel
theorem dX2_firstCalm_35 : decode cX2_firstCalm 35 = .ok (.iload_n 3, 1) := by decide +kernel
theorem dX2_firstCalm_36 : decode cX2_firstCalm 36 = .ok (.ireturn, 1) := by decide +kernel
theorem dX2_firstCalm_37 : decode cX2_firstCalm 37 = .ok (.iinc 3 1, 3) := by decide +kernel
theorem dX2_firstCalm_40 : decode cX2_firstCalm 40 = .ok (.goto (-38), 3) := by decide +kernel
theorem dX2_firstCalm_43 : decode cX2_firstCalm 43 = .ok (.iconst (-1), 1) := by decide +kernel
theorem dX2_firstCalm_44 : decode cX2_firstCalm 44 = .ok (.ireturn, 1) := by decide +kernel
theorem dX2_takenInNext_0 : decode cX2_takenInNext 0 = .ok (.iconst 0, 1) := by decide +kernel
theorem dX2_takenInNext_1 : decode cX2_takenInNext 1 = .ok (.istore 4, 2) := by decide +kernel
theorem dX2_takenInNext_3 : decode cX2_takenInNext 3 = .ok (.iconst 0, 1) := by decide +kernel
theorem dX2_takenInNext_4 : decode cX2_takenInNext 4 = .ok (.istore 5, 2) := by decide +kernel
theorem dX2_takenInNext_6 : decode cX2_takenInNext 6 = .ok (.iload 5, 2) := by decide +kernel
theorem dX2_takenInNext_8 : decode cX2_takenInNext 8 = .ok (.iload_n 3, 1) := by decide +kernel
theorem dX2_takenInNext_9 : decode cX2_takenInNext 9 = .ok (.if_icmp .ge 39, 3) := by decide +kernel
theorem dX2_takenInNext_12 : decode cX2_takenInNext 12 = .ok (.aload_n 0, 1) := by decide +kernel
theorem dX2_takenInNext_13 : decode cX2_takenInNext 13 = .ok (.getfield 24, 3) := by decide +kernel
theorem dX2_takenInNext_16 : decode cX2_takenInNext 16 = .ok (.aload_n 1, 1) := by decide +kernel
theorem dX2_takenInNext_17 : decode cX2_takenInNext 17 = .ok (.aload_n 1, 1) := by decide +kernel
theorem dX2_takenInNext_18 : decode cX2_takenInNext 18 = .ok (.getfield 34, 3) := by decide +kernel
theorem dX2_takenInNext_21 : decode cX2_takenInNext 21 = .ok (.iload 5, 2) := by decide +kernel
theorem dX2_takenInNext_23 : decode cX2_takenInNext 23 = .ok (.iadd, 1) := by decide +kernel
theorem dX2_takenInNext_24 : decode cX2_takenInNext 24 = .ok (.bipush 127, 2) := by decide +kernel
theorem dX2_takenInNext_26 : decode cX2_takenInNext 26 = .ok (.invokevirtual 38, 3) := by decide +kernel
theorem dX2_takenInNext_29 : decode cX2_takenInNext 29 = .ok (.iload 4, 2) := by decide +kernel
theorem dX2_takenInNext_31 : decode cX2_takenInNext 31 = .ok (.aload_n 0, 1) := by decide +kernel
theorem dX2_takenInNext_32 : decode cX2_takenInNext 32 = .ok (.getfield 24, 3) := by decide +kernel
theorem dX2_takenInNext_35 : decode cX2_takenInNext 35 = .ok (.iload_n 2, 1) := by decide +kernel
theorem dX2_takenInNext_36 : decode cX2_takenInNext 36 = .ok (.invokevirtual 51, 3) := by decide +kernel
theorem dX2_takenInNext_39 : decode cX2_takenInNext 39 = .ok (.iadd, 1) := by decide +kernel
theorem dX2_takenInNext_40 : decode cX2_takenInNext 40 = .ok (.istore 4, 2) := by decide +kernel
theorem dX2_takenInNext_42 : decode cX2_takenInNext 42 = .ok (.iinc 5 1, 3) := by decide +kernel
theorem dX2_takenInNext_45 : decode cX2_takenInNext 45 = .ok (.goto (-39), 3) := by decide +kernel
theorem dX2_takenInNext_48 : decode cX2_takenInNext 48 = .ok (.iload 4, 2) := by decide +kernel
theorem dX2_takenInNext_50 : decode cX2_takenInNext 50 = .ok (.ireturn, 1) := by decide +kernel
theorem dX2_findPlace_0 : decode cX2_findPlace 0 = .ok (.aload_n 1, 1) := by decide +kernel
theorem dX2_findPlace_1 : decode cX2_findPlace 1 = .ok (.getfield 44, 3) := by decide +kernel
theorem dX2_findPlace_4 : decode cX2_findPlace 4 = .ok (.getfield 54, 3) := by decide +kernel
theorem dX2_findPlace_7 : decode cX2_findPlace 7 = .ok (.istore 4, 2) := by decide +kernel
theorem dX2_findPlace_9 : decode cX2_findPlace 9 = .ok (.aload_n 0, 1) := by decide +kernel
theorem dX2_findPlace_10 : decode cX2_findPlace 10 = .ok (.aload_n 1, 1) := by decide +kernel
theorem dX2_findPlace_11 : decode cX2_findPlace 11 = .ok (.aload_n 1, 1) := by decide +kernel
theorem dX2_findPlace_12 : decode cX2_findPlace 12 = .ok (.getfield 44, 3) := by decide +kernel
theorem dX2_findPlace_15 : decode cX2_findPlace 15 = .ok (.bipush 127, 2) := by decide +kernel
theorem dX2_findPlace_17 : decode cX2_findPlace 17 = .ok (.iload 4, 2) := by decide +kernel
theorem dX2_findPlace_19 : decode cX2_findPlace 19 = .ok (.invokevirtual 57, 3) := by decide +kernel
theorem dX2_findPlace_22 : decode cX2_findPlace 22 = .ok (.istore 5, 2) := by decide +kernel
theorem dX2_findPlace_24 : decode cX2_findPlace 24 = .ok (.aload_n 0, 1) := by decide +kernel
theorem dX2_findPlace_25 : decode cX2_findPlace 25 = .ok (.getfield 14, 3) := by decide +kernel
theorem dX2_findPlace_28 : decode cX2_findPlace 28 = .ok (.aload_n 1, 1) := by decide +kernel
theorem dX2_findPlace_29 : decode cX2_findPlace 29 = .ok (.getfield 44, 3) := by decide +kernel
theorem dX2_findPlace_32 : decode cX2_findPlace 32 = .ok (.invokevirtual 61, 3) := by decide +kernel
theorem dX2_findPlace_35 : decode cX2_findPlace 35 = .ok (.aload_n 0, 1) := by decide +kernel
theorem dX2_findPlace_36 : decode cX2_findPlace 36 = .ok (.getfield 14, 3) := by decide +kernel
theorem dX2_findPlace_39 : decode cX2_findPlace 39 = .ok (.invokevirtual 65, 3) := by decide +kernel
theorem dX2_findPlace_42 : decode cX2_findPlace 42 = .ok (.istore 6, 2) := by decide +kernel
theorem dX2_findPlace_44 : decode cX2_findPlace 44 = .ok (.aload_n 0, 1) := by decide +kernel
theorem dX2_findPlace_45 : decode cX2_findPlace 45 = .ok (.getfield 14, 3) := by decide +kernel
theorem dX2_findPlace_48 : decode cX2_findPlace 48 = .ok (.iload 6, 2) := by decide +kernel
theorem dX2_findPlace_50 : decode cX2_findPlace 50 = .ok (.iconst 0, 1) := by decide +kernel
theorem dX2_findPlace_51 : decode cX2_findPlace 51 = .ok (.iload_n 2, 1) := by decide +kernel
theorem dX2_findPlace_52 : decode cX2_findPlace 52 = .ok (.invokevirtual 69, 3) := by decide +kernel
theorem dX2_findPlace_55 : decode cX2_findPlace 55 = .ok (.aload_n 0, 1) := by decide +kernel
theorem dX2_findPlace_56 : decode cX2_findPlace 56 = .ok (.getfield 14, 3) := by decide +kernel
theorem dX2_findPlace_59 : decode cX2_findPlace 59 = .ok (.iload 6, 2) := by decide +kernel
theorem dX2_findPlace_61 : decode cX2_findPlace 61 = .ok (.iconst 2, 1) := by decide +kernel
theorem dX2_findPlace_62 : decode cX2_findPlace 62 = .ok (.iload_n 3, 1) := by decide +kernel
theorem dX2_findPlace_63 : decode cX2_findPlace 63 = .ok (.invokevirtual 69, 3) := by decide +kernel
theorem dX2_findPlace_66 : decode cX2_findPlace 66 = .ok (.iconst 0, 1) := by decide +kernel
theorem dX2_findPlace_67 : decode cX2_findPlace 67 = .ok (.istore 7, 2) := by decide +kernel
theorem dX2_findPlace_69 : decode cX2_findPlace 69 = .ok (.iload 7, 2) := by decide +kernel
theorem dX2_findPlace_71 : decode cX2_findPlace 71 = .ok (.bipush 12, 2) := by decide +kernel
theorem dX2_findPlace_73 : decode cX2_findPlace 73 = .ok (.if_icmp .ge 69, 3) := by decide +kernel
theorem dX2_findPlace_76 : decode cX2_findPlace 76 = .ok (.aload_n 0, 1) := by decide +kernel
theorem dX2_findPlace_77 : decode cX2_findPlace 77 = .ok (.getfield 14, 3) := by decide +kernel
theorem dX2_findPlace_80 : decode cX2_findPlace 80 = .ok (.iload 6, 2) := by decide +kernel
theorem dX2_findPlace_82 : decode cX2_findPlace 82 = .ok (.iconst 1, 1) := by decide +kernel
theorem dX2_findPlace_83 : decode cX2_findPlace 83 = .ok (.iload 7, 2) := by decide +kernel
theorem dX2_findPlace_85 : decode cX2_findPlace 85 = .ok (.invokevirtual 69, 3) := by decide +kernel
theorem dX2_findPlace_88 : decode cX2_findPlace 88 = .ok (.iload 5, 2) := by decide +kernel
theorem dX2_findPlace_90 : decode cX2_findPlace 90 = .ok (.aload_n 0, 1) := by decide +kernel
theorem dX2_findPlace_91 : decode cX2_findPlace 91 = .ok (.aload_n 1, 1) := by decide +kernel
theorem dX2_findPlace_92 : decode cX2_findPlace 92 = .ok (.aload_n 0, 1) := by decide +kernel
theorem dX2_findPlace_93 : decode cX2_findPlace 93 = .ok (.getfield 14, 3) := by decide +kernel
theorem dX2_findPlace_96 : decode cX2_findPlace 96 = .ok (.bipush 127, 2) := by decide +kernel
theorem dX2_findPlace_98 : decode cX2_findPlace 98 = .ok (.iload 4, 2) := by decide +kernel
theorem dX2_findPlace_100 : decode cX2_findPlace 100 = .ok (.invokevirtual 57, 3) := by decide +kernel
theorem dX2_findPlace_103 : decode cX2_findPlace 103 = .ok (.isub, 1) := by decide +kernel
theorem dX2_findPlace_104 : decode cX2_findPlace 104 = .ok (.iconst 0, 1) := by decide +kernel
theorem dX2_findPlace_105 : decode cX2_findPlace 105 = .ok (.invokestatic 73, 3) := by decide +kernel
theorem dX2_findPlace_108 : decode cX2_findPlace 108 = .ok (.istore 8, 2) := by decide +kernel
theorem dX2_findPlace_110 : decode cX2_findPlace 110 = .ok (.iload 7, 2) := by decide +kernel
theorem dX2_findPlace_112 : decode cX2_findPlace 112 = .ok (.ifCond .eq 12, 3) := by decide +kernel
theorem dX2_findPlace_115 : decode cX2_findPlace 115 = .ok (.iload 8, 2) := by decide +kernel
theorem dX2_findPlace_117 : decode cX2_findPlace 117 = .ok (.aload_n 0, 1) := by decide +kernel
theorem dX2_findPlace_118 : decode cX2_findPlace 118 = .ok (.getfield 79, 3) := by decide +kernel
theorem dX2_findPlace_121 : decode cX2_findPlace 121 = .ok (.if_icmp .ge 15, 3) := by decide +kernel
theorem dX2_findPlace_124 : decode cX2_findPlace 124 = .ok (.aload_n 0, 1) := by decide +kernel
theorem dX2_findPlace_125 : decode cX2_findPlace 125 = .ok (.iload 7, 2) := by decide +kernel
theorem dX2_findPlace_127 : decode cX2_findPlace 127 = .ok (.putfield 82, 3) := by decide +kernel
theorem dX2_findPlace_130 : decode cX2_findPlace 130 = .ok (.aload_n 0, 1) := by decide +kernel
theorem dX2_findPlace_131 : decode cX2_findPlace 131 = .ok (.iload 8, 2) := by decide +kernel
theorem dX2_findPlace_133 : decode cX2_findPlace 133 = .ok (.putfield 79, 3) := by decide +kernel
theorem dX2_findPlace_136 : decode cX2_findPlace 136 = .ok (.iinc 7 1, 3) := by decide +kernel
theorem dX2_findPlace_139 : decode cX2_findPlace 139 = .ok (.goto (-70), 3) := by decide +kernel
theorem dX2_findPlace_142 : decode cX2_findPlace 142 = .ok (.return_, 1) := by decide +kernel
theorem dX2_sumOverOrders_0 : decode cX2_sumOverOrders 0 = .ok (.aload_n 1, 1) := by decide +kernel
theorem dX2_sumOverOrders_1 : decode cX2_sumOverOrders 1 = .ok (.getfield 44, 3) := by decide +kernel
theorem dX2_sumOverOrders_4 : decode cX2_sumOverOrders 4 = .ok (.getfield 54, 3) := by decide +kernel
theorem dX2_sumOverOrders_7 : decode cX2_sumOverOrders 7 = .ok (.istore_n 3, 1) := by decide +kernel
theorem dX2_sumOverOrders_8 : decode cX2_sumOverOrders 8 = .ok (.iconst 1, 1) := by decide +kernel
theorem dX2_sumOverOrders_9 : decode cX2_sumOverOrders 9 = .ok (.iload_n 3, 1) := by decide +kernel
theorem dX2_sumOverOrders_10 : decode cX2_sumOverOrders 10 = .ok (.ishl, 1) := by decide +kernel
theorem dX2_sumOverOrders_11 : decode cX2_sumOverOrders 11 = .ok (.aload_n 0, 1) := by decide +kernel
theorem dX2_sumOverOrders_12 : decode cX2_sumOverOrders 12 = .ok (.getfield 20, 3) := by decide +kernel
theorem dX2_sumOverOrders_15 : decode cX2_sumOverOrders 15 = .ok (.arraylength, 1) := by decide +kernel
theorem dX2_sumOverOrders_16 : decode cX2_sumOverOrders 16 = .ok (.invokestatic 85, 3) := by decide +kernel
theorem dX2_sumOverOrders_19 : decode cX2_sumOverOrders 19 = .ok (.istore 4, 2) := by decide +kernel
theorem dX2_sumOverOrders_21 : decode cX2_sumOverOrders 21 = .ok (.iconst 0, 1) := by decide +kernel
theorem dX2_sumOverOrders_22 : decode cX2_sumOverOrders 22 = .ok (.istore 5, 2) := by decide +kernel
theorem dX2_sumOverOrders_24 : decode cX2_sumOverOrders 24 = .ok (.iload 5, 2) := by decide +kernel
theorem dX2_sumOverOrders_26 : decode cX2_sumOverOrders 26 = .ok (.iload 4, 2) := by decide +kernel
theorem dX2_sumOverOrders_28 : decode cX2_sumOverOrders 28 = .ok (.if_icmp .ge 28, 3) := by decide +kernel
theorem dX2_sumOverOrders_31 : decode cX2_sumOverOrders 31 = .ok (.aload_n 0, 1) := by decide +kernel
theorem dX2_sumOverOrders_32 : decode cX2_sumOverOrders 32 = .ok (.getfield 20, 3) := by decide +kernel
theorem dX2_sumOverOrders_35 : decode cX2_sumOverOrders 35 = .ok (.iload 5, 2) := by decide +kernel
theorem dX2_sumOverOrders_37 : decode cX2_sumOverOrders 37 = .ok (.aload_n 0, 1) := by decide +kernel
theorem dX2_sumOverOrders_38 : decode cX2_sumOverOrders 38 = .ok (.aload_n 1, 1) := by decide +kernel
theorem dX2_sumOverOrders_39 : decode cX2_sumOverOrders 39 = .ok (.aload_n 1, 1) := by decide +kernel
theorem dX2_sumOverOrders_40 : decode cX2_sumOverOrders 40 = .ok (.getfield 44, 3) := by decide +kernel
theorem dX2_sumOverOrders_43 : decode cX2_sumOverOrders 43 = .ok (.iload 5, 2) := by decide +kernel
theorem dX2_sumOverOrders_45 : decode cX2_sumOverOrders 45 = .ok (.iload_n 3, 1) := by decide +kernel
theorem dX2_sumOverOrders_46 : decode cX2_sumOverOrders 46 = .ok (.invokevirtual 57, 3) := by decide +kernel
theorem dX2_sumOverOrders_49 : decode cX2_sumOverOrders 49 = .ok (.iastore, 1) := by decide +kernel
theorem dX2_sumOverOrders_50 : decode cX2_sumOverOrders 50 = .ok (.iinc 5 1, 3) := by decide +kernel
theorem dX2_sumOverOrders_53 : decode cX2_sumOverOrders 53 = .ok (.goto (-29), 3) := by decide +kernel
theorem dX2_sumOverOrders_56 : decode cX2_sumOverOrders 56 = .ok (.lconst 0, 1) := by decide +kernel
theorem dX2_sumOverOrders_57 : decode cX2_sumOverOrders 57 = .ok (.lstore 5, 2) := by decide +kernel
theorem dX2_sumOverOrders_59 : decode cX2_sumOverOrders 59 = .ok (.iconst 0, 1) := by decide +kernel
theorem dX2_sumOverOrders_60 : decode cX2_sumOverOrders 60 = .ok (.istore 7, 2) := by decide +kernel
theorem dX2_sumOverOrders_62 : decode cX2_sumOverOrders 62 = .ok (.iload 7, 2) := by decide +kernel
theorem dX2_sumOverOrders_64 : decode cX2_sumOverOrders 64 = .ok (.iload 4, 2) := by decide +kernel
theorem dX2_sumOverOrders_66 : decode cX2_sumOverOrders 66 = .ok (.if_icmp .ge 81, 3) := by decide +kernel
theorem dX2_sumOverOrders_69 : decode cX2_sumOverOrders 69 = .ok (.iload 7, 2) := by decide +kernel
theorem dX2_sumOverOrders_71 : decode cX2_sumOverOrders 71 = .ok (.iconst 1, 1) := by decide +kernel
theorem dX2_sumOverOrders_72 : decode cX2_sumOverOrders 72 = .ok (.iload_n 2, 1) := by decide +kernel
theorem dX2_sumOverOrders_73 : decode cX2_sumOverOrders 73 = .ok (.ishl, 1) := by decide +kernel
theorem dX2_sumOverOrders_74 : decode cX2_sumOverOrders 74 = .ok (.ior, 1) := by decide +kernel
theorem dX2_sumOverOrders_75 : decode cX2_sumOverOrders 75 = .ok (.istore 8, 2) := by decide +kernel
theorem dX2_sumOverOrders_77 : decode cX2_sumOverOrders 77 = .ok (.iload 8, 2) := by decide +kernel
theorem dX2_sumOverOrders_79 : decode cX2_sumOverOrders 79 = .ok (.iload 7, 2) := by decide +kernel
theorem dX2_sumOverOrders_81 : decode cX2_sumOverOrders 81 = .ok (.if_icmp .eq 60, 3) := by decide +kernel
theorem dX2_sumOverOrders_84 : decode cX2_sumOverOrders 84 = .ok (.iload 8, 2) := by decide +kernel
theorem dX2_sumOverOrders_86 : decode cX2_sumOverOrders 86 = .ok (.iload 4, 2) := by decide +kernel
theorem dX2_sumOverOrders_88 : decode cX2_sumOverOrders 88 = .ok (.if_icmp .ge 53, 3) := by decide +kernel
theorem dX2_sumOverOrders_91 : decode cX2_sumOverOrders 91 = .ok (.iload 7, 2) := by decide +kernel
theorem dX2_sumOverOrders_93 : decode cX2_sumOverOrders 93 = .ok (.invokestatic 88, 3) := by decide +kernel
theorem dX2_sumOverOrders_96 : decode cX2_sumOverOrders 96 = .ok (.istore 9, 2) := by decide +kernel
theorem dX2_sumOverOrders_98 : decode cX2_sumOverOrders 98 = .ok (.iload 9, 2) := by decide +kernel
theorem dX2_sumOverOrders_100 : decode cX2_sumOverOrders 100 = .ok (.invokestatic 93, 3) := by decide +kernel
theorem dX2_sumOverOrders_103 : decode cX2_sumOverOrders 103 = .ok (.i2l, 1) := by decide +kernel
theorem dX2_sumOverOrders_104 : decode cX2_sumOverOrders 104 = .ok (.iload_n 3, 1) := by decide +kernel
theorem dX2_sumOverOrders_105 : decode cX2_sumOverOrders 105 = .ok (.iconst 1, 1) := by decide +kernel
theorem dX2_sumOverOrders_106 : decode cX2_sumOverOrders 106 = .ok (.isub, 1) := by decide +kernel
theorem dX2_sumOverOrders_107 : decode cX2_sumOverOrders 107 = .ok (.iload 9, 2) := by decide +kernel
theorem dX2_sumOverOrders_109 : decode cX2_sumOverOrders 109 = .ok (.isub, 1) := by decide +kernel
theorem dX2_sumOverOrders_110 : decode cX2_sumOverOrders 110 = .ok (.invokestatic 93, 3) := by decide +kernel
theorem dX2_sumOverOrders_113 : decode cX2_sumOverOrders 113 = .ok (.i2l, 1) := by decide +kernel
theorem dX2_sumOverOrders_114 : decode cX2_sumOverOrders 114 = .ok (.lmul, 1) := by decide +kernel
theorem dX2_sumOverOrders_115 : decode cX2_sumOverOrders 115 = .ok (.lstore 10, 2) := by decide +kernel
theorem dX2_sumOverOrders_117 : decode cX2_sumOverOrders 117 = .ok (.lload 5, 2) := by decide +kernel
theorem dX2_sumOverOrders_119 : decode cX2_sumOverOrders 119 = .ok (.lload 10, 2) := by decide +kernel
theorem dX2_sumOverOrders_121 : decode cX2_sumOverOrders 121 = .ok (.aload_n 0, 1) := by decide +kernel
theorem dX2_sumOverOrders_122 : decode cX2_sumOverOrders 122 = .ok (.getfield 20, 3) := by decide +kernel
theorem dX2_sumOverOrders_125 : decode cX2_sumOverOrders 125 = .ok (.iload 8, 2) := by decide +kernel
theorem dX2_sumOverOrders_127 : decode cX2_sumOverOrders 127 = .ok (.iaload, 1) := by decide +kernel
theorem dX2_sumOverOrders_128 : decode cX2_sumOverOrders 128 = .ok (.aload_n 0, 1) := by decide +kernel
theorem dX2_sumOverOrders_129 : decode cX2_sumOverOrders 129 = .ok (.getfield 20, 3) := by decide +kernel
theorem dX2_sumOverOrders_132 : decode cX2_sumOverOrders 132 = .ok (.iload 7, 2) := by decide +kernel
theorem dX2_sumOverOrders_134 : decode cX2_sumOverOrders 134 = .ok (.iaload, 1) := by decide +kernel
theorem dX2_sumOverOrders_135 : decode cX2_sumOverOrders 135 = .ok (.isub, 1) := by decide +kernel
theorem dX2_sumOverOrders_136 : decode cX2_sumOverOrders 136 = .ok (.i2l, 1) := by decide +kernel
theorem dX2_sumOverOrders_137 : decode cX2_sumOverOrders 137 = .ok (.lmul, 1) := by decide +kernel
theorem dX2_sumOverOrders_138 : decode cX2_sumOverOrders 138 = .ok (.ladd, 1) := by decide +kernel
theorem dX2_sumOverOrders_139 : decode cX2_sumOverOrders 139 = .ok (.lstore 5, 2) := by decide +kernel
theorem dX2_sumOverOrders_141 : decode cX2_sumOverOrders 141 = .ok (.iinc 7 1, 3) := by decide +kernel
theorem dX2_sumOverOrders_144 : decode cX2_sumOverOrders 144 = .ok (.goto (-82), 3) := by decide +kernel
theorem dX2_sumOverOrders_147 : decode cX2_sumOverOrders 147 = .ok (.lload 5, 2) := by decide +kernel
theorem dX2_sumOverOrders_149 : decode cX2_sumOverOrders 149 = .ok (.lreturn, 1) := by decide +kernel
theorem dX2_takenInDay_0 : decode cX2_takenInDay 0 = .ok (.iconst 0, 1) := by decide +kernel
theorem dX2_takenInDay_1 : decode cX2_takenInDay 1 = .ok (.istore 5, 2) := by decide +kernel
theorem dX2_takenInDay_3 : decode cX2_takenInDay 3 = .ok (.iconst 0, 1) := by decide +kernel
theorem dX2_takenInDay_4 : decode cX2_takenInDay 4 = .ok (.istore 6, 2) := by decide +kernel
theorem dX2_takenInDay_6 : decode cX2_takenInDay 6 = .ok (.iload 6, 2) := by decide +kernel
theorem dX2_takenInDay_8 : decode cX2_takenInDay 8 = .ok (.bipush 8, 2) := by decide +kernel
theorem dX2_takenInDay_10 : decode cX2_takenInDay 10 = .ok (.if_icmp .ge 46, 3) := by decide +kernel
theorem dX2_takenInDay_13 : decode cX2_takenInDay 13 = .ok (.aload_n 0, 1) := by decide +kernel
theorem dX2_takenInDay_14 : decode cX2_takenInDay 14 = .ok (.getfield 24, 3) := by decide +kernel
theorem dX2_takenInDay_17 : decode cX2_takenInDay 17 = .ok (.aload_n 2, 1) := by decide +kernel
theorem dX2_takenInDay_18 : decode cX2_takenInDay 18 = .ok (.iload_n 3, 1) := by decide +kernel
theorem dX2_takenInDay_19 : decode cX2_takenInDay 19 = .ok (.aload_n 1, 1) := by decide +kernel
theorem dX2_takenInDay_20 : decode cX2_takenInDay 20 = .ok (.getfield 96, 3) := by decide +kernel
theorem dX2_takenInDay_23 : decode cX2_takenInDay 23 = .ok (.iload 6, 2) := by decide +kernel
theorem dX2_takenInDay_25 : decode cX2_takenInDay 25 = .ok (.iaload, 1) := by decide +kernel
theorem dX2_takenInDay_26 : decode cX2_takenInDay 26 = .ok (.aload_n 1, 1) := by decide +kernel
theorem dX2_takenInDay_27 : decode cX2_takenInDay 27 = .ok (.getfield 99, 3) := by decide +kernel
theorem dX2_takenInDay_30 : decode cX2_takenInDay 30 = .ok (.iload 6, 2) := by decide +kernel
theorem dX2_takenInDay_32 : decode cX2_takenInDay 32 = .ok (.iaload, 1) := by decide +kernel
theorem dX2_takenInDay_33 : decode cX2_takenInDay 33 = .ok (.invokevirtual 102, 3) := by decide +kernel
theorem dX2_takenInDay_36 : decode cX2_takenInDay 36 = .ok (.iload 5, 2) := by decide +kernel
theorem dX2_takenInDay_38 : decode cX2_takenInDay 38 = .ok (.aload_n 0, 1) := by decide +kernel
theorem dX2_takenInDay_39 : decode cX2_takenInDay 39 = .ok (.getfield 24, 3) := by decide +kernel
theorem dX2_takenInDay_42 : decode cX2_takenInDay 42 = .ok (.iload 4, 2) := by decide +kernel
theorem dX2_takenInDay_44 : decode cX2_takenInDay 44 = .ok (.invokevirtual 106, 3) := by decide +kernel
theorem dX2_takenInDay_47 : decode cX2_takenInDay 47 = .ok (.iadd, 1) := by decide +kernel
theorem dX2_takenInDay_48 : decode cX2_takenInDay 48 = .ok (.istore 5, 2) := by decide +kernel
theorem dX2_takenInDay_50 : decode cX2_takenInDay 50 = .ok (.iinc 6 1, 3) := by decide +kernel
theorem dX2_takenInDay_53 : decode cX2_takenInDay 53 = .ok (.goto (-47), 3) := by decide +kernel
theorem dX2_takenInDay_56 : decode cX2_takenInDay 56 = .ok (.iload 5, 2) := by decide +kernel
theorem dX2_takenInDay_58 : decode cX2_takenInDay 58 = .ok (.ireturn, 1) := by decide +kernel
theorem dX2_rentBySeed_0 : decode cX2_rentBySeed 0 = .ok (.iload_n 2, 1) := by decide +kernel
theorem dX2_rentBySeed_1 : decode cX2_rentBySeed 1 = .ok (.i2l, 1) := by decide +kernel
theorem dX2_rentBySeed_2 : decode cX2_rentBySeed 2 = .ok (.lstore 4, 2) := by decide +kernel
theorem dX2_rentBySeed_4 : decode cX2_rentBySeed 4 = .ok (.iconst 0, 1) := by decide +kernel
theorem dX2_rentBySeed_5 : decode cX2_rentBySeed 5 = .ok (.istore 6, 2) := by decide +kernel
theorem dX2_rentBySeed_7 : decode cX2_rentBySeed 7 = .ok (.iconst 0, 1) := by decide +kernel
theorem dX2_rentBySeed_8 : decode cX2_rentBySeed 8 = .ok (.istore 7, 2) := by decide +kernel
theorem dX2_rentBySeed_10 : decode cX2_rentBySeed 10 = .ok (.iload 7, 2) := by decide +kernel
theorem dX2_rentBySeed_12 : decode cX2_rentBySeed 12 = .ok (.iload_n 3, 1) := by decide +kernel
theorem dX2_rentBySeed_13 : decode cX2_rentBySeed 13 = .ok (.if_icmp .ge 84, 3) := by decide +kernel
theorem dX2_rentBySeed_16 : decode cX2_rentBySeed 16 = .ok (.lload 4, 2) := by decide +kernel
theorem dX2_rentBySeed_18 : decode cX2_rentBySeed 18 = .ok (.ldc2_w 109, 3) := by decide +kernel
theorem dX2_rentBySeed_21 : decode cX2_rentBySeed 21 = .ok (.lmul, 1) := by decide +kernel
theorem dX2_rentBySeed_22 : decode cX2_rentBySeed 22 = .ok (.ldc2_w 111, 3) := by decide +kernel
theorem dX2_rentBySeed_25 : decode cX2_rentBySeed 25 = .ok (.ladd, 1) := by decide +kernel
theorem dX2_rentBySeed_26 : decode cX2_rentBySeed 26 = .ok (.ldc2_w 113, 3) := by decide +kernel
theorem dX2_rentBySeed_29 : decode cX2_rentBySeed 29 = .ok (.lrem, 1) := by decide +kernel
theorem dX2_rentBySeed_30 : decode cX2_rentBySeed 30 = .ok (.lstore 4, 2) := by decide +kernel
theorem dX2_rentBySeed_32 : decode cX2_rentBySeed 32 = .ok (.lload 4, 2) := by decide +kernel
theorem dX2_rentBySeed_34 : decode cX2_rentBySeed 34 = .ok (.ldc2_w 115, 3) := by decide +kernel
theorem dX2_rentBySeed_37 : decode cX2_rentBySeed 37 = .ok (.ldiv, 1) := by decide +kernel
theorem dX2_rentBySeed_38 : decode cX2_rentBySeed 38 = .ok (.ldc2_w 117, 3) := by decide +kernel
theorem dX2_rentBySeed_41 : decode cX2_rentBySeed 41 = .ok (.lrem, 1) := by decide +kernel
theorem dX2_rentBySeed_42 : decode cX2_rentBySeed 42 = .ok (.l2i, 1) := by decide +kernel
theorem dX2_rentBySeed_43 : decode cX2_rentBySeed 43 = .ok (.istore 8, 2) := by decide +kernel
theorem dX2_rentBySeed_45 : decode cX2_rentBySeed 45 = .ok (.lload 4, 2) := by decide +kernel
theorem dX2_rentBySeed_47 : decode cX2_rentBySeed 47 = .ok (.ldc2_w 119, 3) := by decide +kernel
theorem dX2_rentBySeed_50 : decode cX2_rentBySeed 50 = .ok (.ldiv, 1) := by decide +kernel
theorem dX2_rentBySeed_51 : decode cX2_rentBySeed 51 = .ok (.ldc2_w 121, 3) := by decide +kernel
theorem dX2_rentBySeed_54 : decode cX2_rentBySeed 54 = .ok (.lrem, 1) := by decide +kernel
theorem dX2_rentBySeed_55 : decode cX2_rentBySeed 55 = .ok (.l2i, 1) := by decide +kernel
theorem dX2_rentBySeed_56 : decode cX2_rentBySeed 56 = .ok (.istore 9, 2) := by decide +kernel
theorem dX2_rentBySeed_58 : decode cX2_rentBySeed 58 = .ok (.aload_n 0, 1) := by decide +kernel
theorem dX2_rentBySeed_59 : decode cX2_rentBySeed 59 = .ok (.getfield 24, 3) := by decide +kernel
theorem dX2_rentBySeed_62 : decode cX2_rentBySeed 62 = .ok (.aload_n 1, 1) := by decide +kernel
theorem dX2_rentBySeed_63 : decode cX2_rentBySeed 63 = .ok (.getfield 44, 3) := by decide +kernel
theorem dX2_rentBySeed_66 : decode cX2_rentBySeed 66 = .ok (.bipush 127, 2) := by decide +kernel
theorem dX2_rentBySeed_68 : decode cX2_rentBySeed 68 = .ok (.iload 8, 2) := by decide +kernel
theorem dX2_rentBySeed_70 : decode cX2_rentBySeed 70 = .ok (.iload 9, 2) := by decide +kernel
theorem dX2_rentBySeed_72 : decode cX2_rentBySeed 72 = .ok (.invokevirtual 102, 3) := by decide +kernel
theorem dX2_rentBySeed_75 : decode cX2_rentBySeed 75 = .ok (.iload 6, 2) := by decide +kernel
theorem dX2_rentBySeed_77 : decode cX2_rentBySeed 77 = .ok (.aload_n 0, 1) := by decide +kernel
theorem dX2_rentBySeed_78 : decode cX2_rentBySeed 78 = .ok (.getfield 24, 3) := by decide +kernel
theorem dX2_rentBySeed_81 : decode cX2_rentBySeed 81 = .ok (.aload_n 1, 1) := by decide +kernel
theorem dX2_rentBySeed_82 : decode cX2_rentBySeed 82 = .ok (.getfield 44, 3) := by decide +kernel
theorem dX2_rentBySeed_85 : decode cX2_rentBySeed 85 = .ok (.invokevirtual 123, 3) := by decide +kernel
theorem dX2_rentBySeed_88 : decode cX2_rentBySeed 88 = .ok (.iadd, 1) := by decide +kernel
theorem dX2_rentBySeed_89 : decode cX2_rentBySeed 89 = .ok (.istore 6, 2) := by decide +kernel
theorem dX2_rentBySeed_91 : decode cX2_rentBySeed 91 = .ok (.iinc 7 1, 3) := by decide +kernel
theorem dX2_rentBySeed_94 : decode cX2_rentBySeed 94 = .ok (.goto (-84), 3) := by decide +kernel
theorem dX2_rentBySeed_97 : decode cX2_rentBySeed 97 = .ok (.iload 6, 2) := by decide +kernel
theorem dX2_rentBySeed_99 : decode cX2_rentBySeed 99 = .ok (.ireturn, 1) := by decide +kernel
theorem dX3_init_0 : decode cX3_init 0 = .ok (.aload_n 0, 1) := by decide +kernel
theorem dX3_init_1 : decode cX3_init 1 = .ok (.invokespecial 1, 3) := by decide +kernel
theorem dX3_init_4 : decode cX3_init 4 = .ok (.aload_n 0, 1) := by decide +kernel
theorem dX3_init_5 : decode cX3_init 5 = .ok (.lconst 0, 1) := by decide +kernel
theorem dX3_init_6 : decode cX3_init 6 = .ok (.putfield 7, 3) := by decide +kernel
theorem dX3_init_9 : decode cX3_init 9 = .ok (.aload_n 0, 1) := by decide +kernel
theorem dX3_init_10 : decode cX3_init 10 = .ok (.lconst 1, 1) := by decide +kernel
theorem dX3_init_11 : decode cX3_init 11 = .ok (.putfield 13, 3) := by decide +kernel
theorem dX3_init_14 : decode cX3_init 14 = .ok (.return_, 1) := by decide +kernel
theorem dX3_set_0 : decode cX3_set 0 = .ok (.lload_n 1, 1) := by decide +kernel
theorem dX3_set_1 : decode cX3_set 1 = .ok (.invokestatic 16, 3) := by decide +kernel
theorem dX3_set_4 : decode cX3_set 4 = .ok (.lload_n 3, 1) := by decide +kernel
theorem dX3_set_5 : decode cX3_set 5 = .ok (.invokestatic 22, 3) := by decide +kernel
theorem dX3_set_8 : decode cX3_set 8 = .ok (.lstore 5, 2) := by decide +kernel
theorem dX3_set_10 : decode cX3_set 10 = .ok (.lload 5, 2) := by decide +kernel
theorem dX3_set_12 : decode cX3_set 12 = .ok (.lconst 0, 1) := by decide +kernel
theorem dX3_set_13 : decode cX3_set 13 = .ok (.lcmp, 1) := by decide +kernel
theorem dX3_set_14 : decode cX3_set 14 = .ok (.ifCond .le 19, 3) := by decide +kernel
theorem dX3_set_17 : decode cX3_set 17 = .ok (.aload_n 0, 1) := by decide +kernel
theorem dX3_set_18 : decode cX3_set 18 = .ok (.lload_n 1, 1) := by decide +kernel
theorem dX3_set_19 : decode cX3_set 19 = .ok (.lload 5, 2) := by decide +kernel
theorem dX3_set_21 : decode cX3_set 21 = .ok (.ldiv, 1) := by decide +kernel
theorem dX3_set_22 : decode cX3_set 22 = .ok (.putfield 7, 3) := by decide +kernel
theorem dX3_set_25 : decode cX3_set 25 = .ok (.aload_n 0, 1) := by decide +kernel
theorem dX3_set_26 : decode cX3_set 26 = .ok (.lload_n 3, 1) := by decide +kernel
theorem dX3_set_27 : decode cX3_set 27 = .ok (.lload 5, 2) := by decide +kernel
theorem dX3_set_29 : decode cX3_set 29 = .ok (.ldiv, 1) := by decide +kernel
theorem dX3_set_30 : decode cX3_set 30 = .ok (.putfield 13, 3) := by decide +kernel
theorem dX3_set_33 : decode cX3_set 33 = .ok (.return_, 1) := by decide +kernel
theorem dX3_greatestDivisor_0 : decode cX3_greatestDivisor 0 = .ok (.lload_n 0, 1) := by decide +kernel
theorem dX3_greatestDivisor_1 : decode cX3_greatestDivisor 1 = .ok (.lstore 4, 2) := by decide +kernel
theorem dX3_greatestDivisor_3 : decode cX3_greatestDivisor 3 = .ok (.lload_n 2, 1) := by decide +kernel
theorem dX3_greatestDivisor_4 : decode cX3_greatestDivisor 4 = .ok (.lstore 6, 2) := by decide +kernel
theorem dX3_greatestDivisor_6 : decode cX3_greatestDivisor 6 = .ok (.iconst 0, 1) := by decide +kernel
theorem dX3_greatestDivisor_7 : decode cX3_greatestDivisor 7 = .ok (.istore 8, 2) := by decide +kernel
theorem dX3_greatestDivisor_9 : decode cX3_greatestDivisor 9 = .ok (.iload 8, 2) := by decide +kernel
theorem dX3_greatestDivisor_11 : decode cX3_greatestDivisor 11 = .ok (.bipush 100, 2) := by decide +kernel
theorem dX3_greatestDivisor_13 : decode cX3_greatestDivisor 13 = .ok (.if_icmp .ge 31, 3) := by decide +kernel
theorem dX3_greatestDivisor_16 : decode cX3_greatestDivisor 16 = .ok (.lload 6, 2) := by decide +kernel
theorem dX3_greatestDivisor_18 : decode cX3_greatestDivisor 18 = .ok (.lconst 0, 1) := by decide +kernel
theorem dX3_greatestDivisor_19 : decode cX3_greatestDivisor 19 = .ok (.lcmp, 1) := by decide +kernel
theorem dX3_greatestDivisor_20 : decode cX3_greatestDivisor 20 = .ok (.ifCond .eq 24, 3) := by decide +kernel
theorem dX3_greatestDivisor_23 : decode cX3_greatestDivisor 23 = .ok (.lload 4, 2) := by decide +kernel
theorem dX3_greatestDivisor_25 : decode cX3_greatestDivisor 25 = .ok (.lload 6, 2) := by decide +kernel
theorem dX3_greatestDivisor_27 : decode cX3_greatestDivisor 27 = .ok (.lrem, 1) := by decide +kernel
theorem dX3_greatestDivisor_28 : decode cX3_greatestDivisor 28 = .ok (.lstore 9, 2) := by decide +kernel
theorem dX3_greatestDivisor_30 : decode cX3_greatestDivisor 30 = .ok (.lload 6, 2) := by decide +kernel
theorem dX3_greatestDivisor_32 : decode cX3_greatestDivisor 32 = .ok (.lstore 4, 2) := by decide +kernel
theorem dX3_greatestDivisor_34 : decode cX3_greatestDivisor 34 = .ok (.lload 9, 2) := by decide +kernel
theorem dX3_greatestDivisor_36 : decode cX3_greatestDivisor 36 = .ok (.lstore 6, 2) := by decide +kernel
theorem dX3_greatestDivisor_38 : decode cX3_greatestDivisor 38 = .ok (.iinc 8 1, 3) := by decide +kernel
theorem dX3_greatestDivisor_41 : decode cX3_greatestDivisor 41 = .ok (.goto (-32), 3) := by decide +kernel
theorem dX3_greatestDivisor_44 : decode cX3_greatestDivisor 44 = .ok (.lload 4, 2) := by decide +kernel
theorem dX3_greatestDivisor_46 : decode cX3_greatestDivisor 46 = .ok (.lreturn, 1) := by decide +kernel
theorem dX4_init_0 : decode cX4_init 0 = .ok (.aload_n 0, 1) := by decide +kernel
theorem dX4_init_1 : decode cX4_init 1 = .ok (.invokespecial 3, 3) := by decide +kernel
theorem dX4_init_4 : decode cX4_init 4 = .ok (.aload_n 0, 1) := by decide +kernel
theorem dX4_init_5 : decode cX4_init 5 = .ok (.bipush 8, 2) := by decide +kernel
theorem dX4_init_7 : decode cX4_init 7 = .ok (.newarray .int, 2) := by decide +kernel
theorem dX4_init_9 : decode cX4_init 9 = .ok (.putfield 9, 3) := by decide +kernel
theorem dX4_init_12 : decode cX4_init 12 = .ok (.aload_n 0, 1) := by decide +kernel
theorem dX4_init_13 : decode cX4_init 13 = .ok (.bipush 8, 2) := by decide +kernel
theorem dX4_init_15 : decode cX4_init 15 = .ok (.newarray .int, 2) := by decide +kernel
theorem dX4_init_17 : decode cX4_init 17 = .ok (.putfield 15, 3) := by decide +kernel
theorem dX4_init_20 : decode cX4_init 20 = .ok (.aload_n 0, 1) := by decide +kernel
theorem dX4_init_21 : decode cX4_init 21 = .ok (.new 18, 3) := by decide +kernel
theorem dX4_init_24 : decode cX4_init 24 = .ok (.dup, 1) := by decide +kernel
theorem dX4_init_25 : decode cX4_init 25 = .ok (.bipush 7, 2) := by decide +kernel
theorem dX4_init_27 : decode cX4_init 27 = .ok (.iconst 4, 1) := by decide +kernel
theorem dX4_init_28 : decode cX4_init 28 = .ok (.invokespecial 20, 3) := by decide +kernel
theorem dX4_init_31 : decode cX4_init 31 = .ok (.putfield 23, 3) := by decide +kernel
theorem dX4_init_34 : decode cX4_init 34 = .ok (.aload_n 0, 1) := by decide +kernel
theorem dX4_init_35 : decode cX4_init 35 = .ok (.new 18, 3) := by decide +kernel
theorem dX4_init_38 : decode cX4_init 38 = .ok (.dup, 1) := by decide +kernel
theorem dX4_init_39 : decode cX4_init 39 = .ok (.iconst 5, 1) := by decide +kernel
theorem dX4_init_40 : decode cX4_init 40 = .ok (.iconst 4, 1) := by decide +kernel
theorem dX4_init_41 : decode cX4_init 41 = .ok (.invokespecial 20, 3) := by decide +kernel
theorem dX4_init_44 : decode cX4_init 44 = .ok (.putfield 27, 3) := by decide +kernel
theorem dX4_init_47 : decode cX4_init 47 = .ok (.aload_n 0, 1) := by decide +kernel
theorem dX4_init_48 : decode cX4_init 48 = .ok (.new 18, 3) := by decide +kernel
theorem dX4_init_51 : decode cX4_init 51 = .ok (.dup, 1) := by decide +kernel
theorem dX4_init_52 : decode cX4_init 52 = .ok (.iconst 4, 1) := by decide +kernel
theorem dX4_init_53 : decode cX4_init 53 = .ok (.iconst 3, 1) := by decide +kernel
theorem dX4_init_54 : decode cX4_init 54 = .ok (.invokespecial 20, 3) := by decide +kernel
theorem dX4_init_57 : decode cX4_init 57 = .ok (.putfield 30, 3) := by decide +kernel
theorem dX4_init_60 : decode cX4_init 60 = .ok (.aload_n 0, 1) := by decide +kernel
theorem dX4_init_61 : decode cX4_init 61 = .ok (.new 18, 3) := by decide +kernel
theorem dX4_init_64 : decode cX4_init 64 = .ok (.dup, 1) := by decide +kernel
theorem dX4_init_65 : decode cX4_init 65 = .ok (.bipush 6, 2) := by decide +kernel
theorem dX4_init_67 : decode cX4_init 67 = .ok (.iconst 5, 1) := by decide +kernel
theorem dX4_init_68 : decode cX4_init 68 = .ok (.invokespecial 20, 3) := by decide +kernel
theorem dX4_init_71 : decode cX4_init 71 = .ok (.putfield 33, 3) := by decide +kernel
theorem dX4_init_74 : decode cX4_init 74 = .ok (.aload_n 0, 1) := by decide +kernel
theorem dX4_init_75 : decode cX4_init 75 = .ok (.new 18, 3) := by decide +kernel
theorem dX4_init_78 : decode cX4_init 78 = .ok (.dup, 1) := by decide +kernel
theorem dX4_init_79 : decode cX4_init 79 = .ok (.bipush 6, 2) := by decide +kernel
theorem dX4_init_81 : decode cX4_init 81 = .ok (.iconst 4, 1) := by decide +kernel
theorem dX4_init_82 : decode cX4_init 82 = .ok (.invokespecial 20, 3) := by decide +kernel
theorem dX4_init_85 : decode cX4_init 85 = .ok (.putfield 36, 3) := by decide +kernel
theorem dX4_init_88 : decode cX4_init 88 = .ok (.aload_n 0, 1) := by decide +kernel
theorem dX4_init_89 : decode cX4_init 89 = .ok (.new 18, 3) := by decide +kernel
theorem dX4_init_92 : decode cX4_init 92 = .ok (.dup, 1) := by decide +kernel
theorem dX4_init_93 : decode cX4_init 93 = .ok (.bipush 8, 2) := by decide +kernel
theorem dX4_init_95 : decode cX4_init 95 = .ok (.bipush 15, 2) := by decide +kernel
theorem dX4_init_97 : decode cX4_init 97 = .ok (.invokespecial 20, 3) := by decide +kernel
theorem dX4_init_100 : decode cX4_init 100 = .ok (.putfield 39, 3) := by decide +kernel
theorem dX4_init_103 : decode cX4_init 103 = .ok (.return_, 1) := by decide +kernel
theorem dX4_reset_0 : decode cX4_reset 0 = .ok (.iconst 0, 1) := by decide +kernel
theorem dX4_reset_1 : decode cX4_reset 1 = .ok (.istore_n 1, 1) := by decide +kernel
theorem dX4_reset_2 : decode cX4_reset 2 = .ok (.iload_n 1, 1) := by decide +kernel
theorem dX4_reset_3 : decode cX4_reset 3 = .ok (.bipush 8, 2) := by decide +kernel
theorem dX4_reset_5 : decode cX4_reset 5 = .ok (.if_icmp .ge 23, 3) := by decide +kernel
theorem dX4_reset_8 : decode cX4_reset 8 = .ok (.aload_n 0, 1) := by decide +kernel
theorem dX4_reset_9 : decode cX4_reset 9 = .ok (.getfield 9, 3) := by decide +kernel
theorem dX4_reset_12 : decode cX4_reset 12 = .ok (.iload_n 1, 1) := by decide +kernel
theorem dX4_reset_13 : decode cX4_reset 13 = .ok (.iconst 0, 1) := by decide +kernel
theorem dX4_reset_14 : decode cX4_reset 14 = .ok (.iastore, 1) := by decide +kernel
theorem dX4_reset_15 : decode cX4_reset 15 = .ok (.aload_n 0, 1) := by decide +kernel
theorem dX4_reset_16 : decode cX4_reset 16 = .ok (.getfield 15, 3) := by decide +kernel
theorem dX4_reset_19 : decode cX4_reset 19 = .ok (.iload_n 1, 1) := by decide +kernel
theorem dX4_reset_20 : decode cX4_reset 20 = .ok (.iconst 0, 1) := by decide +kernel
theorem dX4_reset_21 : decode cX4_reset 21 = .ok (.iastore, 1) := by decide +kernel
theorem dX4_reset_22 : decode cX4_reset 22 = .ok (.iinc 1 1, 3) := by decide +kernel
theorem dX4_reset_25 : decode cX4_reset 25 = .ok (.goto (-23), 3) := by decide +kernel
theorem dX4_reset_28 : decode cX4_reset 28 = .ok (.aload_n 0, 1) := by decide +kernel
theorem dX4_reset_29 : decode cX4_reset 29 = .ok (.getfield 23, 3) := by decide +kernel
theorem dX4_reset_32 : decode cX4_reset 32 = .ok (.invokevirtual 42, 3) := by decide +kernel
theorem dX4_reset_35 : decode cX4_reset 35 = .ok (.pop, 1) := by decide +kernel
theorem dX4_reset_36 : decode cX4_reset 36 = .ok (.aload_n 0, 1) := by decide +kernel
theorem dX4_reset_37 : decode cX4_reset 37 = .ok (.getfield 27, 3) := by decide +kernel
theorem dX4_reset_40 : decode cX4_reset 40 = .ok (.invokevirtual 42, 3) := by decide +kernel
theorem dX4_reset_43 : decode cX4_reset 43 = .ok (.pop, 1) := by decide +kernel
theorem dX4_reset_44 : decode cX4_reset 44 = .ok (.aload_n 0, 1) := by decide +kernel
theorem dX4_reset_45 : decode cX4_reset 45 = .ok (.getfield 30, 3) := by decide +kernel
theorem dX4_reset_48 : decode cX4_reset 48 = .ok (.invokevirtual 42, 3) := by decide +kernel
theorem dX4_reset_51 : decode cX4_reset 51 = .ok (.pop, 1) := by decide +kernel
theorem dX4_reset_52 : decode cX4_reset 52 = .ok (.aload_n 0, 1) := by decide +kernel
theorem dX4_reset_53 : decode cX4_reset 53 = .ok (.getfield 33, 3) := by decide +kernel
theorem dX4_reset_56 : decode cX4_reset 56 = .ok (.invokevirtual 42, 3) := by decide +kernel
theorem dX4_reset_59 : decode cX4_reset 59 = .ok (.pop, 1) := by decide +kernel
theorem dX4_reset_60 : decode cX4_reset 60 = .ok (.aload_n 0, 1) := by decide +kernel
theorem dX4_reset_61 : decode cX4_reset 61 = .ok (.getfield 36, 3) := by decide +kernel
theorem dX4_reset_64 : decode cX4_reset 64 = .ok (.invokevirtual 42, 3) := by decide +kernel
theorem dX4_reset_67 : decode cX4_reset 67 = .ok (.pop, 1) := by decide +kernel
theorem dX4_reset_68 : decode cX4_reset 68 = .ok (.aload_n 0, 1) := by decide +kernel
theorem dX4_reset_69 : decode cX4_reset 69 = .ok (.getfield 39, 3) := by decide +kernel
theorem dX4_reset_72 : decode cX4_reset 72 = .ok (.invokevirtual 42, 3) := by decide +kernel
theorem dX4_reset_75 : decode cX4_reset 75 = .ok (.pop, 1) := by decide +kernel
theorem dX4_reset_76 : decode cX4_reset 76 = .ok (.aload_n 0, 1) := by decide +kernel
theorem dX4_reset_77 : decode cX4_reset 77 = .ok (.iconst 0, 1) := by decide +kernel
theorem dX4_reset_78 : decode cX4_reset 78 = .ok (.putfield 46, 3) := by decide +kernel
theorem dX4_reset_81 : decode cX4_reset 81 = .ok (.aload_n 0, 1) := by decide +kernel
theorem dX4_reset_82 : decode cX4_reset 82 = .ok (.iconst 0, 1) := by decide +kernel
theorem dX4_reset_83 : decode cX4_reset 83 = .ok (.putfield 50, 3) := by decide +kernel
theorem dX4_reset_86 : decode cX4_reset 86 = .ok (.return_, 1) := by decide +kernel
theorem dX4_copyFrom_0 : decode cX4_copyFrom 0 = .ok (.aload_n 1, 1) := by decide +kernel
theorem dX4_copyFrom_1 : decode cX4_copyFrom 1 = .ok (.getfield 9, 3) := by decide +kernel
theorem dX4_copyFrom_4 : decode cX4_copyFrom 4 = .ok (.iconst 0, 1) := by decide +kernel
theorem dX4_copyFrom_5 : decode cX4_copyFrom 5 = .ok (.aload_n 0, 1) := by decide +kernel
theorem dX4_copyFrom_6 : decode cX4_copyFrom 6 = .ok (.getfield 9, 3) := by decide +kernel
theorem dX4_copyFrom_9 : decode cX4_copyFrom 9 = .ok (.iconst 0, 1) := by decide +kernel
theorem dX4_copyFrom_10 : decode cX4_copyFrom 10 = .ok (.bipush 8, 2) := by decide +kernel
theorem dX4_copyFrom_12 : decode cX4_copyFrom 12 = .ok (.invokestatic 53, 3) := by decide +kernel
theorem dX4_copyFrom_15 : decode cX4_copyFrom 15 = .ok (.aload_n 1, 1) := by decide +kernel
theorem dX4_copyFrom_16 : decode cX4_copyFrom 16 = .ok (.getfield 15, 3) := by decide +kernel
theorem dX4_copyFrom_19 : decode cX4_copyFrom 19 = .ok (.iconst 0, 1) := by decide +kernel
theorem dX4_copyFrom_20 : decode cX4_copyFrom 20 = .ok (.aload_n 0, 1) := by decide +kernel
theorem dX4_copyFrom_21 : decode cX4_copyFrom 21 = .ok (.getfield 15, 3) := by decide +kernel
theorem dX4_copyFrom_24 : decode cX4_copyFrom 24 = .ok (.iconst 0, 1) := by decide +kernel
theorem dX4_copyFrom_25 : decode cX4_copyFrom 25 = .ok (.bipush 8, 2) := by decide +kernel
theorem dX4_copyFrom_27 : decode cX4_copyFrom 27 = .ok (.invokestatic 53, 3) := by decide +kernel
theorem dX4_copyFrom_30 : decode cX4_copyFrom 30 = .ok (.aload_n 0, 1) := by decide +kernel
theorem dX4_copyFrom_31 : decode cX4_copyFrom 31 = .ok (.getfield 23, 3) := by decide +kernel
theorem dX4_copyFrom_34 : decode cX4_copyFrom 34 = .ok (.aload_n 1, 1) := by decide +kernel
theorem dX4_copyFrom_35 : decode cX4_copyFrom 35 = .ok (.getfield 23, 3) := by decide +kernel
theorem dX4_copyFrom_38 : decode cX4_copyFrom 38 = .ok (.invokevirtual 59, 3) := by decide +kernel
theorem dX4_copyFrom_41 : decode cX4_copyFrom 41 = .ok (.aload_n 0, 1) := by decide +kernel
theorem dX4_copyFrom_42 : decode cX4_copyFrom 42 = .ok (.getfield 27, 3) := by decide +kernel
theorem dX4_copyFrom_45 : decode cX4_copyFrom 45 = .ok (.aload_n 1, 1) := by decide +kernel
theorem dX4_copyFrom_46 : decode cX4_copyFrom 46 = .ok (.getfield 27, 3) := by decide +kernel
theorem dX4_copyFrom_49 : decode cX4_copyFrom 49 = .ok (.invokevirtual 59, 3) := by decide +kernel
theorem dX4_copyFrom_52 : decode cX4_copyFrom 52 = .ok (.aload_n 0, 1) := by decide +kernel
theorem dX4_copyFrom_53 : decode cX4_copyFrom 53 = .ok (.getfield 30, 3) := by decide +kernel
theorem dX4_copyFrom_56 : decode cX4_copyFrom 56 = .ok (.aload_n 1, 1) := by decide +kernel
theorem dX4_copyFrom_57 : decode cX4_copyFrom 57 = .ok (.getfield 30, 3) := by decide +kernel
theorem dX4_copyFrom_60 : decode cX4_copyFrom 60 = .ok (.invokevirtual 59, 3) := by decide +kernel
theorem dX4_copyFrom_63 : decode cX4_copyFrom 63 = .ok (.aload_n 0, 1) := by decide +kernel
theorem dX4_copyFrom_64 : decode cX4_copyFrom 64 = .ok (.getfield 33, 3) := by decide +kernel
theorem dX4_copyFrom_67 : decode cX4_copyFrom 67 = .ok (.aload_n 1, 1) := by decide +kernel
theorem dX4_copyFrom_68 : decode cX4_copyFrom 68 = .ok (.getfield 33, 3) := by decide +kernel
theorem dX4_copyFrom_71 : decode cX4_copyFrom 71 = .ok (.invokevirtual 59, 3) := by decide +kernel
theorem dX4_copyFrom_74 : decode cX4_copyFrom 74 = .ok (.aload_n 0, 1) := by decide +kernel
theorem dX4_copyFrom_75 : decode cX4_copyFrom 75 = .ok (.getfield 36, 3) := by decide +kernel
theorem dX4_copyFrom_78 : decode cX4_copyFrom 78 = .ok (.aload_n 1, 1) := by decide +kernel
theorem dX4_copyFrom_79 : decode cX4_copyFrom 79 = .ok (.getfield 36, 3) := by decide +kernel
theorem dX4_copyFrom_82 : decode cX4_copyFrom 82 = .ok (.invokevirtual 59, 3) := by decide +kernel
theorem dX4_copyFrom_85 : decode cX4_copyFrom 85 = .ok (.aload_n 0, 1) := by decide +kernel
theorem dX4_copyFrom_86 : decode cX4_copyFrom 86 = .ok (.getfield 39, 3) := by decide +kernel
theorem dX4_copyFrom_89 : decode cX4_copyFrom 89 = .ok (.aload_n 1, 1) := by decide +kernel
theorem dX4_copyFrom_90 : decode cX4_copyFrom 90 = .ok (.getfield 39, 3) := by decide +kernel
theorem dX4_copyFrom_93 : decode cX4_copyFrom 93 = .ok (.invokevirtual 59, 3) := by decide +kernel
theorem dX4_copyFrom_96 : decode cX4_copyFrom 96 = .ok (.aload_n 0, 1) := by decide +kernel
theorem dX4_copyFrom_97 : decode cX4_copyFrom 97 = .ok (.aload_n 1, 1) := by decide +kernel
theorem dX4_copyFrom_98 : decode cX4_copyFrom 98 = .ok (.getfield 46, 3) := by decide +kernel
theorem dX4_copyFrom_101 : decode cX4_copyFrom 101 = .ok (.putfield 46, 3) := by decide +kernel
theorem dX4_copyFrom_104 : decode cX4_copyFrom 104 = .ok (.aload_n 0, 1) := by decide +kernel
theorem dX4_copyFrom_105 : decode cX4_copyFrom 105 = .ok (.aload_n 1, 1) := by decide +kernel
theorem dX4_copyFrom_106 : decode cX4_copyFrom 106 = .ok (.getfield 50, 3) := by decide +kernel
theorem dX4_copyFrom_109 : decode cX4_copyFrom 109 = .ok (.putfield 50, 3) := by decide +kernel
theorem dX4_copyFrom_112 : decode cX4_copyFrom 112 = .ok (.return_, 1) := by decide +kernel
theorem dX4_tellWind_0 : decode cX4_tellWind 0 = .ok (.iload_n 1, 1) := by decide +kernel
theorem dX4_tellWind_1 : decode cX4_tellWind 1 = .ok (.invokestatic 63, 3) := by decide +kernel
theorem dX4_tellWind_4 : decode cX4_tellWind 4 = .ok (.ifCond .eq 17, 3) := by decide +kernel
theorem dX4_tellWind_7 : decode cX4_tellWind 7 = .ok (.aload_n 0, 1) := by decide +kernel
theorem dX4_tellWind_8 : decode cX4_tellWind 8 = .ok (.getfield 9, 3) := by decide +kernel
theorem dX4_tellWind_11 : decode cX4_tellWind 11 = .ok (.iload_n 1, 1) := by decide +kernel
theorem dX4_tellWind_12 : decode cX4_tellWind 12 = .ok (.iload_n 2, 1) := by decide +kernel
theorem dX4_tellWind_13 : decode cX4_tellWind 13 = .ok (.iastore, 1) := by decide +kernel
theorem dX4_tellWind_14 : decode cX4_tellWind 14 = .ok (.aload_n 0, 1) := by decide +kernel
theorem dX4_tellWind_15 : decode cX4_tellWind 15 = .ok (.getfield 15, 3) := by decide +kernel
theorem dX4_tellWind_18 : decode cX4_tellWind 18 = .ok (.iload_n 1, 1) := by decide +kernel
theorem dX4_tellWind_19 : decode cX4_tellWind 19 = .ok (.iload_n 3, 1) := by decide +kernel
theorem dX4_tellWind_20 : decode cX4_tellWind 20 = .ok (.iastore, 1) := by decide +kernel
theorem dX4_tellWind_21 : decode cX4_tellWind 21 = .ok (.aload_n 0, 1) := by decide +kernel
theorem dX4_tellWind_22 : decode cX4_tellWind 22 = .ok (.getfield 39, 3) := by decide +kernel
theorem dX4_tellWind_25 : decode cX4_tellWind 25 = .ok (.invokevirtual 42, 3) := by decide +kernel
theorem dX4_tellWind_28 : decode cX4_tellWind 28 = .ok (.pop, 1) := by decide +kernel
theorem dX4_tellWind_29 : decode cX4_tellWind 29 = .ok (.return_, 1) := by decide +kernel
theorem dX4_addUser_0 : decode cX4_addUser 0 = .ok (.aload_n 0, 1) := by decide +kernel
theorem dX4_addUser_1 : decode cX4_addUser 1 = .ok (.getfield 23, 3) := by decide +kernel
theorem dX4_addUser_4 : decode cX4_addUser 4 = .ok (.invokevirtual 67, 3) := by decide +kernel
theorem dX4_addUser_7 : decode cX4_addUser 7 = .ok (.istore 4, 2) := by decide +kernel
theorem dX4_addUser_9 : decode cX4_addUser 9 = .ok (.aload_n 0, 1) := by decide +kernel
theorem dX4_addUser_10 : decode cX4_addUser 10 = .ok (.getfield 23, 3) := by decide +kernel
theorem dX4_addUser_13 : decode cX4_addUser 13 = .ok (.iload 4, 2) := by decide +kernel
theorem dX4_addUser_15 : decode cX4_addUser 15 = .ok (.iconst 0, 1) := by decide +kernel
theorem dX4_addUser_16 : decode cX4_addUser 16 = .ok (.iload_n 1, 1) := by decide +kernel
theorem dX4_addUser_17 : decode cX4_addUser 17 = .ok (.invokevirtual 70, 3) := by decide +kernel
theorem dX4_addUser_20 : decode cX4_addUser 20 = .ok (.aload_n 0, 1) := by decide +kernel
theorem dX4_addUser_21 : decode cX4_addUser 21 = .ok (.getfield 23, 3) := by decide +kernel
theorem dX4_addUser_24 : decode cX4_addUser 24 = .ok (.iload 4, 2) := by decide +kernel
theorem dX4_addUser_26 : decode cX4_addUser 26 = .ok (.iconst 1, 1) := by decide +kernel
theorem dX4_addUser_27 : decode cX4_addUser 27 = .ok (.iload_n 2, 1) := by decide +kernel
theorem dX4_addUser_28 : decode cX4_addUser 28 = .ok (.invokevirtual 70, 3) := by decide +kernel
theorem dX4_addUser_31 : decode cX4_addUser 31 = .ok (.aload_n 0, 1) := by decide +kernel
theorem dX4_addUser_32 : decode cX4_addUser 32 = .ok (.getfield 23, 3) := by decide +kernel
theorem dX4_addUser_35 : decode cX4_addUser 35 = .ok (.iload 4, 2) := by decide +kernel
theorem dX4_addUser_37 : decode cX4_addUser 37 = .ok (.iconst 2, 1) := by decide +kernel
theorem dX4_addUser_38 : decode cX4_addUser 38 = .ok (.iload_n 3, 1) := by decide +kernel
theorem dX4_addUser_39 : decode cX4_addUser 39 = .ok (.invokevirtual 70, 3) := by decide +kernel
theorem dX4_addUser_42 : decode cX4_addUser 42 = .ok (.aload_n 0, 1) := by decide +kernel
theorem dX4_addUser_43 : decode cX4_addUser 43 = .ok (.getfield 39, 3) := by decide +kernel
theorem dX4_addUser_46 : decode cX4_addUser 46 = .ok (.invokevirtual 42, 3) := by decide +kernel
theorem dX4_addUser_49 : decode cX4_addUser 49 = .ok (.pop, 1) := by decide +kernel
theorem dX4_addUser_50 : decode cX4_addUser 50 = .ok (.iload 4, 2) := by decide +kernel
theorem dX4_addUser_52 : decode cX4_addUser 52 = .ok (.ireturn, 1) := by decide +kernel
theorem dX4_fileSuit_0 : decode cX4_fileSuit 0 = .ok (.aload_n 0, 1) := by decide +kernel
theorem dX4_fileSuit_1 : decode cX4_fileSuit 1 = .ok (.getfield 27, 3) := by decide +kernel
theorem dX4_fileSuit_4 : decode cX4_fileSuit 4 = .ok (.invokevirtual 67, 3) := by decide +kernel
theorem dX4_fileSuit_7 : decode cX4_fileSuit 7 = .ok (.istore_n 3, 1) := by decide +kernel
theorem dX4_fileSuit_8 : decode cX4_fileSuit 8 = .ok (.aload_n 0, 1) := by decide +kernel
theorem dX4_fileSuit_9 : decode cX4_fileSuit 9 = .ok (.getfield 27, 3) := by decide +kernel
theorem dX4_fileSuit_12 : decode cX4_fileSuit 12 = .ok (.iload_n 3, 1) := by decide +kernel
theorem dX4_fileSuit_13 : decode cX4_fileSuit 13 = .ok (.iconst 0, 1) := by decide +kernel
theorem dX4_fileSuit_14 : decode cX4_fileSuit 14 = .ok (.iload_n 1, 1) := by decide +kernel
theorem dX4_fileSuit_15 : decode cX4_fileSuit 15 = .ok (.invokevirtual 70, 3) := by decide +kernel
theorem dX4_fileSuit_18 : decode cX4_fileSuit 18 = .ok (.aload_n 0, 1) := by decide +kernel
theorem dX4_fileSuit_19 : decode cX4_fileSuit 19 = .ok (.getfield 27, 3) := by decide +kernel
theorem dX4_fileSuit_22 : decode cX4_fileSuit 22 = .ok (.iload_n 3, 1) := by decide +kernel
theorem dX4_fileSuit_23 : decode cX4_fileSuit 23 = .ok (.iconst 1, 1) := by decide +kernel
theorem dX4_fileSuit_24 : decode cX4_fileSuit 24 = .ok (.iload_n 2, 1) := by decide +kernel
theorem dX4_fileSuit_25 : decode cX4_fileSuit 25 = .ok (.invokevirtual 70, 3) := by decide +kernel
theorem dX4_fileSuit_28 : decode cX4_fileSuit 28 = .ok (.aload_n 0, 1) := by decide +kernel
theorem dX4_fileSuit_29 : decode cX4_fileSuit 29 = .ok (.getfield 27, 3) := by decide +kernel
theorem dX4_fileSuit_32 : decode cX4_fileSuit 32 = .ok (.iload_n 3, 1) := by decide +kernel
theorem dX4_fileSuit_33 : decode cX4_fileSuit 33 = .ok (.iconst 2, 1) := by decide +kernel
theorem dX4_fileSuit_34 : decode cX4_fileSuit 34 = .ok (.aload_n 0, 1) := by decide +kernel
theorem dX4_fileSuit_35 : decode cX4_fileSuit 35 = .ok (.getfield 46, 3) := by decide +kernel
theorem dX4_fileSuit_38 : decode cX4_fileSuit 38 = .ok (.invokevirtual 70, 3) := by decide +kernel
theorem dX4_fileSuit_41 : decode cX4_fileSuit 41 = .ok (.iload_n 3, 1) := by decide +kernel
theorem dX4_fileSuit_42 : decode cX4_fileSuit 42 = .ok (.ireturn, 1) := by decide +kernel
theorem dX4_addReading_0 : decode cX4_addReading 0 = .ok (.aload_n 0, 1) := by decide +kernel
theorem dX4_addReading_1 : decode cX4_addReading 1 = .ok (.getfield 30, 3) := by decide +kernel
theorem dX4_addReading_4 : decode cX4_addReading 4 = .ok (.invokevirtual 67, 3) := by decide +kernel
theorem dX4_addReading_7 : decode cX4_addReading 7 = .ok (.istore 4, 2) := by decide +kernel
theorem dX4_addReading_9 : decode cX4_addReading 9 = .ok (.aload_n 0, 1) := by decide +kernel
theorem dX4_addReading_10 : decode cX4_addReading 10 = .ok (.getfield 30, 3) := by decide +kernel
theorem dX4_addReading_13 : decode cX4_addReading 13 = .ok (.iload 4, 2) := by decide +kernel
theorem dX4_addReading_15 : decode cX4_addReading 15 = .ok (.iconst 0, 1) := by decide +kernel
theorem dX4_addReading_16 : decode cX4_addReading 16 = .ok (.iload_n 1, 1) := by decide +kernel
theorem dX4_addReading_17 : decode cX4_addReading 17 = .ok (.invokevirtual 70, 3) := by decide +kernel
theorem dX4_addReading_20 : decode cX4_addReading 20 = .ok (.aload_n 0, 1) := by decide +kernel
theorem dX4_addReading_21 : decode cX4_addReading 21 = .ok (.getfield 30, 3) := by decide +kernel
theorem dX4_addReading_24 : decode cX4_addReading 24 = .ok (.iload 4, 2) := by decide +kernel
theorem dX4_addReading_26 : decode cX4_addReading 26 = .ok (.iconst 1, 1) := by decide +kernel
theorem dX4_addReading_27 : decode cX4_addReading 27 = .ok (.iload_n 2, 1) := by decide +kernel
theorem dX4_addReading_28 : decode cX4_addReading 28 = .ok (.invokevirtual 70, 3) := by decide +kernel
theorem dX4_addReading_31 : decode cX4_addReading 31 = .ok (.aload_n 0, 1) := by decide +kernel
theorem dX4_addReading_32 : decode cX4_addReading 32 = .ok (.getfield 30, 3) := by decide +kernel
theorem dX4_addReading_35 : decode cX4_addReading 35 = .ok (.iload 4, 2) := by decide +kernel
theorem dX4_addReading_37 : decode cX4_addReading 37 = .ok (.iconst 2, 1) := by decide +kernel
theorem dX4_addReading_38 : decode cX4_addReading 38 = .ok (.iload_n 3, 1) := by decide +kernel
theorem dX4_addReading_39 : decode cX4_addReading 39 = .ok (.invokevirtual 70, 3) := by decide +kernel
theorem dX4_addReading_42 : decode cX4_addReading 42 = .ok (.aload_n 0, 1) := by decide +kernel
theorem dX4_addReading_43 : decode cX4_addReading 43 = .ok (.getfield 30, 3) := by decide +kernel
theorem dX4_addReading_46 : decode cX4_addReading 46 = .ok (.getfield 74, 3) := by decide +kernel
theorem dX4_addReading_49 : decode cX4_addReading 49 = .ok (.ireturn, 1) := by decide +kernel
theorem dX4_addNote_0 : decode cX4_addNote 0 = .ok (.aload_n 0, 1) := by decide +kernel
theorem dX4_addNote_1 : decode cX4_addNote 1 = .ok (.getfield 33, 3) := by decide +kernel
theorem dX4_addNote_4 : decode cX4_addNote 4 = .ok (.invokevirtual 67, 3) := by decide +kernel
theorem dX4_addNote_7 : decode cX4_addNote 7 = .ok (.istore 6, 2) := by decide +kernel
theorem dX4_addNote_9 : decode cX4_addNote 9 = .ok (.aload_n 0, 1) := by decide +kernel
theorem dX4_addNote_10 : decode cX4_addNote 10 = .ok (.getfield 33, 3) := by decide +kernel
theorem dX4_addNote_13 : decode cX4_addNote 13 = .ok (.iload 6, 2) := by decide +kernel
theorem dX4_addNote_15 : decode cX4_addNote 15 = .ok (.iconst 0, 1) := by decide +kernel
theorem dX4_addNote_16 : decode cX4_addNote 16 = .ok (.iload_n 1, 1) := by decide +kernel
theorem dX4_addNote_17 : decode cX4_addNote 17 = .ok (.invokevirtual 70, 3) := by decide +kernel
theorem dX4_addNote_20 : decode cX4_addNote 20 = .ok (.aload_n 0, 1) := by decide +kernel
theorem dX4_addNote_21 : decode cX4_addNote 21 = .ok (.getfield 33, 3) := by decide +kernel
theorem dX4_addNote_24 : decode cX4_addNote 24 = .ok (.iload 6, 2) := by decide +kernel
theorem dX4_addNote_26 : decode cX4_addNote 26 = .ok (.iconst 1, 1) := by decide +kernel
theorem dX4_addNote_27 : decode cX4_addNote 27 = .ok (.iload_n 2, 1) := by decide +kernel
theorem dX4_addNote_28 : decode cX4_addNote 28 = .ok (.invokevirtual 70, 3) := by decide +kernel
theorem dX4_addNote_31 : decode cX4_addNote 31 = .ok (.aload_n 0, 1) := by decide +kernel
theorem dX4_addNote_32 : decode cX4_addNote 32 = .ok (.getfield 33, 3) := by decide +kernel
theorem dX4_addNote_35 : decode cX4_addNote 35 = .ok (.iload 6, 2) := by decide +kernel
theorem dX4_addNote_37 : decode cX4_addNote 37 = .ok (.iconst 2, 1) := by decide +kernel
theorem dX4_addNote_38 : decode cX4_addNote 38 = .ok (.iload_n 3, 1) := by decide +kernel
theorem dX4_addNote_39 : decode cX4_addNote 39 = .ok (.invokevirtual 70, 3) := by decide +kernel
theorem dX4_addNote_42 : decode cX4_addNote 42 = .ok (.aload_n 0, 1) := by decide +kernel
theorem dX4_addNote_43 : decode cX4_addNote 43 = .ok (.getfield 33, 3) := by decide +kernel
theorem dX4_addNote_46 : decode cX4_addNote 46 = .ok (.iload 6, 2) := by decide +kernel
theorem dX4_addNote_48 : decode cX4_addNote 48 = .ok (.iconst 3, 1) := by decide +kernel
theorem dX4_addNote_49 : decode cX4_addNote 49 = .ok (.iload 4, 2) := by decide +kernel
theorem dX4_addNote_51 : decode cX4_addNote 51 = .ok (.invokevirtual 70, 3) := by decide +kernel
theorem dX4_addNote_54 : decode cX4_addNote 54 = .ok (.aload_n 0, 1) := by decide +kernel
theorem dX4_addNote_55 : decode cX4_addNote 55 = .ok (.getfield 33, 3) := by decide +kernel
theorem dX4_addNote_58 : decode cX4_addNote 58 = .ok (.iload 6, 2) := by decide +kernel
theorem dX4_addNote_60 : decode cX4_addNote 60 = .ok (.iconst 4, 1) := by decide +kernel
theorem dX4_addNote_61 : decode cX4_addNote 61 = .ok (.iload 5, 2) := by decide +kernel
theorem dX4_addNote_63 : decode cX4_addNote 63 = .ok (.invokevirtual 70, 3) := by decide +kernel
theorem dX4_addNote_66 : decode cX4_addNote 66 = .ok (.aload_n 0, 1) := by decide +kernel
theorem dX4_addNote_67 : decode cX4_addNote 67 = .ok (.getfield 33, 3) := by decide +kernel
theorem dX4_addNote_70 : decode cX4_addNote 70 = .ok (.getfield 74, 3) := by decide +kernel
theorem dX4_addNote_73 : decode cX4_addNote 73 = .ok (.ireturn, 1) := by decide +kernel
theorem dX4_addMark_0 : decode cX4_addMark 0 = .ok (.aload_n 0, 1) := by decide +kernel
theorem dX4_addMark_1 : decode cX4_addMark 1 = .ok (.getfield 36, 3) := by decide +kernel
theorem dX4_addMark_4 : decode cX4_addMark 4 = .ok (.invokevirtual 67, 3) := by decide +kernel
theorem dX4_addMark_7 : decode cX4_addMark 7 = .ok (.istore 5, 2) := by decide +kernel
theorem dX4_addMark_9 : decode cX4_addMark 9 = .ok (.aload_n 0, 1) := by decide +kernel
theorem dX4_addMark_10 : decode cX4_addMark 10 = .ok (.getfield 36, 3) := by decide +kernel
theorem dX4_addMark_13 : decode cX4_addMark 13 = .ok (.iload 5, 2) := by decide +kernel
theorem dX4_addMark_15 : decode cX4_addMark 15 = .ok (.iconst 0, 1) := by decide +kernel
theorem dX4_addMark_16 : decode cX4_addMark 16 = .ok (.iload_n 1, 1) := by decide +kernel
theorem dX4_addMark_17 : decode cX4_addMark 17 = .ok (.invokevirtual 70, 3) := by decide +kernel
theorem dX4_addMark_20 : decode cX4_addMark 20 = .ok (.aload_n 0, 1) := by decide +kernel
theorem dX4_addMark_21 : decode cX4_addMark 21 = .ok (.getfield 36, 3) := by decide +kernel
theorem dX4_addMark_24 : decode cX4_addMark 24 = .ok (.iload 5, 2) := by decide +kernel
theorem dX4_addMark_26 : decode cX4_addMark 26 = .ok (.iconst 1, 1) := by decide +kernel
theorem dX4_addMark_27 : decode cX4_addMark 27 = .ok (.iload_n 2, 1) := by decide +kernel
theorem dX4_addMark_28 : decode cX4_addMark 28 = .ok (.invokevirtual 70, 3) := by decide +kernel
theorem dX4_addMark_31 : decode cX4_addMark 31 = .ok (.aload_n 0, 1) := by decide +kernel
theorem dX4_addMark_32 : decode cX4_addMark 32 = .ok (.getfield 36, 3) := by decide +kernel
theorem dX4_addMark_35 : decode cX4_addMark 35 = .ok (.iload 5, 2) := by decide +kernel
theorem dX4_addMark_37 : decode cX4_addMark 37 = .ok (.iconst 2, 1) := by decide +kernel
theorem dX4_addMark_38 : decode cX4_addMark 38 = .ok (.iload_n 3, 1) := by decide +kernel
theorem dX4_addMark_39 : decode cX4_addMark 39 = .ok (.invokevirtual 70, 3) := by decide +kernel
theorem dX4_addMark_42 : decode cX4_addMark 42 = .ok (.aload_n 0, 1) := by decide +kernel
theorem dX4_addMark_43 : decode cX4_addMark 43 = .ok (.getfield 36, 3) := by decide +kernel
theorem dX4_addMark_46 : decode cX4_addMark 46 = .ok (.iload 5, 2) := by decide +kernel
theorem dX4_addMark_48 : decode cX4_addMark 48 = .ok (.iconst 3, 1) := by decide +kernel
theorem dX4_addMark_49 : decode cX4_addMark 49 = .ok (.iload 4, 2) := by decide +kernel
theorem dX4_addMark_51 : decode cX4_addMark 51 = .ok (.invokevirtual 70, 3) := by decide +kernel
theorem dX4_addMark_54 : decode cX4_addMark 54 = .ok (.aload_n 0, 1) := by decide +kernel
theorem dX4_addMark_55 : decode cX4_addMark 55 = .ok (.getfield 36, 3) := by decide +kernel
theorem dX4_addMark_58 : decode cX4_addMark 58 = .ok (.getfield 74, 3) := by decide +kernel
theorem dX4_addMark_61 : decode cX4_addMark 61 = .ok (.ireturn, 1) := by decide +kernel
theorem dX4_passHours_0 : decode cX4_passHours 0 = .ok (.iconst 0, 1) := by decide +kernel
theorem dX4_passHours_1 : decode cX4_passHours 1 = .ok (.istore_n 3, 1) := by decide +kernel
theorem dX4_passHours_2 : decode cX4_passHours 2 = .ok (.iconst 0, 1) := by decide +kernel
theorem dX4_passHours_3 : decode cX4_passHours 3 = .ok (.istore 4, 2) := by decide +kernel
theorem dX4_passHours_5 : decode cX4_passHours 5 = .ok (.iload 4, 2) := by decide +kernel
theorem dX4_passHours_7 : decode cX4_passHours 7 = .ok (.iload_n 1, 1) := by decide +kernel
theorem dX4_passHours_8 : decode cX4_passHours 8 = .ok (.if_icmp .ge 101, 3) := by decide +kernel
theorem dX4_passHours_11 : decode cX4_passHours 11 = .ok (.aload_n 0, 1) := by decide +kernel
theorem dX4_passHours_12 : decode cX4_passHours 12 = .ok (.getfield 46, 3) := by decide +kernel
theorem dX4_passHours_15 : decode cX4_passHours 15 = .ok (.sipush 9999, 3) := by decide +kernel
theorem dX4_passHours_18 : decode cX4_passHours 18 = .ok (.if_icmp .ge 91, 3) := by decide +kernel
theorem dX4_passHours_21 : decode cX4_passHours 21 = .ok (.aload_n 2, 1) := by decide +kernel
theorem dX4_passHours_22 : decode cX4_passHours 22 = .ok (.aload_n 0, 1) := by decide +kernel
theorem dX4_passHours_23 : decode cX4_passHours 23 = .ok (.aload_n 0, 1) := by decide +kernel
theorem dX4_passHours_24 : decode cX4_passHours 24 = .ok (.getfield 46, 3) := by decide +kernel
theorem dX4_passHours_27 : decode cX4_passHours 27 = .ok (.bipush 127, 2) := by decide +kernel
theorem dX4_passHours_29 : decode cX4_passHours 29 = .ok (.invokevirtual 77, 3) := by decide +kernel
theorem dX4_passHours_32 : decode cX4_passHours 32 = .ok (.iconst 0, 1) := by decide +kernel
theorem dX4_passHours_33 : decode cX4_passHours 33 = .ok (.istore 5, 2) := by decide +kernel
theorem dX4_passHours_35 : decode cX4_passHours 35 = .ok (.iload 5, 2) := by decide +kernel
theorem dX4_passHours_37 : decode cX4_passHours 37 = .ok (.aload_n 0, 1) := by decide +kernel
theorem dX4_passHours_38 : decode cX4_passHours 38 = .ok (.getfield 23, 3) := by decide +kernel
theorem dX4_passHours_41 : decode cX4_passHours 41 = .ok (.getfield 74, 3) := by decide +kernel
theorem dX4_passHours_44 : decode cX4_passHours 44 = .ok (.if_icmp .ge 49, 3) := by decide +kernel
theorem dX4_passHours_47 : decode cX4_passHours 47 = .ok (.aload_n 2, 1) := by decide +kernel
theorem dX4_passHours_48 : decode cX4_passHours 48 = .ok (.aload_n 0, 1) := by decide +kernel
theorem dX4_passHours_49 : decode cX4_passHours 49 = .ok (.getfield 23, 3) := by decide +kernel
theorem dX4_passHours_52 : decode cX4_passHours 52 = .ok (.iload 5, 2) := by decide +kernel
theorem dX4_passHours_54 : decode cX4_passHours 54 = .ok (.invokevirtual 83, 3) := by decide +kernel
theorem dX4_passHours_57 : decode cX4_passHours 57 = .ok (.istore 6, 2) := by decide +kernel
theorem dX4_passHours_59 : decode cX4_passHours 59 = .ok (.aload_n 0, 1) := by decide +kernel
theorem dX4_passHours_60 : decode cX4_passHours 60 = .ok (.getfield 23, 3) := by decide +kernel
theorem dX4_passHours_63 : decode cX4_passHours 63 = .ok (.iload 5, 2) := by decide +kernel
theorem dX4_passHours_65 : decode cX4_passHours 65 = .ok (.iconst 3, 1) := by decide +kernel
theorem dX4_passHours_66 : decode cX4_passHours 66 = .ok (.aload_n 0, 1) := by decide +kernel
theorem dX4_passHours_67 : decode cX4_passHours 67 = .ok (.getfield 23, 3) := by decide +kernel
theorem dX4_passHours_70 : decode cX4_passHours 70 = .ok (.iload 5, 2) := by decide +kernel
theorem dX4_passHours_72 : decode cX4_passHours 72 = .ok (.iconst 3, 1) := by decide +kernel
theorem dX4_passHours_73 : decode cX4_passHours 73 = .ok (.invokevirtual 87, 3) := by decide +kernel
theorem dX4_passHours_76 : decode cX4_passHours 76 = .ok (.iload 6, 2) := by decide +kernel
theorem dX4_passHours_78 : decode cX4_passHours 78 = .ok (.iadd, 1) := by decide +kernel
theorem dX4_passHours_79 : decode cX4_passHours 79 = .ok (.invokevirtual 70, 3) := by decide +kernel
theorem dX4_passHours_82 : decode cX4_passHours 82 = .ok (.iload_n 3, 1) := by decide +kernel
theorem dX4_passHours_83 : decode cX4_passHours 83 = .ok (.iload 6, 2) := by decide +kernel
theorem dX4_passHours_85 : decode cX4_passHours 85 = .ok (.iadd, 1) := by decide +kernel
theorem dX4_passHours_86 : decode cX4_passHours 86 = .ok (.istore_n 3, 1) := by decide +kernel
theorem dX4_passHours_87 : decode cX4_passHours 87 = .ok (.iinc 5 1, 3) := by decide +kernel
theorem dX4_passHours_90 : decode cX4_passHours 90 = .ok (.goto (-55), 3) := by decide +kernel
theorem dX4_passHours_93 : decode cX4_passHours 93 = .ok (.aload_n 0, 1) := by decide +kernel
theorem dX4_passHours_94 : decode cX4_passHours 94 = .ok (.dup, 1) := by decide +kernel
theorem dX4_passHours_95 : decode cX4_passHours 95 = .ok (.getfield 46, 3) := by decide +kernel
theorem dX4_passHours_98 : decode cX4_passHours 98 = .ok (.iconst 1, 1) := by decide +kernel
theorem dX4_passHours_99 : decode cX4_passHours 99 = .ok (.iadd, 1) := by decide +kernel
theorem dX4_passHours_100 : decode cX4_passHours 100 = .ok (.putfield 46, 3) := by decide +kernel
theorem dX4_passHours_103 : decode cX4_passHours 103 = .ok (.iinc 4 1, 3) := by decide +kernel
theorem dX4_passHours_106 : decode cX4_passHours 106 = .ok (.goto (-101), 3) := by decide +kernel
theorem dX4_passHours_109 : decode cX4_passHours 109 = .ok (.iload_n 3, 1) := by decide +kernel
theorem dX4_passHours_110 : decode cX4_passHours 110 = .ok (.ireturn, 1) := by decide +kernel
theorem dX4_hearSuit_0 : decode cX4_hearSuit 0 = .ok (.aload_n 0, 1) := by decide +kernel
theorem dX4_hearSuit_1 : decode cX4_hearSuit 1 = .ok (.iload_n 1, 1) := by decide +kernel
theorem dX4_hearSuit_2 : decode cX4_hearSuit 2 = .ok (.invokevirtual 91, 3) := by decide +kernel
theorem dX4_hearSuit_5 : decode cX4_hearSuit 5 = .ok (.istore_n 2, 1) := by decide +kernel
theorem dX4_hearSuit_6 : decode cX4_hearSuit 6 = .ok (.aload_n 0, 1) := by decide +kernel
theorem dX4_hearSuit_7 : decode cX4_hearSuit 7 = .ok (.dup, 1) := by decide +kernel
theorem dX4_hearSuit_8 : decode cX4_hearSuit 8 = .ok (.getfield 50, 3) := by decide +kernel
theorem dX4_hearSuit_11 : decode cX4_hearSuit 11 = .ok (.iload_n 2, 1) := by decide +kernel
theorem dX4_hearSuit_12 : decode cX4_hearSuit 12 = .ok (.iadd, 1) := by decide +kernel
theorem dX4_hearSuit_13 : decode cX4_hearSuit 13 = .ok (.putfield 50, 3) := by decide +kernel
theorem dX4_hearSuit_16 : decode cX4_hearSuit 16 = .ok (.aload_n 0, 1) := by decide +kernel
theorem dX4_hearSuit_17 : decode cX4_hearSuit 17 = .ok (.getfield 23, 3) := by decide +kernel
theorem dX4_hearSuit_20 : decode cX4_hearSuit 20 = .ok (.aload_n 0, 1) := by decide +kernel
theorem dX4_hearSuit_21 : decode cX4_hearSuit 21 = .ok (.getfield 27, 3) := by decide +kernel
theorem dX4_hearSuit_24 : decode cX4_hearSuit 24 = .ok (.iload_n 1, 1) := by decide +kernel
theorem dX4_hearSuit_25 : decode cX4_hearSuit 25 = .ok (.iconst 1, 1) := by decide +kernel
theorem dX4_hearSuit_26 : decode cX4_hearSuit 26 = .ok (.invokevirtual 87, 3) := by decide +kernel
theorem dX4_hearSuit_29 : decode cX4_hearSuit 29 = .ok (.iconst 3, 1) := by decide +kernel
theorem dX4_hearSuit_30 : decode cX4_hearSuit 30 = .ok (.iconst 0, 1) := by decide +kernel
theorem dX4_hearSuit_31 : decode cX4_hearSuit 31 = .ok (.invokevirtual 70, 3) := by decide +kernel
theorem dX4_hearSuit_34 : decode cX4_hearSuit 34 = .ok (.aload_n 0, 1) := by decide +kernel
theorem dX4_hearSuit_35 : decode cX4_hearSuit 35 = .ok (.getfield 27, 3) := by decide +kernel
theorem dX4_hearSuit_38 : decode cX4_hearSuit 38 = .ok (.iload_n 1, 1) := by decide +kernel
theorem dX4_hearSuit_39 : decode cX4_hearSuit 39 = .ok (.iconst 3, 1) := by decide +kernel
theorem dX4_hearSuit_40 : decode cX4_hearSuit 40 = .ok (.iconst 1, 1) := by decide +kernel
theorem dX4_hearSuit_41 : decode cX4_hearSuit 41 = .ok (.invokevirtual 70, 3) := by decide +kernel
theorem dX4_hearSuit_44 : decode cX4_hearSuit 44 = .ok (.iload_n 2, 1) := by decide +kernel
theorem dX4_hearSuit_45 : decode cX4_hearSuit 45 = .ok (.ireturn, 1) := by decide +kernel
theorem dX4_isHeard_0 : decode cX4_isHeard 0 = .ok (.aload_n 0, 1) := by decide +kernel
theorem dX4_isHeard_1 : decode cX4_isHeard 1 = .ok (.getfield 27, 3) := by decide +kernel
theorem dX4_isHeard_4 : decode cX4_isHeard 4 = .ok (.iload_n 1, 1) := by decide +kernel
theorem dX4_isHeard_5 : decode cX4_isHeard 5 = .ok (.iconst 3, 1) := by decide +kernel
theorem dX4_isHeard_6 : decode cX4_isHeard 6 = .ok (.invokevirtual 87, 3) := by decide +kernel
theorem dX4_isHeard_9 : decode cX4_isHeard 9 = .ok (.iconst 1, 1) := by decide +kernel
theorem dX4_isHeard_10 : decode cX4_isHeard 10 = .ok (.if_icmp .ne 7, 3) := by decide +kernel
theorem dX4_isHeard_13 : decode cX4_isHeard 13 = .ok (.iconst 1, 1) := by decide +kernel
theorem dX4_isHeard_14 : decode cX4_isHeard 14 = .ok (.goto 4, 3) := by decide +kernel
theorem dX4_isHeard_17 : decode cX4_isHeard 17 = .ok (.iconst 0, 1) := by decide +kernel
theorem dX4_isHeard_18 : decode cX4_isHeard 18 = .ok (.ireturn, 1) := by decide +kernel
theorem dX4_awardNow_0 : decode cX4_awardNow 0 = .ok (.aload_n 0, 1) := by decide +kernel
theorem dX4_awardNow_1 : decode cX4_awardNow 1 = .ok (.iload_n 1, 1) := by decide +kernel
theorem dX4_awardNow_2 : decode cX4_awardNow 2 = .ok (.invokevirtual 95, 3) := by decide +kernel
theorem dX4_awardNow_5 : decode cX4_awardNow 5 = .ok (.ifCond .eq 5, 3) := by decide +kernel
theorem dX4_awardNow_8 : decode cX4_awardNow 8 = .ok (.iconst 0, 1) := by decide +kernel
theorem dX4_awardNow_9 : decode cX4_awardNow 9 = .ok (.ireturn, 1) := by decide +kernel
theorem dX4_awardNow_10 : decode cX4_awardNow 10 = .ok (.aload_n 0, 1) := by decide +kernel
theorem dX4_awardNow_11 : decode cX4_awardNow 11 = .ok (.getfield 27, 3) := by decide +kernel
theorem dX4_awardNow_14 : decode cX4_awardNow 14 = .ok (.iload_n 1, 1) := by decide +kernel
theorem dX4_awardNow_15 : decode cX4_awardNow 15 = .ok (.iconst 0, 1) := by decide +kernel
theorem dX4_awardNow_16 : decode cX4_awardNow 16 = .ok (.invokevirtual 87, 3) := by decide +kernel
theorem dX4_awardNow_19 : decode cX4_awardNow 19 = .ok (.aload_n 0, 1) := by decide +kernel
theorem dX4_awardNow_20 : decode cX4_awardNow 20 = .ok (.aload_n 0, 1) := by decide +kernel
theorem dX4_awardNow_21 : decode cX4_awardNow 21 = .ok (.getfield 27, 3) := by decide +kernel
theorem dX4_awardNow_24 : decode cX4_awardNow 24 = .ok (.iload_n 1, 1) := by decide +kernel
theorem dX4_awardNow_25 : decode cX4_awardNow 25 = .ok (.iconst 1, 1) := by decide +kernel
theorem dX4_awardNow_26 : decode cX4_awardNow 26 = .ok (.invokevirtual 87, 3) := by decide +kernel
theorem dX4_awardNow_29 : decode cX4_awardNow 29 = .ok (.invokevirtual 98, 3) := by decide +kernel
theorem dX4_awardNow_32 : decode cX4_awardNow 32 = .ok (.aload_n 0, 1) := by decide +kernel
theorem dX4_awardNow_33 : decode cX4_awardNow 33 = .ok (.getfield 46, 3) := by decide +kernel
theorem dX4_awardNow_36 : decode cX4_awardNow 36 = .ok (.aload_n 0, 1) := by decide +kernel
theorem dX4_awardNow_37 : decode cX4_awardNow 37 = .ok (.getfield 27, 3) := by decide +kernel
theorem dX4_awardNow_40 : decode cX4_awardNow 40 = .ok (.iload_n 1, 1) := by decide +kernel
theorem dX4_awardNow_41 : decode cX4_awardNow 41 = .ok (.iconst 2, 1) := by decide +kernel
theorem dX4_awardNow_42 : decode cX4_awardNow 42 = .ok (.invokevirtual 87, 3) := by decide +kernel
theorem dX4_awardNow_45 : decode cX4_awardNow 45 = .ok (.isub, 1) := by decide +kernel
theorem dX4_awardNow_46 : decode cX4_awardNow 46 = .ok (.invokestatic 101, 3) := by decide +kernel
theorem dX4_awardNow_49 : decode cX4_awardNow 49 = .ok (.ireturn, 1) := by decide +kernel
theorem dX4_duesOf_0 : decode cX4_duesOf 0 = .ok (.aload_n 0, 1) := by decide +kernel
theorem dX4_duesOf_1 : decode cX4_duesOf 1 = .ok (.getfield 23, 3) := by decide +kernel
theorem dX4_duesOf_4 : decode cX4_duesOf 4 = .ok (.iload_n 1, 1) := by decide +kernel
theorem dX4_duesOf_5 : decode cX4_duesOf 5 = .ok (.iconst 3, 1) := by decide +kernel
theorem dX4_duesOf_6 : decode cX4_duesOf 6 = .ok (.invokevirtual 87, 3) := by decide +kernel
theorem dX4_duesOf_9 : decode cX4_duesOf 9 = .ok (.ireturn, 1) := by decide +kernel
theorem dX4_duesOfAll_0 : decode cX4_duesOfAll 0 = .ok (.iconst 0, 1) := by decide +kernel
theorem dX4_duesOfAll_1 : decode cX4_duesOfAll 1 = .ok (.istore_n 1, 1) := by decide +kernel
theorem dX4_duesOfAll_2 : decode cX4_duesOfAll 2 = .ok (.iconst 0, 1) := by decide +kernel
theorem dX4_duesOfAll_3 : decode cX4_duesOfAll 3 = .ok (.istore_n 2, 1) := by decide +kernel
theorem dX4_duesOfAll_4 : decode cX4_duesOfAll 4 = .ok (.iload_n 2, 1) := by decide +kernel
theorem dX4_duesOfAll_5 : decode cX4_duesOfAll 5 = .ok (.aload_n 0, 1) := by decide +kernel
theorem dX4_duesOfAll_6 : decode cX4_duesOfAll 6 = .ok (.getfield 23, 3) := by decide +kernel
theorem dX4_duesOfAll_9 : decode cX4_duesOfAll 9 = .ok (.getfield 74, 3) := by decide +kernel
theorem dX4_duesOfAll_12 : decode cX4_duesOfAll 12 = .ok (.if_icmp .ge 17, 3) := by decide +kernel
theorem dX4_duesOfAll_15 : decode cX4_duesOfAll 15 = .ok (.iload_n 1, 1) := by decide +kernel
theorem dX4_duesOfAll_16 : decode cX4_duesOfAll 16 = .ok (.aload_n 0, 1) := by decide +kernel
theorem dX4_duesOfAll_17 : decode cX4_duesOfAll 17 = .ok (.iload_n 2, 1) := by decide +kernel
theorem dX4_duesOfAll_18 : decode cX4_duesOfAll 18 = .ok (.invokevirtual 98, 3) := by decide +kernel
theorem dX4_duesOfAll_21 : decode cX4_duesOfAll 21 = .ok (.iadd, 1) := by decide +kernel
theorem dX4_duesOfAll_22 : decode cX4_duesOfAll 22 = .ok (.istore_n 1, 1) := by decide +kernel
theorem dX4_duesOfAll_23 : decode cX4_duesOfAll 23 = .ok (.iinc 2 1, 3) := by decide +kernel
theorem dX4_duesOfAll_26 : decode cX4_duesOfAll 26 = .ok (.goto (-22), 3) := by decide +kernel
theorem dX4_duesOfAll_29 : decode cX4_duesOfAll 29 = .ok (.iload_n 1, 1) := by decide +kernel
theorem dX4_duesOfAll_30 : decode cX4_duesOfAll 30 = .ok (.ireturn, 1) := by decide +kernel
theorem dX4_remember_0 : decode cX4_remember 0 = .ok (.aload_n 0, 1) := by decide +kernel
theorem dX4_remember_1 : decode cX4_remember 1 = .ok (.getfield 39, 3) := by decide +kernel
theorem dX4_remember_4 : decode cX4_remember 4 = .ok (.invokevirtual 107, 3) := by decide +kernel
theorem dX4_remember_7 : decode cX4_remember 7 = .ok (.ifCond .eq 10, 3) := by decide +kernel
theorem dX4_remember_10 : decode cX4_remember 10 = .ok (.aload_n 0, 1) := by decide +kernel
theorem dX4_remember_11 : decode cX4_remember 11 = .ok (.getfield 39, 3) := by decide +kernel
theorem dX4_remember_14 : decode cX4_remember 14 = .ok (.invokevirtual 111, 3) := by decide +kernel
theorem dX4_remember_17 : decode cX4_remember 17 = .ok (.aload_n 0, 1) := by decide +kernel
theorem dX4_remember_18 : decode cX4_remember 18 = .ok (.getfield 39, 3) := by decide +kernel
theorem dX4_remember_21 : decode cX4_remember 21 = .ok (.invokevirtual 67, 3) := by decide +kernel
theorem dX4_remember_24 : decode cX4_remember 24 = .ok (.istore_n 1, 1) := by decide +kernel
theorem dX4_remember_25 : decode cX4_remember 25 = .ok (.aload_n 0, 1) := by decide +kernel
theorem dX4_remember_26 : decode cX4_remember 26 = .ok (.getfield 39, 3) := by decide +kernel
theorem dX4_remember_29 : decode cX4_remember 29 = .ok (.iload_n 1, 1) := by decide +kernel
theorem dX4_remember_30 : decode cX4_remember 30 = .ok (.iconst 0, 1) := by decide +kernel
theorem dX4_remember_31 : decode cX4_remember 31 = .ok (.aload_n 0, 1) := by decide +kernel
theorem dX4_remember_32 : decode cX4_remember 32 = .ok (.getfield 46, 3) := by decide +kernel
theorem dX4_remember_35 : decode cX4_remember 35 = .ok (.invokevirtual 70, 3) := by decide +kernel
theorem dX4_remember_38 : decode cX4_remember 38 = .ok (.aload_n 0, 1) := by decide +kernel
theorem dX4_remember_39 : decode cX4_remember 39 = .ok (.getfield 39, 3) := by decide +kernel
theorem dX4_remember_42 : decode cX4_remember 42 = .ok (.iload_n 1, 1) := by decide +kernel
theorem dX4_remember_43 : decode cX4_remember 43 = .ok (.iconst 1, 1) := by decide +kernel
theorem dX4_remember_44 : decode cX4_remember 44 = .ok (.aload_n 0, 1) := by decide +kernel
theorem dX4_remember_45 : decode cX4_remember 45 = .ok (.getfield 50, 3) := by decide +kernel
theorem dX4_remember_48 : decode cX4_remember 48 = .ok (.invokevirtual 70, 3) := by decide +kernel
theorem dX4_remember_51 : decode cX4_remember 51 = .ok (.aload_n 0, 1) := by decide +kernel
theorem dX4_remember_52 : decode cX4_remember 52 = .ok (.getfield 39, 3) := by decide +kernel
theorem dX4_remember_55 : decode cX4_remember 55 = .ok (.iload_n 1, 1) := by decide +kernel
theorem dX4_remember_56 : decode cX4_remember 56 = .ok (.iconst 2, 1) := by decide +kernel
theorem dX4_remember_57 : decode cX4_remember 57 = .ok (.aload_n 0, 1) := by decide +kernel
theorem dX4_remember_58 : decode cX4_remember 58 = .ok (.getfield 27, 3) := by decide +kernel
theorem dX4_remember_61 : decode cX4_remember 61 = .ok (.getfield 74, 3) := by decide +kernel
theorem dX4_remember_64 : decode cX4_remember 64 = .ok (.invokevirtual 70, 3) := by decide +kernel
theorem dX4_remember_67 : decode cX4_remember 67 = .ok (.iconst 0, 1) := by decide +kernel
theorem dX4_remember_68 : decode cX4_remember 68 = .ok (.istore_n 2, 1) := by decide +kernel
theorem dX4_remember_69 : decode cX4_remember 69 = .ok (.iload_n 2, 1) := by decide +kernel
theorem dX4_remember_70 : decode cX4_remember 70 = .ok (.aload_n 0, 1) := by decide +kernel
theorem dX4_remember_71 : decode cX4_remember 71 = .ok (.getfield 23, 3) := by decide +kernel
theorem dX4_remember_74 : decode cX4_remember 74 = .ok (.getfield 74, 3) := by decide +kernel
theorem dX4_remember_77 : decode cX4_remember 77 = .ok (.if_icmp .ge 25, 3) := by decide +kernel
theorem dX4_remember_80 : decode cX4_remember 80 = .ok (.aload_n 0, 1) := by decide +kernel
theorem dX4_remember_81 : decode cX4_remember 81 = .ok (.getfield 39, 3) := by decide +kernel
theorem dX4_remember_84 : decode cX4_remember 84 = .ok (.iload_n 1, 1) := by decide +kernel
theorem dX4_remember_85 : decode cX4_remember 85 = .ok (.iconst 3, 1) := by decide +kernel
theorem dX4_remember_86 : decode cX4_remember 86 = .ok (.iload_n 2, 1) := by decide +kernel
theorem dX4_remember_87 : decode cX4_remember 87 = .ok (.iadd, 1) := by decide +kernel
theorem dX4_remember_88 : decode cX4_remember 88 = .ok (.aload_n 0, 1) := by decide +kernel
theorem dX4_remember_89 : decode cX4_remember 89 = .ok (.iload_n 2, 1) := by decide +kernel
theorem dX4_remember_90 : decode cX4_remember 90 = .ok (.invokevirtual 98, 3) := by decide +kernel
theorem dX4_remember_93 : decode cX4_remember 93 = .ok (.invokevirtual 70, 3) := by decide +kernel
theorem dX4_remember_96 : decode cX4_remember 96 = .ok (.iinc 2 1, 3) := by decide +kernel
theorem dX4_remember_99 : decode cX4_remember 99 = .ok (.goto (-30), 3) := by decide +kernel
theorem dX4_remember_102 : decode cX4_remember 102 = .ok (.iconst 0, 1) := by decide +kernel
theorem dX4_remember_103 : decode cX4_remember 103 = .ok (.istore_n 2, 1) := by decide +kernel
theorem dX4_remember_104 : decode cX4_remember 104 = .ok (.iload_n 2, 1) := by decide +kernel
theorem dX4_remember_105 : decode cX4_remember 105 = .ok (.aload_n 0, 1) := by decide +kernel
theorem dX4_remember_106 : decode cX4_remember 106 = .ok (.getfield 27, 3) := by decide +kernel
theorem dX4_remember_109 : decode cX4_remember 109 = .ok (.getfield 74, 3) := by decide +kernel
theorem dX4_remember_112 : decode cX4_remember 112 = .ok (.if_icmp .ge 30, 3) := by decide +kernel
theorem dX4_remember_115 : decode cX4_remember 115 = .ok (.aload_n 0, 1) := by decide +kernel
theorem dX4_remember_116 : decode cX4_remember 116 = .ok (.getfield 39, 3) := by decide +kernel
theorem dX4_remember_119 : decode cX4_remember 119 = .ok (.iload_n 1, 1) := by decide +kernel
theorem dX4_remember_120 : decode cX4_remember 120 = .ok (.bipush 10, 2) := by decide +kernel
theorem dX4_remember_122 : decode cX4_remember 122 = .ok (.iload_n 2, 1) := by decide +kernel
theorem dX4_remember_123 : decode cX4_remember 123 = .ok (.iadd, 1) := by decide +kernel
theorem dX4_remember_124 : decode cX4_remember 124 = .ok (.aload_n 0, 1) := by decide +kernel
theorem dX4_remember_125 : decode cX4_remember 125 = .ok (.getfield 27, 3) := by decide +kernel
theorem dX4_remember_128 : decode cX4_remember 128 = .ok (.iload_n 2, 1) := by decide +kernel
theorem dX4_remember_129 : decode cX4_remember 129 = .ok (.iconst 3, 1) := by decide +kernel
theorem dX4_remember_130 : decode cX4_remember 130 = .ok (.invokevirtual 87, 3) := by decide +kernel
theorem dX4_remember_133 : decode cX4_remember 133 = .ok (.invokevirtual 70, 3) := by decide +kernel
theorem dX4_remember_136 : decode cX4_remember 136 = .ok (.iinc 2 1, 3) := by decide +kernel
theorem dX4_remember_139 : decode cX4_remember 139 = .ok (.goto (-35), 3) := by decide +kernel
theorem dX4_remember_142 : decode cX4_remember 142 = .ok (.return_, 1) := by decide +kernel
theorem dX4_takeBack_0 : decode cX4_takeBack 0 = .ok (.aload_n 0, 1) := by decide +kernel
theorem dX4_takeBack_1 : decode cX4_takeBack 1 = .ok (.getfield 39, 3) := by decide +kernel
theorem dX4_takeBack_4 : decode cX4_takeBack 4 = .ok (.getfield 74, 3) := by decide +kernel
theorem dX4_takeBack_7 : decode cX4_takeBack 7 = .ok (.iconst 1, 1) := by decide +kernel
theorem dX4_takeBack_8 : decode cX4_takeBack 8 = .ok (.isub, 1) := by decide +kernel
theorem dX4_takeBack_9 : decode cX4_takeBack 9 = .ok (.istore_n 1, 1) := by decide +kernel
theorem dX4_takeBack_10 : decode cX4_takeBack 10 = .ok (.aload_n 0, 1) := by decide +kernel
theorem dX4_takeBack_11 : decode cX4_takeBack 11 = .ok (.aload_n 0, 1) := by decide +kernel
theorem dX4_takeBack_12 : decode cX4_takeBack 12 = .ok (.getfield 39, 3) := by decide +kernel
theorem dX4_takeBack_15 : decode cX4_takeBack 15 = .ok (.iload_n 1, 1) := by decide +kernel
theorem dX4_takeBack_16 : decode cX4_takeBack 16 = .ok (.iconst 0, 1) := by decide +kernel
theorem dX4_takeBack_17 : decode cX4_takeBack 17 = .ok (.invokevirtual 87, 3) := by decide +kernel
theorem dX4_takeBack_20 : decode cX4_takeBack 20 = .ok (.putfield 46, 3) := by decide +kernel
theorem dX4_takeBack_23 : decode cX4_takeBack 23 = .ok (.aload_n 0, 1) := by decide +kernel
theorem dX4_takeBack_24 : decode cX4_takeBack 24 = .ok (.aload_n 0, 1) := by decide +kernel
theorem dX4_takeBack_25 : decode cX4_takeBack 25 = .ok (.getfield 39, 3) := by decide +kernel
theorem dX4_takeBack_28 : decode cX4_takeBack 28 = .ok (.iload_n 1, 1) := by decide +kernel
theorem dX4_takeBack_29 : decode cX4_takeBack 29 = .ok (.iconst 1, 1) := by decide +kernel
theorem dX4_takeBack_30 : decode cX4_takeBack 30 = .ok (.invokevirtual 87, 3) := by decide +kernel
theorem dX4_takeBack_33 : decode cX4_takeBack 33 = .ok (.putfield 50, 3) := by decide +kernel
theorem dX4_takeBack_36 : decode cX4_takeBack 36 = .ok (.aload_n 0, 1) := by decide +kernel
theorem dX4_takeBack_37 : decode cX4_takeBack 37 = .ok (.getfield 27, 3) := by decide +kernel
theorem dX4_takeBack_40 : decode cX4_takeBack 40 = .ok (.aload_n 0, 1) := by decide +kernel
theorem dX4_takeBack_41 : decode cX4_takeBack 41 = .ok (.getfield 39, 3) := by decide +kernel
theorem dX4_takeBack_44 : decode cX4_takeBack 44 = .ok (.iload_n 1, 1) := by decide +kernel
theorem dX4_takeBack_45 : decode cX4_takeBack 45 = .ok (.iconst 2, 1) := by decide +kernel
theorem dX4_takeBack_46 : decode cX4_takeBack 46 = .ok (.invokevirtual 87, 3) := by decide +kernel
theorem dX4_takeBack_49 : decode cX4_takeBack 49 = .ok (.putfield 74, 3) := by decide +kernel
theorem dX4_takeBack_52 : decode cX4_takeBack 52 = .ok (.iconst 0, 1) := by decide +kernel
theorem dX4_takeBack_53 : decode cX4_takeBack 53 = .ok (.istore_n 2, 1) := by decide +kernel
theorem dX4_takeBack_54 : decode cX4_takeBack 54 = .ok (.iload_n 2, 1) := by decide +kernel
theorem dX4_takeBack_55 : decode cX4_takeBack 55 = .ok (.aload_n 0, 1) := by decide +kernel
theorem dX4_takeBack_56 : decode cX4_takeBack 56 = .ok (.getfield 23, 3) := by decide +kernel
theorem dX4_takeBack_59 : decode cX4_takeBack 59 = .ok (.getfield 74, 3) := by decide +kernel
theorem dX4_takeBack_62 : decode cX4_takeBack 62 = .ok (.if_icmp .ge 29, 3) := by decide +kernel
theorem dX4_takeBack_65 : decode cX4_takeBack 65 = .ok (.aload_n 0, 1) := by decide +kernel
theorem dX4_takeBack_66 : decode cX4_takeBack 66 = .ok (.getfield 23, 3) := by decide +kernel
theorem dX4_takeBack_69 : decode cX4_takeBack 69 = .ok (.iload_n 2, 1) := by decide +kernel
theorem dX4_takeBack_70 : decode cX4_takeBack 70 = .ok (.iconst 3, 1) := by decide +kernel
theorem dX4_takeBack_71 : decode cX4_takeBack 71 = .ok (.aload_n 0, 1) := by decide +kernel
theorem dX4_takeBack_72 : decode cX4_takeBack 72 = .ok (.getfield 39, 3) := by decide +kernel
theorem dX4_takeBack_75 : decode cX4_takeBack 75 = .ok (.iload_n 1, 1) := by decide +kernel
theorem dX4_takeBack_76 : decode cX4_takeBack 76 = .ok (.iconst 3, 1) := by decide +kernel
theorem dX4_takeBack_77 : decode cX4_takeBack 77 = .ok (.iload_n 2, 1) := by decide +kernel
theorem dX4_takeBack_78 : decode cX4_takeBack 78 = .ok (.iadd, 1) := by decide +kernel
theorem dX4_takeBack_79 : decode cX4_takeBack 79 = .ok (.invokevirtual 87, 3) := by decide +kernel
theorem dX4_takeBack_82 : decode cX4_takeBack 82 = .ok (.invokevirtual 70, 3) := by decide +kernel
theorem dX4_takeBack_85 : decode cX4_takeBack 85 = .ok (.iinc 2 1, 3) := by decide +kernel
theorem dX4_takeBack_88 : decode cX4_takeBack 88 = .ok (.goto (-34), 3) := by decide +kernel
theorem dX4_takeBack_91 : decode cX4_takeBack 91 = .ok (.iconst 0, 1) := by decide +kernel
theorem dX4_takeBack_92 : decode cX4_takeBack 92 = .ok (.istore_n 2, 1) := by decide +kernel
theorem dX4_takeBack_93 : decode cX4_takeBack 93 = .ok (.iload_n 2, 1) := by decide +kernel
theorem dX4_takeBack_94 : decode cX4_takeBack 94 = .ok (.aload_n 0, 1) := by decide +kernel
theorem dX4_takeBack_95 : decode cX4_takeBack 95 = .ok (.getfield 27, 3) := by decide +kernel
theorem dX4_takeBack_98 : decode cX4_takeBack 98 = .ok (.getfield 74, 3) := by decide +kernel
theorem dX4_takeBack_101 : decode cX4_takeBack 101 = .ok (.if_icmp .ge 30, 3) := by decide +kernel
theorem dX4_takeBack_104 : decode cX4_takeBack 104 = .ok (.aload_n 0, 1) := by decide +kernel
theorem dX4_takeBack_105 : decode cX4_takeBack 105 = .ok (.getfield 27, 3) := by decide +kernel
theorem dX4_takeBack_108 : decode cX4_takeBack 108 = .ok (.iload_n 2, 1) := by decide +kernel
theorem dX4_takeBack_109 : decode cX4_takeBack 109 = .ok (.iconst 3, 1) := by decide +kernel
theorem dX4_takeBack_110 : decode cX4_takeBack 110 = .ok (.aload_n 0, 1) := by decide +kernel
theorem dX4_takeBack_111 : decode cX4_takeBack 111 = .ok (.getfield 39, 3) := by decide +kernel
theorem dX4_takeBack_114 : decode cX4_takeBack 114 = .ok (.iload_n 1, 1) := by decide +kernel
theorem dX4_takeBack_115 : decode cX4_takeBack 115 = .ok (.bipush 10, 2) := by decide +kernel
theorem dX4_takeBack_117 : decode cX4_takeBack 117 = .ok (.iload_n 2, 1) := by decide +kernel
theorem dX4_takeBack_118 : decode cX4_takeBack 118 = .ok (.iadd, 1) := by decide +kernel
theorem dX4_takeBack_119 : decode cX4_takeBack 119 = .ok (.invokevirtual 87, 3) := by decide +kernel
theorem dX4_takeBack_122 : decode cX4_takeBack 122 = .ok (.invokevirtual 70, 3) := by decide +kernel
theorem dX4_takeBack_125 : decode cX4_takeBack 125 = .ok (.iinc 2 1, 3) := by decide +kernel
theorem dX4_takeBack_128 : decode cX4_takeBack 128 = .ok (.goto (-35), 3) := by decide +kernel
theorem dX4_takeBack_131 : decode cX4_takeBack 131 = .ok (.aload_n 0, 1) := by decide +kernel
theorem dX4_takeBack_132 : decode cX4_takeBack 132 = .ok (.getfield 39, 3) := by decide +kernel
theorem dX4_takeBack_135 : decode cX4_takeBack 135 = .ok (.iload_n 1, 1) := by decide +kernel
theorem dX4_takeBack_136 : decode cX4_takeBack 136 = .ok (.iconst 0, 1) := by decide +kernel
theorem dX4_takeBack_137 : decode cX4_takeBack 137 = .ok (.invokestatic 114, 3) := by decide +kernel
theorem dX4_takeBack_140 : decode cX4_takeBack 140 = .ok (.putfield 74, 3) := by decide +kernel
theorem dX4_takeBack_143 : decode cX4_takeBack 143 = .ok (.return_, 1) := by decide +kernel
theorem dX5_takenOf_0 : decode cX5_takenOf 0 = .ok (.iload_n 2, 1) := by decide +kernel
theorem dX5_takenOf_1 : decode cX5_takenOf 1 = .ok (.iconst 2, 1) := by decide +kernel
theorem dX5_takenOf_2 : decode cX5_takenOf 2 = .ok (.iadd, 1) := by decide +kernel
theorem dX5_takenOf_3 : decode cX5_takenOf 3 = .ok (.iconst 3, 1) := by decide +kernel
theorem dX5_takenOf_4 : decode cX5_takenOf 4 = .ok (.idiv, 1) := by decide +kernel
theorem dX5_takenOf_5 : decode cX5_takenOf 5 = .ok (.istore_n 3, 1) := by decide +kernel
theorem dX5_takenOf_6 : decode cX5_takenOf 6 = .ok (.iload_n 3, 1) := by decide +kernel
theorem dX5_takenOf_7 : decode cX5_takenOf 7 = .ok (.iconst 2, 1) := by decide +kernel
theorem dX5_takenOf_8 : decode cX5_takenOf 8 = .ok (.idiv, 1) := by decide +kernel
theorem dX5_takenOf_9 : decode cX5_takenOf 9 = .ok (.istore 4, 2) := by decide +kernel
theorem dX5_takenOf_11 : decode cX5_takenOf 11 = .ok (.iload_n 3, 1) := by decide +kernel
theorem dX5_takenOf_12 : decode cX5_takenOf 12 = .ok (.iload_n 1, 1) := by decide +kernel
theorem dX5_takenOf_13 : decode cX5_takenOf 13 = .ok (.invokestatic 7, 3) := by decide +kernel
theorem dX5_takenOf_16 : decode cX5_takenOf 16 = .ok (.istore 5, 2) := by decide +kernel
theorem dX5_takenOf_18 : decode cX5_takenOf 18 = .ok (.iload_n 0, 1) := by decide +kernel
theorem dX5_takenOf_19 : decode cX5_takenOf 19 = .ok (.tableswitch 74 0 5 #[37, 39, 42, 45, 56, 65], 37) := by decide +kernel
theorem dX5_takenOf_56 : decode cX5_takenOf 56 = .ok (.iload_n 3, 1) := by decide +kernel
theorem dX5_takenOf_57 : decode cX5_takenOf 57 = .ok (.ireturn, 1) := by decide +kernel
theorem dX5_takenOf_58 : decode cX5_takenOf 58 = .ok (.iload 4, 2) := by decide +kernel
theorem dX5_takenOf_60 : decode cX5_takenOf 60 = .ok (.ireturn, 1) := by decide +kernel
theorem dX5_takenOf_61 : decode cX5_takenOf 61 = .ok (.iload 5, 2) := by decide +kernel
theorem dX5_takenOf_63 : decode cX5_takenOf 63 = .ok (.ireturn, 1) := by decide +kernel
theorem dX5_takenOf_64 : decode cX5_takenOf 64 = .ok (.iload_n 2, 1) := by decide +kernel
theorem dX5_takenOf_65 : decode cX5_takenOf 65 = .ok (.iconst 1, 1) := by decide +kernel
theorem dX5_takenOf_66 : decode cX5_takenOf 66 = .ok (.if_icmp .lt 7, 3) := by decide +kernel
theorem dX5_takenOf_69 : decode cX5_takenOf 69 = .ok (.iconst 1, 1) := by decide +kernel
theorem dX5_takenOf_70 : decode cX5_takenOf 70 = .ok (.goto 4, 3) := by decide +kernel
theorem dX5_takenOf_73 : decode cX5_takenOf 73 = .ok (.iconst 0, 1) := by decide +kernel
theorem dX5_takenOf_74 : decode cX5_takenOf 74 = .ok (.ireturn, 1) := by decide +kernel
theorem dX5_takenOf_75 : decode cX5_takenOf 75 = .ok (.iload 4, 2) := by decide +kernel
theorem dX5_takenOf_77 : decode cX5_takenOf 77 = .ok (.iload_n 1, 1) := by decide +kernel
theorem dX5_takenOf_78 : decode cX5_takenOf 78 = .ok (.iadd, 1) := by decide +kernel
theorem dX5_takenOf_79 : decode cX5_takenOf 79 = .ok (.iload_n 2, 1) := by decide +kernel
theorem dX5_takenOf_80 : decode cX5_takenOf 80 = .ok (.invokestatic 7, 3) := by decide +kernel
theorem dX5_takenOf_83 : decode cX5_takenOf 83 = .ok (.ireturn, 1) := by decide +kernel
theorem dX5_takenOf_84 : decode cX5_takenOf 84 = .ok (.iconst 2, 1) := by decide +kernel
theorem dX5_takenOf_85 : decode cX5_takenOf 85 = .ok (.iload 5, 2) := by decide +kernel
theorem dX5_takenOf_87 : decode cX5_takenOf 87 = .ok (.imul, 1) := by decide +kernel
theorem dX5_takenOf_88 : decode cX5_takenOf 88 = .ok (.iload_n 2, 1) := by decide +kernel
theorem dX5_takenOf_89 : decode cX5_takenOf 89 = .ok (.invokestatic 7, 3) := by decide +kernel
theorem dX5_takenOf_92 : decode cX5_takenOf 92 = .ok (.ireturn, 1) := by decide +kernel
theorem dX5_takenOf_93 : decode cX5_takenOf 93 = .ok (.iconst 0, 1) := by decide +kernel
theorem dX5_takenOf_94 : decode cX5_takenOf 94 = .ok (.ireturn, 1) := by decide +kernel
theorem dX5_rentOf_0 : decode cX5_rentOf 0 = .ok (.iconst 3, 1) := by decide +kernel
theorem dX5_rentOf_1 : decode cX5_rentOf 1 = .ok (.iload_n 1, 1) := by decide +kernel
theorem dX5_rentOf_2 : decode cX5_rentOf 2 = .ok (.imul, 1) := by decide +kernel
theorem dX5_rentOf_3 : decode cX5_rentOf 3 = .ok (.istore_n 2, 1) := by decide +kernel
theorem dX5_rentOf_4 : decode cX5_rentOf 4 = .ok (.iload_n 1, 1) := by decide +kernel
theorem dX5_rentOf_5 : decode cX5_rentOf 5 = .ok (.iconst 1, 1) := by decide +kernel
theorem dX5_rentOf_6 : decode cX5_rentOf 6 = .ok (.if_icmp .lt 9, 3) := by decide +kernel
theorem dX5_rentOf_9 : decode cX5_rentOf 9 = .ok (.iload_n 2, 1) := by decide +kernel
theorem dX5_rentOf_10 : decode cX5_rentOf 10 = .ok (.iconst 1, 1) := by decide +kernel
theorem dX5_rentOf_11 : decode cX5_rentOf 11 = .ok (.iadd, 1) := by decide +kernel
theorem dX5_rentOf_12 : decode cX5_rentOf 12 = .ok (.goto 4, 3) := by decide +kernel
theorem dX5_rentOf_15 : decode cX5_rentOf 15 = .ok (.iload_n 2, 1) := by decide +kernel
theorem dX5_rentOf_16 : decode cX5_rentOf 16 = .ok (.istore_n 3, 1) := by decide +kernel
theorem dX5_rentOf_17 : decode cX5_rentOf 17 = .ok (.iload_n 0, 1) := by decide +kernel
theorem dX5_rentOf_18 : decode cX5_rentOf 18 = .ok (.tableswitch 52 0 5 #[38, 40, 42, 44, 46, 50], 38) := by decide +kernel
theorem dX5_rentOf_56 : decode cX5_rentOf 56 = .ok (.iload_n 2, 1) := by decide +kernel
theorem dX5_rentOf_57 : decode cX5_rentOf 57 = .ok (.ireturn, 1) := by decide +kernel
theorem dX5_rentOf_58 : decode cX5_rentOf 58 = .ok (.iload_n 2, 1) := by decide +kernel
theorem dX5_rentOf_59 : decode cX5_rentOf 59 = .ok (.ireturn, 1) := by decide +kernel
theorem dX5_rentOf_60 : decode cX5_rentOf 60 = .ok (.iload_n 3, 1) := by decide +kernel
theorem dX5_rentOf_61 : decode cX5_rentOf 61 = .ok (.ireturn, 1) := by decide +kernel
theorem dX5_rentOf_62 : decode cX5_rentOf 62 = .ok (.iconst 0, 1) := by decide +kernel
theorem dX5_rentOf_63 : decode cX5_rentOf 63 = .ok (.ireturn, 1) := by decide +kernel
theorem dX5_rentOf_64 : decode cX5_rentOf 64 = .ok (.iconst 2, 1) := by decide +kernel
theorem dX5_rentOf_65 : decode cX5_rentOf 65 = .ok (.iload_n 2, 1) := by decide +kernel
theorem dX5_rentOf_66 : decode cX5_rentOf 66 = .ok (.imul, 1) := by decide +kernel
theorem dX5_rentOf_67 : decode cX5_rentOf 67 = .ok (.ireturn, 1) := by decide +kernel
theorem dX5_rentOf_68 : decode cX5_rentOf 68 = .ok (.iload_n 3, 1) := by decide +kernel
theorem dX5_rentOf_69 : decode cX5_rentOf 69 = .ok (.ireturn, 1) := by decide +kernel
theorem dX5_rentOf_70 : decode cX5_rentOf 70 = .ok (.iconst 0, 1) := by decide +kernel
theorem dX5_rentOf_71 : decode cX5_rentOf 71 = .ok (.ireturn, 1) := by decide +kernel
theorem dX5_awardOf_0 : decode cX5_awardOf 0 = .ok (.iconst 2, 1) := by decide +kernel
theorem dX5_awardOf_1 : decode cX5_awardOf 1 = .ok (.iload_n 1, 1) := by decide +kernel
theorem dX5_awardOf_2 : decode cX5_awardOf 2 = .ok (.imul, 1) := by decide +kernel
theorem dX5_awardOf_3 : decode cX5_awardOf 3 = .ok (.istore_n 3, 1) := by decide +kernel
theorem dX5_awardOf_4 : decode cX5_awardOf 4 = .ok (.iload_n 1, 1) := by decide +kernel
theorem dX5_awardOf_5 : decode cX5_awardOf 5 = .ok (.iload_n 2, 1) := by decide +kernel
theorem dX5_awardOf_6 : decode cX5_awardOf 6 = .ok (.iadd, 1) := by decide +kernel
theorem dX5_awardOf_7 : decode cX5_awardOf 7 = .ok (.istore 4, 2) := by decide +kernel
theorem dX5_awardOf_9 : decode cX5_awardOf 9 = .ok (.iload_n 0, 1) := by decide +kernel
theorem dX5_awardOf_10 : decode cX5_awardOf 10 = .ok (.tableswitch 73 0 5 #[38, 40, 42, 45, 51, 66], 38) := by decide +kernel
theorem dX5_awardOf_48 : decode cX5_awardOf 48 = .ok (.iload_n 1, 1) := by decide +kernel
theorem dX5_awardOf_49 : decode cX5_awardOf 49 = .ok (.ireturn, 1) := by decide +kernel
theorem dX5_awardOf_50 : decode cX5_awardOf 50 = .ok (.iload_n 3, 1) := by decide +kernel
theorem dX5_awardOf_51 : decode cX5_awardOf 51 = .ok (.ireturn, 1) := by decide +kernel
theorem dX5_awardOf_52 : decode cX5_awardOf 52 = .ok (.iload 4, 2) := by decide +kernel
theorem dX5_awardOf_54 : decode cX5_awardOf 54 = .ok (.ireturn, 1) := by decide +kernel
theorem dX5_awardOf_55 : decode cX5_awardOf 55 = .ok (.iload_n 1, 1) := by decide +kernel
theorem dX5_awardOf_56 : decode cX5_awardOf 56 = .ok (.iconst 1, 1) := by decide +kernel
theorem dX5_awardOf_57 : decode cX5_awardOf 57 = .ok (.iadd, 1) := by decide +kernel
theorem dX5_awardOf_58 : decode cX5_awardOf 58 = .ok (.iconst 2, 1) := by decide +kernel
theorem dX5_awardOf_59 : decode cX5_awardOf 59 = .ok (.idiv, 1) := by decide +kernel
theorem dX5_awardOf_60 : decode cX5_awardOf 60 = .ok (.ireturn, 1) := by decide +kernel
theorem dX5_awardOf_61 : decode cX5_awardOf 61 = .ok (.iload_n 2, 1) := by decide +kernel
theorem dX5_awardOf_62 : decode cX5_awardOf 62 = .ok (.bipush 8, 2) := by decide +kernel
theorem dX5_awardOf_64 : decode cX5_awardOf 64 = .ok (.if_icmp .ge 7, 3) := by decide +kernel
theorem dX5_awardOf_67 : decode cX5_awardOf 67 = .ok (.iconst 0, 1) := by decide +kernel
theorem dX5_awardOf_68 : decode cX5_awardOf 68 = .ok (.goto 7, 3) := by decide +kernel
theorem dX5_awardOf_71 : decode cX5_awardOf 71 = .ok (.iconst 2, 1) := by decide +kernel
theorem dX5_awardOf_72 : decode cX5_awardOf 72 = .ok (.iload 4, 2) := by decide +kernel
theorem dX5_awardOf_74 : decode cX5_awardOf 74 = .ok (.imul, 1) := by decide +kernel
theorem dX5_awardOf_75 : decode cX5_awardOf 75 = .ok (.ireturn, 1) := by decide +kernel
theorem dX5_awardOf_76 : decode cX5_awardOf 76 = .ok (.iload_n 3, 1) := by decide +kernel
theorem dX5_awardOf_77 : decode cX5_awardOf 77 = .ok (.bipush 40, 2) := by decide +kernel
theorem dX5_awardOf_79 : decode cX5_awardOf 79 = .ok (.invokestatic 7, 3) := by decide +kernel
theorem dX5_awardOf_82 : decode cX5_awardOf 82 = .ok (.ireturn, 1) := by decide +kernel
theorem dX5_awardOf_83 : decode cX5_awardOf 83 = .ok (.iconst 0, 1) := by decide +kernel
theorem dX5_awardOf_84 : decode cX5_awardOf 84 = .ok (.ireturn, 1) := by decide +kernel
theorem dX6_restingPairs_0 : decode cX6_restingPairs 0 = .ok (.iconst 0, 1) := by decide +kernel
theorem dX6_restingPairs_1 : decode cX6_restingPairs 1 = .ok (.istore_n 2, 1) := by decide +kernel
theorem dX6_restingPairs_2 : decode cX6_restingPairs 2 = .ok (.iconst 0, 1) := by decide +kernel
theorem dX6_restingPairs_3 : decode cX6_restingPairs 3 = .ok (.istore_n 3, 1) := by decide +kernel
theorem dX6_restingPairs_4 : decode cX6_restingPairs 4 = .ok (.iload_n 3, 1) := by decide +kernel
theorem dX6_restingPairs_5 : decode cX6_restingPairs 5 = .ok (.iconst 4, 1) := by decide +kernel
theorem dX6_restingPairs_6 : decode cX6_restingPairs 6 = .ok (.if_icmp .ge 92, 3) := by decide +kernel
theorem dX6_restingPairs_9 : decode cX6_restingPairs 9 = .ok (.iload_n 3, 1) := by decide +kernel
theorem dX6_restingPairs_10 : decode cX6_restingPairs 10 = .ok (.iconst 1, 1) := by decide +kernel
theorem dX6_restingPairs_11 : decode cX6_restingPairs 11 = .ok (.iand, 1) := by decide +kernel
theorem dX6_restingPairs_12 : decode cX6_restingPairs 12 = .ok (.istore 4, 2) := by decide +kernel
theorem dX6_restingPairs_14 : decode cX6_restingPairs 14 = .ok (.iload_n 3, 1) := by decide +kernel
theorem dX6_restingPairs_15 : decode cX6_restingPairs 15 = .ok (.iconst 1, 1) := by decide +kernel
theorem dX6_restingPairs_16 : decode cX6_restingPairs 16 = .ok (.ishr, 1) := by decide +kernel
theorem dX6_restingPairs_17 : decode cX6_restingPairs 17 = .ok (.istore 5, 2) := by decide +kernel
theorem dX6_restingPairs_19 : decode cX6_restingPairs 19 = .ok (.iload 4, 2) := by decide +kernel
theorem dX6_restingPairs_21 : decode cX6_restingPairs 21 = .ok (.iload 5, 2) := by decide +kernel
theorem dX6_restingPairs_23 : decode cX6_restingPairs 23 = .ok (.iload_n 0, 1) := by decide +kernel
theorem dX6_restingPairs_24 : decode cX6_restingPairs 24 = .ok (.iload_n 1, 1) := by decide +kernel
theorem dX6_restingPairs_25 : decode cX6_restingPairs 25 = .ok (.invokestatic 7, 3) := by decide +kernel
theorem dX6_restingPairs_28 : decode cX6_restingPairs 28 = .ok (.istore 6, 2) := by decide +kernel
theorem dX6_restingPairs_30 : decode cX6_restingPairs 30 = .ok (.iload 6, 2) := by decide +kernel
theorem dX6_restingPairs_32 : decode cX6_restingPairs 32 = .ok (.iconst 1, 1) := by decide +kernel
theorem dX6_restingPairs_33 : decode cX6_restingPairs 33 = .ok (.iload 4, 2) := by decide +kernel
theorem dX6_restingPairs_35 : decode cX6_restingPairs 35 = .ok (.isub, 1) := by decide +kernel
theorem dX6_restingPairs_36 : decode cX6_restingPairs 36 = .ok (.iload 5, 2) := by decide +kernel
theorem dX6_restingPairs_38 : decode cX6_restingPairs 38 = .ok (.iload_n 0, 1) := by decide +kernel
theorem dX6_restingPairs_39 : decode cX6_restingPairs 39 = .ok (.iload_n 1, 1) := by decide +kernel
theorem dX6_restingPairs_40 : decode cX6_restingPairs 40 = .ok (.invokestatic 7, 3) := by decide +kernel
theorem dX6_restingPairs_43 : decode cX6_restingPairs 43 = .ok (.if_icmp .lt 7, 3) := by decide +kernel
theorem dX6_restingPairs_46 : decode cX6_restingPairs 46 = .ok (.iconst 1, 1) := by decide +kernel
theorem dX6_restingPairs_47 : decode cX6_restingPairs 47 = .ok (.goto 4, 3) := by decide +kernel
theorem dX6_restingPairs_50 : decode cX6_restingPairs 50 = .ok (.iconst 0, 1) := by decide +kernel
theorem dX6_restingPairs_51 : decode cX6_restingPairs 51 = .ok (.istore 7, 2) := by decide +kernel
theorem dX6_restingPairs_53 : decode cX6_restingPairs 53 = .ok (.iload 6, 2) := by decide +kernel
theorem dX6_restingPairs_55 : decode cX6_restingPairs 55 = .ok (.iload 4, 2) := by decide +kernel
theorem dX6_restingPairs_57 : decode cX6_restingPairs 57 = .ok (.iconst 1, 1) := by decide +kernel
theorem dX6_restingPairs_58 : decode cX6_restingPairs 58 = .ok (.iload 5, 2) := by decide +kernel
theorem dX6_restingPairs_60 : decode cX6_restingPairs 60 = .ok (.isub, 1) := by decide +kernel
theorem dX6_restingPairs_61 : decode cX6_restingPairs 61 = .ok (.iload_n 0, 1) := by decide +kernel
theorem dX6_restingPairs_62 : decode cX6_restingPairs 62 = .ok (.iload_n 1, 1) := by decide +kernel
theorem dX6_restingPairs_63 : decode cX6_restingPairs 63 = .ok (.invokestatic 7, 3) := by decide +kernel
theorem dX6_restingPairs_66 : decode cX6_restingPairs 66 = .ok (.if_icmp .gt 7, 3) := by decide +kernel
theorem dX6_restingPairs_69 : decode cX6_restingPairs 69 = .ok (.iconst 1, 1) := by decide +kernel
theorem dX6_restingPairs_70 : decode cX6_restingPairs 70 = .ok (.goto 4, 3) := by decide +kernel
theorem dX6_restingPairs_73 : decode cX6_restingPairs 73 = .ok (.iconst 0, 1) := by decide +kernel
theorem dX6_restingPairs_74 : decode cX6_restingPairs 74 = .ok (.istore 8, 2) := by decide +kernel
theorem dX6_restingPairs_76 : decode cX6_restingPairs 76 = .ok (.iload 7, 2) := by decide +kernel
theorem dX6_restingPairs_78 : decode cX6_restingPairs 78 = .ok (.ifCond .eq 14, 3) := by decide +kernel
theorem dX6_restingPairs_81 : decode cX6_restingPairs 81 = .ok (.iload 8, 2) := by decide +kernel
theorem dX6_restingPairs_83 : decode cX6_restingPairs 83 = .ok (.ifCond .eq 9, 3) := by decide +kernel
theorem dX6_restingPairs_86 : decode cX6_restingPairs 86 = .ok (.iload_n 2, 1) := by decide +kernel
theorem dX6_restingPairs_87 : decode cX6_restingPairs 87 = .ok (.iconst 1, 1) := by decide +kernel
theorem dX6_restingPairs_88 : decode cX6_restingPairs 88 = .ok (.iload_n 3, 1) := by decide +kernel
theorem dX6_restingPairs_89 : decode cX6_restingPairs 89 = .ok (.ishl, 1) := by decide +kernel
theorem dX6_restingPairs_90 : decode cX6_restingPairs 90 = .ok (.ior, 1) := by decide +kernel
theorem dX6_restingPairs_91 : decode cX6_restingPairs 91 = .ok (.istore_n 2, 1) := by decide +kernel
theorem dX6_restingPairs_92 : decode cX6_restingPairs 92 = .ok (.iinc 3 1, 3) := by decide +kernel
theorem dX6_restingPairs_95 : decode cX6_restingPairs 95 = .ok (.goto (-91), 3) := by decide +kernel
theorem dX6_restingPairs_98 : decode cX6_restingPairs 98 = .ok (.iload_n 2, 1) := by decide +kernel
theorem dX6_restingPairs_99 : decode cX6_restingPairs 99 = .ok (.ireturn, 1) := by decide +kernel
theorem dX6_toWind_0 : decode cX6_toWind 0 = .ok (.iload_n 0, 1) := by decide +kernel
theorem dX6_toWind_1 : decode cX6_toWind 1 = .ok (.iconst 1, 1) := by decide +kernel
theorem dX6_toWind_2 : decode cX6_toWind 2 = .ok (.if_icmp .ne 7, 3) := by decide +kernel
theorem dX6_toWind_5 : decode cX6_toWind 5 = .ok (.iload_n 3, 1) := by decide +kernel
theorem dX6_toWind_6 : decode cX6_toWind 6 = .ok (.goto 4, 3) := by decide +kernel
theorem dX6_toWind_9 : decode cX6_toWind 9 = .ok (.iconst 0, 1) := by decide +kernel
theorem dX6_toWind_10 : decode cX6_toWind 10 = .ok (.istore 4, 2) := by decide +kernel
theorem dX6_toWind_12 : decode cX6_toWind 12 = .ok (.iload_n 1, 1) := by decide +kernel
theorem dX6_toWind_13 : decode cX6_toWind 13 = .ok (.iconst 1, 1) := by decide +kernel
theorem dX6_toWind_14 : decode cX6_toWind 14 = .ok (.if_icmp .ne 7, 3) := by decide +kernel
theorem dX6_toWind_17 : decode cX6_toWind 17 = .ok (.iload_n 2, 1) := by decide +kernel
theorem dX6_toWind_18 : decode cX6_toWind 18 = .ok (.goto 5, 3) := by decide +kernel
theorem dX6_toWind_21 : decode cX6_toWind 21 = .ok (.iload 4, 2) := by decide +kernel
theorem dX6_toWind_23 : decode cX6_toWind 23 = .ok (.iconst 5, 1) := by decide +kernel
theorem dX6_toWind_24 : decode cX6_toWind 24 = .ok (.iload_n 0, 1) := by decide +kernel
theorem dX6_toWind_25 : decode cX6_toWind 25 = .ok (.imul, 1) := by decide +kernel
theorem dX6_toWind_26 : decode cX6_toWind 26 = .ok (.isub, 1) := by decide +kernel
theorem dX6_toWind_27 : decode cX6_toWind 27 = .ok (.ireturn, 1) := by decide +kernel
theorem dX7_init_0 : decode cX7_init 0 = .ok (.aload_n 0, 1) := by decide +kernel
theorem dX7_init_1 : decode cX7_init 1 = .ok (.invokespecial 3, 3) := by decide +kernel
theorem dX7_init_4 : decode cX7_init 4 = .ok (.aload_n 0, 1) := by decide +kernel
theorem dX7_init_5 : decode cX7_init 5 = .ok (.new 9, 3) := by decide +kernel
theorem dX7_init_8 : decode cX7_init 8 = .ok (.dup, 1) := by decide +kernel
theorem dX7_init_9 : decode cX7_init 9 = .ok (.invokespecial 11, 3) := by decide +kernel
theorem dX7_init_12 : decode cX7_init 12 = .ok (.putfield 12, 3) := by decide +kernel
theorem dX7_init_15 : decode cX7_init 15 = .ok (.aload_n 0, 1) := by decide +kernel
theorem dX7_init_16 : decode cX7_init 16 = .ok (.aload_n 1, 1) := by decide +kernel
theorem dX7_init_17 : decode cX7_init 17 = .ok (.putfield 18, 3) := by decide +kernel
theorem dX7_init_20 : decode cX7_init 20 = .ok (.aload_n 0, 1) := by decide +kernel
theorem dX7_init_21 : decode cX7_init 21 = .ok (.aload_n 2, 1) := by decide +kernel
theorem dX7_init_22 : decode cX7_init 22 = .ok (.putfield 22, 3) := by decide +kernel
theorem dX7_init_25 : decode cX7_init 25 = .ok (.return_, 1) := by decide +kernel
theorem dX7_parse_0 : decode cX7_parse 0 = .ok (.aload_n 0, 1) := by decide +kernel
theorem dX7_parse_1 : decode cX7_parse 1 = .ok (.getfield 12, 3) := by decide +kernel
theorem dX7_parse_4 : decode cX7_parse 4 = .ok (.invokevirtual 26, 3) := by decide +kernel
theorem dX7_parse_7 : decode cX7_parse 7 = .ok (.aload_n 0, 1) := by decide +kernel
theorem dX7_parse_8 : decode cX7_parse 8 = .ok (.iconst 0, 1) := by decide +kernel
theorem dX7_parse_9 : decode cX7_parse 9 = .ok (.putfield 29, 3) := by decide +kernel
theorem dX7_parse_12 : decode cX7_parse 12 = .ok (.aload_n 0, 1) := by decide +kernel
theorem dX7_parse_13 : decode cX7_parse 13 = .ok (.invokevirtual 33, 3) := by decide +kernel
theorem dX7_parse_16 : decode cX7_parse 16 = .ok (.aload_n 0, 1) := by decide +kernel
theorem dX7_parse_17 : decode cX7_parse 17 = .ok (.ldc 36, 2) := by decide +kernel
theorem dX7_parse_19 : decode cX7_parse 19 = .ok (.invokevirtual 37, 3) := by decide +kernel
theorem dX7_parse_22 : decode cX7_parse 22 = .ok (.ifCond .eq 10, 3) := by decide +kernel
theorem dX7_parse_25 : decode cX7_parse 25 = .ok (.aload_n 0, 1) := by decide +kernel
theorem dX7_parse_26 : decode cX7_parse 26 = .ok (.invokevirtual 41, 3) := by decide +kernel
theorem dX7_parse_29 : decode cX7_parse 29 = .ok (.ifCond .ne 11, 3) := by decide +kernel
theorem dX7_parse_32 : decode cX7_parse 32 = .ok (.bipush (-10), 2) := by decide +kernel
theorem dX7_parse_34 : decode cX7_parse 34 = .ok (.aload_n 0, 1) := by decide +kernel
theorem dX7_parse_35 : decode cX7_parse 35 = .ok (.getfield 45, 3) := by decide +kernel
theorem dX7_parse_38 : decode cX7_parse 38 = .ok (.isub, 1) := by decide +kernel
theorem dX7_parse_39 : decode cX7_parse 39 = .ok (.ireturn, 1) := by decide +kernel
theorem dX7_parse_40 : decode cX7_parse 40 = .ok (.iconst 1, 1) := by decide +kernel
theorem dX7_parse_41 : decode cX7_parse 41 = .ok (.istore_n 1, 1) := by decide +kernel
theorem dX7_parse_42 : decode cX7_parse 42 = .ok (.iconst 0, 1) := by decide +kernel
theorem dX7_parse_43 : decode cX7_parse 43 = .ok (.istore_n 2, 1) := by decide +kernel
theorem dX7_parse_44 : decode cX7_parse 44 = .ok (.iload_n 2, 1) := by decide +kernel
theorem dX7_parse_45 : decode cX7_parse 45 = .ok (.sipush 150, 3) := by decide +kernel
theorem dX7_parse_48 : decode cX7_parse 48 = .ok (.if_icmp .ge 104, 3) := by decide +kernel
theorem dX7_parse_51 : decode cX7_parse 51 = .ok (.aload_n 0, 1) := by decide +kernel
theorem dX7_parse_52 : decode cX7_parse 52 = .ok (.invokevirtual 33, 3) := by decide +kernel
theorem dX7_parse_55 : decode cX7_parse 55 = .ok (.aload_n 0, 1) := by decide +kernel
theorem dX7_parse_56 : decode cX7_parse 56 = .ok (.getfield 48, 3) := by decide +kernel
theorem dX7_parse_59 : decode cX7_parse 59 = .ok (.ifCond .ne 5, 3) := by decide +kernel
theorem dX7_parse_62 : decode cX7_parse 62 = .ok (.iload_n 1, 1) := by decide +kernel
theorem dX7_parse_63 : decode cX7_parse 63 = .ok (.ireturn, 1) := by decide +kernel
theorem dX7_parse_64 : decode cX7_parse 64 = .ok (.iconst 0, 1) := by decide +kernel
theorem dX7_parse_65 : decode cX7_parse 65 = .ok (.istore_n 3, 1) := by decide +kernel
theorem dX7_parse_66 : decode cX7_parse 66 = .ok (.aload_n 0, 1) := by decide +kernel
theorem dX7_parse_67 : decode cX7_parse 67 = .ok (.ldc 51, 2) := by decide +kernel
theorem dX7_parse_69 : decode cX7_parse 69 = .ok (.invokevirtual 37, 3) := by decide +kernel
theorem dX7_parse_72 : decode cX7_parse 72 = .ok (.ifCond .eq 11, 3) := by decide +kernel
theorem dX7_parse_75 : decode cX7_parse 75 = .ok (.aload_n 0, 1) := by decide +kernel
theorem dX7_parse_76 : decode cX7_parse 76 = .ok (.invokevirtual 53, 3) := by decide +kernel
theorem dX7_parse_79 : decode cX7_parse 79 = .ok (.istore_n 3, 1) := by decide +kernel
theorem dX7_parse_80 : decode cX7_parse 80 = .ok (.goto 51, 3) := by decide +kernel
theorem dX7_parse_83 : decode cX7_parse 83 = .ok (.aload_n 0, 1) := by decide +kernel
theorem dX7_parse_84 : decode cX7_parse 84 = .ok (.ldc 56, 2) := by decide +kernel
theorem dX7_parse_86 : decode cX7_parse 86 = .ok (.invokevirtual 37, 3) := by decide +kernel
theorem dX7_parse_89 : decode cX7_parse 89 = .ok (.ifCond .eq 11, 3) := by decide +kernel
theorem dX7_parse_92 : decode cX7_parse 92 = .ok (.aload_n 0, 1) := by decide +kernel
theorem dX7_parse_93 : decode cX7_parse 93 = .ok (.invokevirtual 58, 3) := by decide +kernel
theorem dX7_parse_96 : decode cX7_parse 96 = .ok (.istore_n 3, 1) := by decide +kernel
theorem dX7_parse_97 : decode cX7_parse 97 = .ok (.goto 34, 3) := by decide +kernel
theorem dX7_parse_100 : decode cX7_parse 100 = .ok (.aload_n 0, 1) := by decide +kernel
theorem dX7_parse_101 : decode cX7_parse 101 = .ok (.ldc 61, 2) := by decide +kernel
theorem dX7_parse_103 : decode cX7_parse 103 = .ok (.invokevirtual 37, 3) := by decide +kernel
theorem dX7_parse_106 : decode cX7_parse 106 = .ok (.ifCond .eq 11, 3) := by decide +kernel
theorem dX7_parse_109 : decode cX7_parse 109 = .ok (.aload_n 0, 1) := by decide +kernel
theorem dX7_parse_110 : decode cX7_parse 110 = .ok (.invokevirtual 63, 3) := by decide +kernel
theorem dX7_parse_113 : decode cX7_parse 113 = .ok (.istore_n 3, 1) := by decide +kernel
theorem dX7_parse_114 : decode cX7_parse 114 = .ok (.goto 17, 3) := by decide +kernel
theorem dX7_parse_117 : decode cX7_parse 117 = .ok (.aload_n 0, 1) := by decide +kernel
theorem dX7_parse_118 : decode cX7_parse 118 = .ok (.ldc 66, 2) := by decide +kernel
theorem dX7_parse_120 : decode cX7_parse 120 = .ok (.invokevirtual 37, 3) := by decide +kernel
theorem dX7_parse_123 : decode cX7_parse 123 = .ok (.ifCond .eq 8, 3) := by decide +kernel
theorem dX7_parse_126 : decode cX7_parse 126 = .ok (.aload_n 0, 1) := by decide +kernel
theorem dX7_parse_127 : decode cX7_parse 127 = .ok (.invokevirtual 68, 3) := by decide +kernel
theorem dX7_parse_130 : decode cX7_parse 130 = .ok (.istore_n 3, 1) := by decide +kernel
theorem dX7_parse_131 : decode cX7_parse 131 = .ok (.iload_n 3, 1) := by decide +kernel
theorem dX7_parse_132 : decode cX7_parse 132 = .ok (.ifCond .ne 11, 3) := by decide +kernel
theorem dX7_parse_135 : decode cX7_parse 135 = .ok (.bipush (-10), 2) := by decide +kernel
theorem dX7_parse_137 : decode cX7_parse 137 = .ok (.aload_n 0, 1) := by decide +kernel
theorem dX7_parse_138 : decode cX7_parse 138 = .ok (.getfield 45, 3) := by decide +kernel
theorem dX7_parse_141 : decode cX7_parse 141 = .ok (.isub, 1) := by decide +kernel
theorem dX7_parse_142 : decode cX7_parse 142 = .ok (.ireturn, 1) := by decide +kernel
theorem dX7_parse_143 : decode cX7_parse 143 = .ok (.iinc 1 1, 3) := by decide +kernel
theorem dX7_parse_146 : decode cX7_parse 146 = .ok (.iinc 2 1, 3) := by decide +kernel
theorem dX7_parse_149 : decode cX7_parse 149 = .ok (.goto (-105), 3) := by decide +kernel
theorem dX7_parse_152 : decode cX7_parse 152 = .ok (.iload_n 1, 1) := by decide +kernel
theorem dX7_parse_153 : decode cX7_parse 153 = .ok (.ireturn, 1) := by decide +kernel
theorem dX7_readWinds_0 : decode cX7_readWinds 0 = .ok (.iconst 0, 1) := by decide +kernel
theorem dX7_readWinds_1 : decode cX7_readWinds 1 = .ok (.istore_n 1, 1) := by decide +kernel
theorem dX7_readWinds_2 : decode cX7_readWinds 2 = .ok (.iload_n 1, 1) := by decide +kernel
theorem dX7_readWinds_3 : decode cX7_readWinds 3 = .ok (.bipush 8, 2) := by decide +kernel
theorem dX7_readWinds_5 : decode cX7_readWinds 5 = .ok (.if_icmp .gt 74, 3) := by decide +kernel
theorem dX7_readWinds_8 : decode cX7_readWinds 8 = .ok (.aload_n 0, 1) := by decide +kernel
theorem dX7_readWinds_9 : decode cX7_readWinds 9 = .ok (.invokevirtual 33, 3) := by decide +kernel
theorem dX7_readWinds_12 : decode cX7_readWinds 12 = .ok (.iload_n 1, 1) := by decide +kernel
theorem dX7_readWinds_13 : decode cX7_readWinds 13 = .ok (.ifCond .le 13, 3) := by decide +kernel
theorem dX7_readWinds_16 : decode cX7_readWinds 16 = .ok (.aload_n 0, 1) := by decide +kernel
theorem dX7_readWinds_17 : decode cX7_readWinds 17 = .ok (.getfield 48, 3) := by decide +kernel
theorem dX7_readWinds_20 : decode cX7_readWinds 20 = .ok (.iconst 3, 1) := by decide +kernel
theorem dX7_readWinds_21 : decode cX7_readWinds 21 = .ok (.if_icmp .ne 5, 3) := by decide +kernel
theorem dX7_readWinds_24 : decode cX7_readWinds 24 = .ok (.iconst 1, 1) := by decide +kernel
theorem dX7_readWinds_25 : decode cX7_readWinds 25 = .ok (.ireturn, 1) := by decide +kernel
theorem dX7_readWinds_26 : decode cX7_readWinds 26 = .ok (.iload_n 1, 1) := by decide +kernel
theorem dX7_readWinds_27 : decode cX7_readWinds 27 = .ok (.bipush 8, 2) := by decide +kernel
theorem dX7_readWinds_29 : decode cX7_readWinds 29 = .ok (.if_icmp .eq 13, 3) := by decide +kernel
theorem dX7_readWinds_32 : decode cX7_readWinds 32 = .ok (.aload_n 0, 1) := by decide +kernel
theorem dX7_readWinds_33 : decode cX7_readWinds 33 = .ok (.iconst 0, 1) := by decide +kernel
theorem dX7_readWinds_34 : decode cX7_readWinds 34 = .ok (.bipush 20, 2) := by decide +kernel
theorem dX7_readWinds_36 : decode cX7_readWinds 36 = .ok (.invokevirtual 71, 3) := by decide +kernel
theorem dX7_readWinds_39 : decode cX7_readWinds 39 = .ok (.ifCond .ne 5, 3) := by decide +kernel
theorem dX7_readWinds_42 : decode cX7_readWinds 42 = .ok (.iconst 0, 1) := by decide +kernel
theorem dX7_readWinds_43 : decode cX7_readWinds 43 = .ok (.ireturn, 1) := by decide +kernel
theorem dX7_readWinds_44 : decode cX7_readWinds 44 = .ok (.aload_n 0, 1) := by decide +kernel
theorem dX7_readWinds_45 : decode cX7_readWinds 45 = .ok (.getfield 75, 3) := by decide +kernel
theorem dX7_readWinds_48 : decode cX7_readWinds 48 = .ok (.istore_n 2, 1) := by decide +kernel
theorem dX7_readWinds_49 : decode cX7_readWinds 49 = .ok (.aload_n 0, 1) := by decide +kernel
theorem dX7_readWinds_50 : decode cX7_readWinds 50 = .ok (.iconst 0, 1) := by decide +kernel
theorem dX7_readWinds_51 : decode cX7_readWinds 51 = .ok (.iconst 1, 1) := by decide +kernel
theorem dX7_readWinds_52 : decode cX7_readWinds 52 = .ok (.invokevirtual 78, 3) := by decide +kernel
theorem dX7_readWinds_55 : decode cX7_readWinds 55 = .ok (.ifCond .ne 5, 3) := by decide +kernel
theorem dX7_readWinds_58 : decode cX7_readWinds 58 = .ok (.iconst 0, 1) := by decide +kernel
theorem dX7_readWinds_59 : decode cX7_readWinds 59 = .ok (.ireturn, 1) := by decide +kernel
theorem dX7_readWinds_60 : decode cX7_readWinds 60 = .ok (.aload_n 0, 1) := by decide +kernel
theorem dX7_readWinds_61 : decode cX7_readWinds 61 = .ok (.getfield 12, 3) := by decide +kernel
theorem dX7_readWinds_64 : decode cX7_readWinds 64 = .ok (.iload_n 1, 1) := by decide +kernel
theorem dX7_readWinds_65 : decode cX7_readWinds 65 = .ok (.iload_n 2, 1) := by decide +kernel
theorem dX7_readWinds_66 : decode cX7_readWinds 66 = .ok (.aload_n 0, 1) := by decide +kernel
theorem dX7_readWinds_67 : decode cX7_readWinds 67 = .ok (.getfield 75, 3) := by decide +kernel
theorem dX7_readWinds_70 : decode cX7_readWinds 70 = .ok (.invokevirtual 81, 3) := by decide +kernel
theorem dX7_readWinds_73 : decode cX7_readWinds 73 = .ok (.iinc 1 1, 3) := by decide +kernel
theorem dX7_readWinds_76 : decode cX7_readWinds 76 = .ok (.goto (-74), 3) := by decide +kernel
theorem dX7_readWinds_79 : decode cX7_readWinds 79 = .ok (.iconst 0, 1) := by decide +kernel
theorem dX7_readWinds_80 : decode cX7_readWinds 80 = .ok (.ireturn, 1) := by decide +kernel
theorem dX7_readUser_0 : decode cX7_readUser 0 = .ok (.aload_n 0, 1) := by decide +kernel
theorem dX7_readUser_1 : decode cX7_readUser 1 = .ok (.getfield 12, 3) := by decide +kernel
theorem dX7_readUser_4 : decode cX7_readUser 4 = .ok (.getfield 85, 3) := by decide +kernel
theorem dX7_readUser_7 : decode cX7_readUser 7 = .ok (.invokevirtual 89, 3) := by decide +kernel
theorem dX7_readUser_10 : decode cX7_readUser 10 = .ok (.ifCond .ne 12, 3) := by decide +kernel
theorem dX7_readUser_13 : decode cX7_readUser 13 = .ok (.aload_n 0, 1) := by decide +kernel
theorem dX7_readUser_14 : decode cX7_readUser 14 = .ok (.iconst 0, 1) := by decide +kernel
theorem dX7_readUser_15 : decode cX7_readUser 15 = .ok (.iconst 5, 1) := by decide +kernel
theorem dX7_readUser_16 : decode cX7_readUser 16 = .ok (.invokevirtual 78, 3) := by decide +kernel
theorem dX7_readUser_19 : decode cX7_readUser 19 = .ok (.ifCond .ne 5, 3) := by decide +kernel
theorem dX7_readUser_22 : decode cX7_readUser 22 = .ok (.iconst 0, 1) := by decide +kernel
theorem dX7_readUser_23 : decode cX7_readUser 23 = .ok (.ireturn, 1) := by decide +kernel
theorem dX7_readUser_24 : decode cX7_readUser 24 = .ok (.aload_n 0, 1) := by decide +kernel
theorem dX7_readUser_25 : decode cX7_readUser 25 = .ok (.getfield 75, 3) := by decide +kernel
theorem dX7_readUser_28 : decode cX7_readUser 28 = .ok (.istore_n 1, 1) := by decide +kernel
theorem dX7_readUser_29 : decode cX7_readUser 29 = .ok (.aload_n 0, 1) := by decide +kernel
theorem dX7_readUser_30 : decode cX7_readUser 30 = .ok (.iconst 0, 1) := by decide +kernel
theorem dX7_readUser_31 : decode cX7_readUser 31 = .ok (.bipush 11, 2) := by decide +kernel
theorem dX7_readUser_33 : decode cX7_readUser 33 = .ok (.invokevirtual 78, 3) := by decide +kernel
theorem dX7_readUser_36 : decode cX7_readUser 36 = .ok (.ifCond .ne 5, 3) := by decide +kernel
theorem dX7_readUser_39 : decode cX7_readUser 39 = .ok (.iconst 0, 1) := by decide +kernel
theorem dX7_readUser_40 : decode cX7_readUser 40 = .ok (.ireturn, 1) := by decide +kernel
theorem dX7_readUser_41 : decode cX7_readUser 41 = .ok (.aload_n 0, 1) := by decide +kernel
theorem dX7_readUser_42 : decode cX7_readUser 42 = .ok (.getfield 75, 3) := by decide +kernel
theorem dX7_readUser_45 : decode cX7_readUser 45 = .ok (.istore_n 2, 1) := by decide +kernel
theorem dX7_readUser_46 : decode cX7_readUser 46 = .ok (.aload_n 0, 1) := by decide +kernel
theorem dX7_readUser_47 : decode cX7_readUser 47 = .ok (.iconst 1, 1) := by decide +kernel
theorem dX7_readUser_48 : decode cX7_readUser 48 = .ok (.iconst 4, 1) := by decide +kernel
theorem dX7_readUser_49 : decode cX7_readUser 49 = .ok (.invokevirtual 78, 3) := by decide +kernel
theorem dX7_readUser_52 : decode cX7_readUser 52 = .ok (.ifCond .ne 5, 3) := by decide +kernel
theorem dX7_readUser_55 : decode cX7_readUser 55 = .ok (.iconst 0, 1) := by decide +kernel
theorem dX7_readUser_56 : decode cX7_readUser 56 = .ok (.ireturn, 1) := by decide +kernel
theorem dX7_readUser_57 : decode cX7_readUser 57 = .ok (.aload_n 0, 1) := by decide +kernel
theorem dX7_readUser_58 : decode cX7_readUser 58 = .ok (.getfield 12, 3) := by decide +kernel
theorem dX7_readUser_61 : decode cX7_readUser 61 = .ok (.iload_n 1, 1) := by decide +kernel
theorem dX7_readUser_62 : decode cX7_readUser 62 = .ok (.iload_n 2, 1) := by decide +kernel
theorem dX7_readUser_63 : decode cX7_readUser 63 = .ok (.aload_n 0, 1) := by decide +kernel
theorem dX7_readUser_64 : decode cX7_readUser 64 = .ok (.getfield 75, 3) := by decide +kernel
theorem dX7_readUser_67 : decode cX7_readUser 67 = .ok (.invokevirtual 94, 3) := by decide +kernel
theorem dX7_readUser_70 : decode cX7_readUser 70 = .ok (.pop, 1) := by decide +kernel
theorem dX7_readUser_71 : decode cX7_readUser 71 = .ok (.aload_n 0, 1) := by decide +kernel
theorem dX7_readUser_72 : decode cX7_readUser 72 = .ok (.invokevirtual 41, 3) := by decide +kernel
theorem dX7_readUser_75 : decode cX7_readUser 75 = .ok (.ireturn, 1) := by decide +kernel
theorem dX7_readSuit_0 : decode cX7_readSuit 0 = .ok (.aload_n 0, 1) := by decide +kernel
theorem dX7_readSuit_1 : decode cX7_readSuit 1 = .ok (.getfield 12, 3) := by decide +kernel
theorem dX7_readSuit_4 : decode cX7_readSuit 4 = .ok (.getfield 98, 3) := by decide +kernel
theorem dX7_readSuit_7 : decode cX7_readSuit 7 = .ok (.invokevirtual 89, 3) := by decide +kernel
theorem dX7_readSuit_10 : decode cX7_readSuit 10 = .ok (.ifCond .ne 12, 3) := by decide +kernel
theorem dX7_readSuit_13 : decode cX7_readSuit 13 = .ok (.aload_n 0, 1) := by decide +kernel
theorem dX7_readSuit_14 : decode cX7_readSuit 14 = .ok (.iconst 0, 1) := by decide +kernel
theorem dX7_readSuit_15 : decode cX7_readSuit 15 = .ok (.iconst 5, 1) := by decide +kernel
theorem dX7_readSuit_16 : decode cX7_readSuit 16 = .ok (.invokevirtual 78, 3) := by decide +kernel
theorem dX7_readSuit_19 : decode cX7_readSuit 19 = .ok (.ifCond .ne 5, 3) := by decide +kernel
theorem dX7_readSuit_22 : decode cX7_readSuit 22 = .ok (.iconst 0, 1) := by decide +kernel
theorem dX7_readSuit_23 : decode cX7_readSuit 23 = .ok (.ireturn, 1) := by decide +kernel
theorem dX7_readSuit_24 : decode cX7_readSuit 24 = .ok (.aload_n 0, 1) := by decide +kernel
theorem dX7_readSuit_25 : decode cX7_readSuit 25 = .ok (.getfield 75, 3) := by decide +kernel
theorem dX7_readSuit_28 : decode cX7_readSuit 28 = .ok (.istore_n 1, 1) := by decide +kernel
theorem dX7_readSuit_29 : decode cX7_readSuit 29 = .ok (.aload_n 0, 1) := by decide +kernel
theorem dX7_readSuit_30 : decode cX7_readSuit 30 = .ok (.iconst 0, 1) := by decide +kernel
theorem dX7_readSuit_31 : decode cX7_readSuit 31 = .ok (.aload_n 0, 1) := by decide +kernel
theorem dX7_readSuit_32 : decode cX7_readSuit 32 = .ok (.getfield 12, 3) := by decide +kernel
theorem dX7_readSuit_35 : decode cX7_readSuit 35 = .ok (.getfield 85, 3) := by decide +kernel
theorem dX7_readSuit_38 : decode cX7_readSuit 38 = .ok (.getfield 101, 3) := by decide +kernel
theorem dX7_readSuit_41 : decode cX7_readSuit 41 = .ok (.iconst 1, 1) := by decide +kernel
theorem dX7_readSuit_42 : decode cX7_readSuit 42 = .ok (.isub, 1) := by decide +kernel
theorem dX7_readSuit_43 : decode cX7_readSuit 43 = .ok (.invokevirtual 78, 3) := by decide +kernel
theorem dX7_readSuit_46 : decode cX7_readSuit 46 = .ok (.ifCond .ne 5, 3) := by decide +kernel
theorem dX7_readSuit_49 : decode cX7_readSuit 49 = .ok (.iconst 0, 1) := by decide +kernel
theorem dX7_readSuit_50 : decode cX7_readSuit 50 = .ok (.ireturn, 1) := by decide +kernel
theorem dX7_readSuit_51 : decode cX7_readSuit 51 = .ok (.aload_n 0, 1) := by decide +kernel
theorem dX7_readSuit_52 : decode cX7_readSuit 52 = .ok (.getfield 12, 3) := by decide +kernel
theorem dX7_readSuit_55 : decode cX7_readSuit 55 = .ok (.iload_n 1, 1) := by decide +kernel
theorem dX7_readSuit_56 : decode cX7_readSuit 56 = .ok (.aload_n 0, 1) := by decide +kernel
theorem dX7_readSuit_57 : decode cX7_readSuit 57 = .ok (.getfield 75, 3) := by decide +kernel
theorem dX7_readSuit_60 : decode cX7_readSuit 60 = .ok (.invokevirtual 104, 3) := by decide +kernel
theorem dX7_readSuit_63 : decode cX7_readSuit 63 = .ok (.pop, 1) := by decide +kernel
theorem dX7_readSuit_64 : decode cX7_readSuit 64 = .ok (.aload_n 0, 1) := by decide +kernel
theorem dX7_readSuit_65 : decode cX7_readSuit 65 = .ok (.invokevirtual 41, 3) := by decide +kernel
theorem dX7_readSuit_68 : decode cX7_readSuit 68 = .ok (.ireturn, 1) := by decide +kernel
theorem dX7_readHours_0 : decode cX7_readHours 0 = .ok (.aload_n 0, 1) := by decide +kernel
theorem dX7_readHours_1 : decode cX7_readHours 1 = .ok (.iconst 1, 1) := by decide +kernel
theorem dX7_readHours_2 : decode cX7_readHours 2 = .ok (.bipush 99, 2) := by decide +kernel
theorem dX7_readHours_4 : decode cX7_readHours 4 = .ok (.invokevirtual 78, 3) := by decide +kernel
theorem dX7_readHours_7 : decode cX7_readHours 7 = .ok (.ifCond .ne 5, 3) := by decide +kernel
theorem dX7_readHours_10 : decode cX7_readHours 10 = .ok (.iconst 0, 1) := by decide +kernel
theorem dX7_readHours_11 : decode cX7_readHours 11 = .ok (.ireturn, 1) := by decide +kernel
theorem dX7_readHours_12 : decode cX7_readHours 12 = .ok (.aload_n 0, 1) := by decide +kernel
theorem dX7_readHours_13 : decode cX7_readHours 13 = .ok (.getfield 12, 3) := by decide +kernel
theorem dX7_readHours_16 : decode cX7_readHours 16 = .ok (.aload_n 0, 1) := by decide +kernel
theorem dX7_readHours_17 : decode cX7_readHours 17 = .ok (.getfield 75, 3) := by decide +kernel
theorem dX7_readHours_20 : decode cX7_readHours 20 = .ok (.aload_n 0, 1) := by decide +kernel
theorem dX7_readHours_21 : decode cX7_readHours 21 = .ok (.getfield 22, 3) := by decide +kernel
theorem dX7_readHours_24 : decode cX7_readHours 24 = .ok (.invokevirtual 108, 3) := by decide +kernel
theorem dX7_readHours_27 : decode cX7_readHours 27 = .ok (.pop, 1) := by decide +kernel
theorem dX7_readHours_28 : decode cX7_readHours 28 = .ok (.aload_n 0, 1) := by decide +kernel
theorem dX7_readHours_29 : decode cX7_readHours 29 = .ok (.invokevirtual 41, 3) := by decide +kernel
theorem dX7_readHours_32 : decode cX7_readHours 32 = .ok (.ireturn, 1) := by decide +kernel
theorem dX7_goesOnWith_0 : decode cX7_goesOnWith 0 = .ok (.aload_n 0, 1) := by decide +kernel
theorem dX7_goesOnWith_1 : decode cX7_goesOnWith 1 = .ok (.invokevirtual 33, 3) := by decide +kernel
theorem dX7_goesOnWith_4 : decode cX7_goesOnWith 4 = .ok (.aload_n 0, 1) := by decide +kernel
theorem dX7_goesOnWith_5 : decode cX7_goesOnWith 5 = .ok (.iload_n 1, 1) := by decide +kernel
theorem dX7_goesOnWith_6 : decode cX7_goesOnWith 6 = .ok (.iload_n 2, 1) := by decide +kernel
theorem dX7_goesOnWith_7 : decode cX7_goesOnWith 7 = .ok (.invokevirtual 71, 3) := by decide +kernel
theorem dX7_goesOnWith_10 : decode cX7_goesOnWith 10 = .ok (.ireturn, 1) := by decide +kernel
theorem dX7_stops_0 : decode cX7_stops 0 = .ok (.aload_n 0, 1) := by decide +kernel
theorem dX7_stops_1 : decode cX7_stops 1 = .ok (.invokevirtual 33, 3) := by decide +kernel
theorem dX7_stops_4 : decode cX7_stops 4 = .ok (.aload_n 0, 1) := by decide +kernel
theorem dX7_stops_5 : decode cX7_stops 5 = .ok (.getfield 48, 3) := by decide +kernel
theorem dX7_stops_8 : decode cX7_stops 8 = .ok (.iconst 3, 1) := by decide +kernel
theorem dX7_stops_9 : decode cX7_stops 9 = .ok (.if_icmp .ne 7, 3) := by decide +kernel
theorem dX7_stops_12 : decode cX7_stops 12 = .ok (.iconst 1, 1) := by decide +kernel
theorem dX7_stops_13 : decode cX7_stops 13 = .ok (.goto 4, 3) := by decide +kernel
theorem dX7_stops_16 : decode cX7_stops 16 = .ok (.iconst 0, 1) := by decide +kernel
theorem dX7_stops_17 : decode cX7_stops 17 = .ok (.ireturn, 1) := by decide +kernel
theorem dX7_isNumber_0 : decode cX7_isNumber 0 = .ok (.aload_n 0, 1) := by decide +kernel
theorem dX7_isNumber_1 : decode cX7_isNumber 1 = .ok (.getfield 48, 3) := by decide +kernel
theorem dX7_isNumber_4 : decode cX7_isNumber 4 = .ok (.iconst 2, 1) := by decide +kernel
theorem dX7_isNumber_5 : decode cX7_isNumber 5 = .ok (.if_icmp .ne 19, 3) := by decide +kernel
theorem dX7_isNumber_8 : decode cX7_isNumber 8 = .ok (.aload_n 0, 1) := by decide +kernel
theorem dX7_isNumber_9 : decode cX7_isNumber 9 = .ok (.getfield 75, 3) := by decide +kernel
theorem dX7_isNumber_12 : decode cX7_isNumber 12 = .ok (.iload_n 1, 1) := by decide +kernel
theorem dX7_isNumber_13 : decode cX7_isNumber 13 = .ok (.iload_n 2, 1) := by decide +kernel
theorem dX7_isNumber_14 : decode cX7_isNumber 14 = .ok (.invokestatic 112, 3) := by decide +kernel
theorem dX7_isNumber_17 : decode cX7_isNumber 17 = .ok (.ifCond .eq 7, 3) := by decide +kernel
theorem dX7_isNumber_20 : decode cX7_isNumber 20 = .ok (.iconst 1, 1) := by decide +kernel
theorem dX7_isNumber_21 : decode cX7_isNumber 21 = .ok (.goto 4, 3) := by decide +kernel
theorem dX7_isNumber_24 : decode cX7_isNumber 24 = .ok (.iconst 0, 1) := by decide +kernel
theorem dX7_isNumber_25 : decode cX7_isNumber 25 = .ok (.ireturn, 1) := by decide +kernel
theorem dX7_isWord_0 : decode cX7_isWord 0 = .ok (.aload_n 0, 1) := by decide +kernel
theorem dX7_isWord_1 : decode cX7_isWord 1 = .ok (.getfield 48, 3) := by decide +kernel
theorem dX7_isWord_4 : decode cX7_isWord 4 = .ok (.iconst 1, 1) := by decide +kernel
theorem dX7_isWord_5 : decode cX7_isWord 5 = .ok (.if_icmp .ne 19, 3) := by decide +kernel
theorem dX7_isWord_8 : decode cX7_isWord 8 = .ok (.aload_n 0, 1) := by decide +kernel
theorem dX7_isWord_9 : decode cX7_isWord 9 = .ok (.getfield 29, 3) := by decide +kernel
theorem dX7_isWord_12 : decode cX7_isWord 12 = .ok (.aload_n 0, 1) := by decide +kernel
theorem dX7_isWord_13 : decode cX7_isWord 13 = .ok (.getfield 45, 3) := by decide +kernel
theorem dX7_isWord_16 : decode cX7_isWord 16 = .ok (.isub, 1) := by decide +kernel
theorem dX7_isWord_17 : decode cX7_isWord 17 = .ok (.aload_n 1, 1) := by decide +kernel
theorem dX7_isWord_18 : decode cX7_isWord 18 = .ok (.invokevirtual 116, 3) := by decide +kernel
theorem dX7_isWord_21 : decode cX7_isWord 21 = .ok (.if_icmp .eq 5, 3) := by decide +kernel
theorem dX7_isWord_24 : decode cX7_isWord 24 = .ok (.iconst 0, 1) := by decide +kernel
theorem dX7_isWord_25 : decode cX7_isWord 25 = .ok (.ireturn, 1) := by decide +kernel
theorem dX7_isWord_26 : decode cX7_isWord 26 = .ok (.iconst 0, 1) := by decide +kernel
theorem dX7_isWord_27 : decode cX7_isWord 27 = .ok (.istore_n 2, 1) := by decide +kernel
theorem dX7_isWord_28 : decode cX7_isWord 28 = .ok (.iload_n 2, 1) := by decide +kernel
theorem dX7_isWord_29 : decode cX7_isWord 29 = .ok (.aload_n 1, 1) := by decide +kernel
theorem dX7_isWord_30 : decode cX7_isWord 30 = .ok (.invokevirtual 116, 3) := by decide +kernel
theorem dX7_isWord_33 : decode cX7_isWord 33 = .ok (.if_icmp .ge 32, 3) := by decide +kernel
theorem dX7_isWord_36 : decode cX7_isWord 36 = .ok (.aload_n 0, 1) := by decide +kernel
theorem dX7_isWord_37 : decode cX7_isWord 37 = .ok (.getfield 18, 3) := by decide +kernel
theorem dX7_isWord_40 : decode cX7_isWord 40 = .ok (.aload_n 0, 1) := by decide +kernel
theorem dX7_isWord_41 : decode cX7_isWord 41 = .ok (.getfield 45, 3) := by decide +kernel
theorem dX7_isWord_44 : decode cX7_isWord 44 = .ok (.iload_n 2, 1) := by decide +kernel
theorem dX7_isWord_45 : decode cX7_isWord 45 = .ok (.iadd, 1) := by decide +kernel
theorem dX7_isWord_46 : decode cX7_isWord 46 = .ok (.invokevirtual 122, 3) := by decide +kernel
theorem dX7_isWord_49 : decode cX7_isWord 49 = .ok (.aload_n 1, 1) := by decide +kernel
theorem dX7_isWord_50 : decode cX7_isWord 50 = .ok (.iload_n 2, 1) := by decide +kernel
theorem dX7_isWord_51 : decode cX7_isWord 51 = .ok (.invokevirtual 128, 3) := by decide +kernel
theorem dX7_isWord_54 : decode cX7_isWord 54 = .ok (.if_icmp .eq 5, 3) := by decide +kernel
theorem dX7_isWord_57 : decode cX7_isWord 57 = .ok (.iconst 0, 1) := by decide +kernel
theorem dX7_isWord_58 : decode cX7_isWord 58 = .ok (.ireturn, 1) := by decide +kernel
theorem dX7_isWord_59 : decode cX7_isWord 59 = .ok (.iinc 2 1, 3) := by decide +kernel
theorem dX7_isWord_62 : decode cX7_isWord 62 = .ok (.goto (-34), 3) := by decide +kernel
theorem dX7_isWord_65 : decode cX7_isWord 65 = .ok (.iconst 1, 1) := by decide +kernel
theorem dX7_isWord_66 : decode cX7_isWord 66 = .ok (.ireturn, 1) := by decide +kernel
theorem dX7_goOn_0 : decode cX7_goOn 0 = .ok (.aload_n 0, 1) := by decide +kernel
theorem dX7_goOn_1 : decode cX7_goOn 1 = .ok (.aload_n 0, 1) := by decide +kernel
theorem dX7_goOn_2 : decode cX7_goOn 2 = .ok (.aload_n 0, 1) := by decide +kernel
theorem dX7_goOn_3 : decode cX7_goOn 3 = .ok (.getfield 29, 3) := by decide +kernel
theorem dX7_goOn_6 : decode cX7_goOn 6 = .ok (.bipush 32, 2) := by decide +kernel
theorem dX7_goOn_8 : decode cX7_goOn 8 = .ok (.bipush 32, 2) := by decide +kernel
theorem dX7_goOn_10 : decode cX7_goOn 10 = .ok (.invokevirtual 132, 3) := by decide +kernel
theorem dX7_goOn_13 : decode cX7_goOn 13 = .ok (.putfield 45, 3) := by decide +kernel
theorem dX7_goOn_16 : decode cX7_goOn 16 = .ok (.aload_n 0, 1) := by decide +kernel
theorem dX7_goOn_17 : decode cX7_goOn 17 = .ok (.getfield 18, 3) := by decide +kernel
theorem dX7_goOn_20 : decode cX7_goOn 20 = .ok (.aload_n 0, 1) := by decide +kernel
theorem dX7_goOn_21 : decode cX7_goOn 21 = .ok (.getfield 45, 3) := by decide +kernel
theorem dX7_goOn_24 : decode cX7_goOn 24 = .ok (.invokevirtual 122, 3) := by decide +kernel
theorem dX7_goOn_27 : decode cX7_goOn 27 = .ok (.istore_n 1, 1) := by decide +kernel
theorem dX7_goOn_28 : decode cX7_goOn 28 = .ok (.iload_n 1, 1) := by decide +kernel
theorem dX7_goOn_29 : decode cX7_goOn 29 = .ok (.bipush 97, 2) := by decide +kernel
theorem dX7_goOn_31 : decode cX7_goOn 31 = .ok (.bipush 122, 2) := by decide +kernel
theorem dX7_goOn_33 : decode cX7_goOn 33 = .ok (.invokestatic 112, 3) := by decide +kernel
theorem dX7_goOn_36 : decode cX7_goOn 36 = .ok (.ifCond .eq 27, 3) := by decide +kernel
theorem dX7_goOn_39 : decode cX7_goOn 39 = .ok (.aload_n 0, 1) := by decide +kernel
theorem dX7_goOn_40 : decode cX7_goOn 40 = .ok (.aload_n 0, 1) := by decide +kernel
theorem dX7_goOn_41 : decode cX7_goOn 41 = .ok (.aload_n 0, 1) := by decide +kernel
theorem dX7_goOn_42 : decode cX7_goOn 42 = .ok (.getfield 45, 3) := by decide +kernel
theorem dX7_goOn_45 : decode cX7_goOn 45 = .ok (.bipush 97, 2) := by decide +kernel
theorem dX7_goOn_47 : decode cX7_goOn 47 = .ok (.bipush 122, 2) := by decide +kernel
theorem dX7_goOn_49 : decode cX7_goOn 49 = .ok (.invokevirtual 132, 3) := by decide +kernel
theorem dX7_goOn_52 : decode cX7_goOn 52 = .ok (.putfield 29, 3) := by decide +kernel
theorem dX7_goOn_55 : decode cX7_goOn 55 = .ok (.aload_n 0, 1) := by decide +kernel
theorem dX7_goOn_56 : decode cX7_goOn 56 = .ok (.iconst 1, 1) := by decide +kernel
theorem dX7_goOn_57 : decode cX7_goOn 57 = .ok (.putfield 48, 3) := by decide +kernel
theorem dX7_goOn_60 : decode cX7_goOn 60 = .ok (.goto 137, 3) := by decide +kernel
theorem dX7_goOn_63 : decode cX7_goOn 63 = .ok (.iload_n 1, 1) := by decide +kernel
theorem dX7_goOn_64 : decode cX7_goOn 64 = .ok (.bipush 48, 2) := by decide +kernel
theorem dX7_goOn_66 : decode cX7_goOn 66 = .ok (.bipush 57, 2) := by decide +kernel
theorem dX7_goOn_68 : decode cX7_goOn 68 = .ok (.invokestatic 112, 3) := by decide +kernel
theorem dX7_goOn_71 : decode cX7_goOn 71 = .ok (.ifCond .eq 92, 3) := by decide +kernel
theorem dX7_goOn_74 : decode cX7_goOn 74 = .ok (.aload_n 0, 1) := by decide +kernel
theorem dX7_goOn_75 : decode cX7_goOn 75 = .ok (.aload_n 0, 1) := by decide +kernel
theorem dX7_goOn_76 : decode cX7_goOn 76 = .ok (.aload_n 0, 1) := by decide +kernel
theorem dX7_goOn_77 : decode cX7_goOn 77 = .ok (.getfield 45, 3) := by decide +kernel
theorem dX7_goOn_80 : decode cX7_goOn 80 = .ok (.bipush 48, 2) := by decide +kernel
theorem dX7_goOn_82 : decode cX7_goOn 82 = .ok (.bipush 57, 2) := by decide +kernel
theorem dX7_goOn_84 : decode cX7_goOn 84 = .ok (.invokevirtual 132, 3) := by decide +kernel
theorem dX7_goOn_87 : decode cX7_goOn 87 = .ok (.putfield 29, 3) := by decide +kernel
theorem dX7_goOn_90 : decode cX7_goOn 90 = .ok (.aload_n 0, 1) := by decide +kernel
theorem dX7_goOn_91 : decode cX7_goOn 91 = .ok (.aload_n 0, 1) := by decide +kernel
theorem dX7_goOn_92 : decode cX7_goOn 92 = .ok (.getfield 29, 3) := by decide +kernel
theorem dX7_goOn_95 : decode cX7_goOn 95 = .ok (.aload_n 0, 1) := by decide +kernel
theorem dX7_goOn_96 : decode cX7_goOn 96 = .ok (.getfield 45, 3) := by decide +kernel
theorem dX7_goOn_99 : decode cX7_goOn 99 = .ok (.isub, 1) := by decide +kernel
theorem dX7_goOn_100 : decode cX7_goOn 100 = .ok (.iconst 2, 1) := by decide +kernel
theorem dX7_goOn_101 : decode cX7_goOn 101 = .ok (.if_icmp .le 7, 3) := by decide +kernel
theorem dX7_goOn_104 : decode cX7_goOn 104 = .ok (.iconst 4, 1) := by decide +kernel
theorem dX7_goOn_105 : decode cX7_goOn 105 = .ok (.goto 4, 3) := by decide +kernel
theorem dX7_goOn_108 : decode cX7_goOn 108 = .ok (.iconst 2, 1) := by decide +kernel
theorem dX7_goOn_109 : decode cX7_goOn 109 = .ok (.putfield 48, 3) := by decide +kernel
theorem dX7_goOn_112 : decode cX7_goOn 112 = .ok (.aload_n 0, 1) := by decide +kernel
theorem dX7_goOn_113 : decode cX7_goOn 113 = .ok (.aload_n 0, 1) := by decide +kernel
theorem dX7_goOn_114 : decode cX7_goOn 114 = .ok (.getfield 29, 3) := by decide +kernel
theorem dX7_goOn_117 : decode cX7_goOn 117 = .ok (.aload_n 0, 1) := by decide +kernel
theorem dX7_goOn_118 : decode cX7_goOn 118 = .ok (.getfield 45, 3) := by decide +kernel
theorem dX7_goOn_121 : decode cX7_goOn 121 = .ok (.isub, 1) := by decide +kernel
theorem dX7_goOn_122 : decode cX7_goOn 122 = .ok (.iconst 2, 1) := by decide +kernel
theorem dX7_goOn_123 : decode cX7_goOn 123 = .ok (.if_icmp .ne 30, 3) := by decide +kernel
theorem dX7_goOn_126 : decode cX7_goOn 126 = .ok (.bipush 10, 2) := by decide +kernel
theorem dX7_goOn_128 : decode cX7_goOn 128 = .ok (.iload_n 1, 1) := by decide +kernel
theorem dX7_goOn_129 : decode cX7_goOn 129 = .ok (.bipush 48, 2) := by decide +kernel
theorem dX7_goOn_131 : decode cX7_goOn 131 = .ok (.isub, 1) := by decide +kernel
theorem dX7_goOn_132 : decode cX7_goOn 132 = .ok (.imul, 1) := by decide +kernel
theorem dX7_goOn_133 : decode cX7_goOn 133 = .ok (.aload_n 0, 1) := by decide +kernel
theorem dX7_goOn_134 : decode cX7_goOn 134 = .ok (.getfield 18, 3) := by decide +kernel
theorem dX7_goOn_137 : decode cX7_goOn 137 = .ok (.aload_n 0, 1) := by decide +kernel
theorem dX7_goOn_138 : decode cX7_goOn 138 = .ok (.getfield 45, 3) := by decide +kernel
theorem dX7_goOn_141 : decode cX7_goOn 141 = .ok (.iconst 1, 1) := by decide +kernel
theorem dX7_goOn_142 : decode cX7_goOn 142 = .ok (.iadd, 1) := by decide +kernel
theorem dX7_goOn_143 : decode cX7_goOn 143 = .ok (.invokevirtual 122, 3) := by decide +kernel
theorem dX7_goOn_146 : decode cX7_goOn 146 = .ok (.iadd, 1) := by decide +kernel
theorem dX7_goOn_147 : decode cX7_goOn 147 = .ok (.bipush 48, 2) := by decide +kernel
theorem dX7_goOn_149 : decode cX7_goOn 149 = .ok (.isub, 1) := by decide +kernel
theorem dX7_goOn_150 : decode cX7_goOn 150 = .ok (.goto 7, 3) := by decide +kernel
theorem dX7_goOn_153 : decode cX7_goOn 153 = .ok (.iload_n 1, 1) := by decide +kernel
theorem dX7_goOn_154 : decode cX7_goOn 154 = .ok (.bipush 48, 2) := by decide +kernel
theorem dX7_goOn_156 : decode cX7_goOn 156 = .ok (.isub, 1) := by decide +kernel
theorem dX7_goOn_157 : decode cX7_goOn 157 = .ok (.putfield 75, 3) := by decide +kernel
theorem dX7_goOn_160 : decode cX7_goOn 160 = .ok (.goto 37, 3) := by decide +kernel
theorem dX7_goOn_163 : decode cX7_goOn 163 = .ok (.aload_n 0, 1) := by decide +kernel
theorem dX7_goOn_164 : decode cX7_goOn 164 = .ok (.aload_n 0, 1) := by decide +kernel
theorem dX7_goOn_165 : decode cX7_goOn 165 = .ok (.getfield 45, 3) := by decide +kernel
theorem dX7_goOn_168 : decode cX7_goOn 168 = .ok (.iconst 1, 1) := by decide +kernel
theorem dX7_goOn_169 : decode cX7_goOn 169 = .ok (.iadd, 1) := by decide +kernel
theorem dX7_goOn_170 : decode cX7_goOn 170 = .ok (.putfield 29, 3) := by decide +kernel
theorem dX7_goOn_173 : decode cX7_goOn 173 = .ok (.aload_n 0, 1) := by decide +kernel
theorem dX7_goOn_174 : decode cX7_goOn 174 = .ok (.iload_n 1, 1) := by decide +kernel
theorem dX7_goOn_175 : decode cX7_goOn 175 = .ok (.bipush 59, 2) := by decide +kernel
theorem dX7_goOn_177 : decode cX7_goOn 177 = .ok (.if_icmp .ne 7, 3) := by decide +kernel
theorem dX7_goOn_180 : decode cX7_goOn 180 = .ok (.iconst 3, 1) := by decide +kernel
theorem dX7_goOn_181 : decode cX7_goOn 181 = .ok (.goto 13, 3) := by decide +kernel
theorem dX7_goOn_184 : decode cX7_goOn 184 = .ok (.iload_n 1, 1) := by decide +kernel
theorem dX7_goOn_185 : decode cX7_goOn 185 = .ok (.iconst (-1), 1) := by decide +kernel
theorem dX7_goOn_186 : decode cX7_goOn 186 = .ok (.if_icmp .ne 7, 3) := by decide +kernel
theorem dX7_goOn_189 : decode cX7_goOn 189 = .ok (.iconst 0, 1) := by decide +kernel
theorem dX7_goOn_190 : decode cX7_goOn 190 = .ok (.goto 4, 3) := by decide +kernel
theorem dX7_goOn_193 : decode cX7_goOn 193 = .ok (.iconst 4, 1) := by decide +kernel
theorem dX7_goOn_194 : decode cX7_goOn 194 = .ok (.putfield 48, 3) := by decide +kernel
theorem dX7_goOn_197 : decode cX7_goOn 197 = .ok (.return_, 1) := by decide +kernel
theorem dX7_runEnd_0 : decode cX7_runEnd 0 = .ok (.iload_n 1, 1) := by decide +kernel
theorem dX7_runEnd_1 : decode cX7_runEnd 1 = .ok (.istore 4, 2) := by decide +kernel
theorem dX7_runEnd_3 : decode cX7_runEnd 3 = .ok (.iload 4, 2) := by decide +kernel
theorem dX7_runEnd_5 : decode cX7_runEnd 5 = .ok (.aload_n 0, 1) := by decide +kernel
theorem dX7_runEnd_6 : decode cX7_runEnd 6 = .ok (.getfield 18, 3) := by decide +kernel
theorem dX7_runEnd_9 : decode cX7_runEnd 9 = .ok (.getfield 135, 3) := by decide +kernel
theorem dX7_runEnd_12 : decode cX7_runEnd 12 = .ok (.if_icmp .ge 26, 3) := by decide +kernel
theorem dX7_runEnd_15 : decode cX7_runEnd 15 = .ok (.aload_n 0, 1) := by decide +kernel
theorem dX7_runEnd_16 : decode cX7_runEnd 16 = .ok (.getfield 18, 3) := by decide +kernel
theorem dX7_runEnd_19 : decode cX7_runEnd 19 = .ok (.iload 4, 2) := by decide +kernel
theorem dX7_runEnd_21 : decode cX7_runEnd 21 = .ok (.invokevirtual 122, 3) := by decide +kernel
theorem dX7_runEnd_24 : decode cX7_runEnd 24 = .ok (.iload_n 2, 1) := by decide +kernel
theorem dX7_runEnd_25 : decode cX7_runEnd 25 = .ok (.iload_n 3, 1) := by decide +kernel
theorem dX7_runEnd_26 : decode cX7_runEnd 26 = .ok (.invokestatic 112, 3) := by decide +kernel
theorem dX7_runEnd_29 : decode cX7_runEnd 29 = .ok (.ifCond .eq 9, 3) := by decide +kernel
theorem dX7_runEnd_32 : decode cX7_runEnd 32 = .ok (.iinc 4 1, 3) := by decide +kernel
theorem dX7_runEnd_35 : decode cX7_runEnd 35 = .ok (.goto (-32), 3) := by decide +kernel
theorem dX7_runEnd_38 : decode cX7_runEnd 38 = .ok (.iload 4, 2) := by decide +kernel
theorem dX7_runEnd_40 : decode cX7_runEnd 40 = .ok (.ireturn, 1) := by decide +kernel
theorem dX8_init_0 : decode cX8_init 0 = .ok (.aload_n 0, 1) := by decide +kernel
theorem dX8_init_1 : decode cX8_init 1 = .ok (.invokespecial 3, 3) := by decide +kernel
theorem dX8_init_4 : decode cX8_init 4 = .ok (.aload_n 0, 1) := by decide +kernel
theorem dX8_init_5 : decode cX8_init 5 = .ok (.iconst 5, 1) := by decide +kernel
theorem dX8_init_6 : decode cX8_init 6 = .ok (.newarray .int, 2) := by decide +kernel
theorem dX8_init_8 : decode cX8_init 8 = .ok (.putfield 9, 3) := by decide +kernel
theorem dX8_init_11 : decode cX8_init 11 = .ok (.aload_n 0, 1) := by decide +kernel
theorem dX8_init_12 : decode cX8_init 12 = .ok (.iconst 5, 1) := by decide +kernel
theorem dX8_init_13 : decode cX8_init 13 = .ok (.newarray .int, 2) := by decide +kernel
theorem dX8_init_15 : decode cX8_init 15 = .ok (.putfield 15, 3) := by decide +kernel
theorem dX8_init_18 : decode cX8_init 18 = .ok (.return_, 1) := by decide +kernel
theorem dX8_findBestOrder_0 : decode cX8_findBestOrder 0 = .ok (.aload_n 0, 1) := by decide +kernel
theorem dX8_findBestOrder_1 : decode cX8_findBestOrder 1 = .ok (.iconst 0, 1) := by decide +kernel
theorem dX8_findBestOrder_2 : decode cX8_findBestOrder 2 = .ok (.putfield 18, 3) := by decide +kernel
theorem dX8_findBestOrder_5 : decode cX8_findBestOrder 5 = .ok (.iconst 0, 1) := by decide +kernel
theorem dX8_findBestOrder_6 : decode cX8_findBestOrder 6 = .ok (.istore_n 2, 1) := by decide +kernel
theorem dX8_findBestOrder_7 : decode cX8_findBestOrder 7 = .ok (.iload_n 2, 1) := by decide +kernel
theorem dX8_findBestOrder_8 : decode cX8_findBestOrder 8 = .ok (.aload_n 1, 1) := by decide +kernel
theorem dX8_findBestOrder_9 : decode cX8_findBestOrder 9 = .ok (.getfield 22, 3) := by decide +kernel
theorem dX8_findBestOrder_12 : decode cX8_findBestOrder 12 = .ok (.getfield 28, 3) := by decide +kernel
theorem dX8_findBestOrder_15 : decode cX8_findBestOrder 15 = .ok (.if_icmp .ge 45, 3) := by decide +kernel
theorem dX8_findBestOrder_18 : decode cX8_findBestOrder 18 = .ok (.aload_n 0, 1) := by decide +kernel
theorem dX8_findBestOrder_19 : decode cX8_findBestOrder 19 = .ok (.getfield 18, 3) := by decide +kernel
theorem dX8_findBestOrder_22 : decode cX8_findBestOrder 22 = .ok (.iconst 5, 1) := by decide +kernel
theorem dX8_findBestOrder_23 : decode cX8_findBestOrder 23 = .ok (.if_icmp .ge 37, 3) := by decide +kernel
theorem dX8_findBestOrder_26 : decode cX8_findBestOrder 26 = .ok (.aload_n 1, 1) := by decide +kernel
theorem dX8_findBestOrder_27 : decode cX8_findBestOrder 27 = .ok (.iload_n 2, 1) := by decide +kernel
theorem dX8_findBestOrder_28 : decode cX8_findBestOrder 28 = .ok (.invokevirtual 33, 3) := by decide +kernel
theorem dX8_findBestOrder_31 : decode cX8_findBestOrder 31 = .ok (.ifCond .ne 23, 3) := by decide +kernel
theorem dX8_findBestOrder_34 : decode cX8_findBestOrder 34 = .ok (.aload_n 0, 1) := by decide +kernel
theorem dX8_findBestOrder_35 : decode cX8_findBestOrder 35 = .ok (.getfield 9, 3) := by decide +kernel
theorem dX8_findBestOrder_38 : decode cX8_findBestOrder 38 = .ok (.aload_n 0, 1) := by decide +kernel
theorem dX8_findBestOrder_39 : decode cX8_findBestOrder 39 = .ok (.getfield 18, 3) := by decide +kernel
theorem dX8_findBestOrder_42 : decode cX8_findBestOrder 42 = .ok (.iload_n 2, 1) := by decide +kernel
theorem dX8_findBestOrder_43 : decode cX8_findBestOrder 43 = .ok (.iastore, 1) := by decide +kernel
theorem dX8_findBestOrder_44 : decode cX8_findBestOrder 44 = .ok (.aload_n 0, 1) := by decide +kernel
theorem dX8_findBestOrder_45 : decode cX8_findBestOrder 45 = .ok (.dup, 1) := by decide +kernel
theorem dX8_findBestOrder_46 : decode cX8_findBestOrder 46 = .ok (.getfield 18, 3) := by decide +kernel
theorem dX8_findBestOrder_49 : decode cX8_findBestOrder 49 = .ok (.iconst 1, 1) := by decide +kernel
theorem dX8_findBestOrder_50 : decode cX8_findBestOrder 50 = .ok (.iadd, 1) := by decide +kernel
theorem dX8_findBestOrder_51 : decode cX8_findBestOrder 51 = .ok (.putfield 18, 3) := by decide +kernel
theorem dX8_findBestOrder_54 : decode cX8_findBestOrder 54 = .ok (.iinc 2 1, 3) := by decide +kernel
theorem dX8_findBestOrder_57 : decode cX8_findBestOrder 57 = .ok (.goto (-50), 3) := by decide +kernel
theorem dX8_findBestOrder_60 : decode cX8_findBestOrder 60 = .ok (.aload_n 0, 1) := by decide +kernel
theorem dX8_findBestOrder_61 : decode cX8_findBestOrder 61 = .ok (.iconst (-1), 1) := by decide +kernel
theorem dX8_findBestOrder_62 : decode cX8_findBestOrder 62 = .ok (.putfield 37, 3) := by decide +kernel
theorem dX8_findBestOrder_65 : decode cX8_findBestOrder 65 = .ok (.iconst 0, 1) := by decide +kernel
theorem dX8_findBestOrder_66 : decode cX8_findBestOrder 66 = .ok (.istore_n 2, 1) := by decide +kernel
theorem dX8_findBestOrder_67 : decode cX8_findBestOrder 67 = .ok (.iload_n 2, 1) := by decide +kernel
theorem dX8_findBestOrder_68 : decode cX8_findBestOrder 68 = .ok (.bipush 120, 2) := by decide +kernel
theorem dX8_findBestOrder_70 : decode cX8_findBestOrder 70 = .ok (.if_icmp .ge 55, 3) := by decide +kernel
theorem dX8_findBestOrder_73 : decode cX8_findBestOrder 73 = .ok (.aload_n 0, 1) := by decide +kernel
theorem dX8_findBestOrder_74 : decode cX8_findBestOrder 74 = .ok (.aload_n 1, 1) := by decide +kernel
theorem dX8_findBestOrder_75 : decode cX8_findBestOrder 75 = .ok (.invokevirtual 40, 3) := by decide +kernel
theorem dX8_findBestOrder_78 : decode cX8_findBestOrder 78 = .ok (.istore_n 3, 1) := by decide +kernel
theorem dX8_findBestOrder_79 : decode cX8_findBestOrder 79 = .ok (.iload_n 3, 1) := by decide +kernel
theorem dX8_findBestOrder_80 : decode cX8_findBestOrder 80 = .ok (.aload_n 0, 1) := by decide +kernel
theorem dX8_findBestOrder_81 : decode cX8_findBestOrder 81 = .ok (.getfield 37, 3) := by decide +kernel
theorem dX8_findBestOrder_84 : decode cX8_findBestOrder 84 = .ok (.if_icmp .le 25, 3) := by decide +kernel
theorem dX8_findBestOrder_87 : decode cX8_findBestOrder 87 = .ok (.aload_n 0, 1) := by decide +kernel
theorem dX8_findBestOrder_88 : decode cX8_findBestOrder 88 = .ok (.iload_n 3, 1) := by decide +kernel
theorem dX8_findBestOrder_89 : decode cX8_findBestOrder 89 = .ok (.putfield 37, 3) := by decide +kernel
theorem dX8_findBestOrder_92 : decode cX8_findBestOrder 92 = .ok (.aload_n 0, 1) := by decide +kernel
theorem dX8_findBestOrder_93 : decode cX8_findBestOrder 93 = .ok (.getfield 9, 3) := by decide +kernel
theorem dX8_findBestOrder_96 : decode cX8_findBestOrder 96 = .ok (.iconst 0, 1) := by decide +kernel
theorem dX8_findBestOrder_97 : decode cX8_findBestOrder 97 = .ok (.aload_n 0, 1) := by decide +kernel
theorem dX8_findBestOrder_98 : decode cX8_findBestOrder 98 = .ok (.getfield 15, 3) := by decide +kernel
theorem dX8_findBestOrder_101 : decode cX8_findBestOrder 101 = .ok (.iconst 0, 1) := by decide +kernel
theorem dX8_findBestOrder_102 : decode cX8_findBestOrder 102 = .ok (.aload_n 0, 1) := by decide +kernel
theorem dX8_findBestOrder_103 : decode cX8_findBestOrder 103 = .ok (.getfield 18, 3) := by decide +kernel
theorem dX8_findBestOrder_106 : decode cX8_findBestOrder 106 = .ok (.invokestatic 44, 3) := by decide +kernel
theorem dX8_findBestOrder_109 : decode cX8_findBestOrder 109 = .ok (.aload_n 0, 1) := by decide +kernel
theorem dX8_findBestOrder_110 : decode cX8_findBestOrder 110 = .ok (.invokevirtual 50, 3) := by decide +kernel
theorem dX8_findBestOrder_113 : decode cX8_findBestOrder 113 = .ok (.ifCond .ne 6, 3) := by decide +kernel
theorem dX8_findBestOrder_116 : decode cX8_findBestOrder 116 = .ok (.goto 9, 3) := by decide +kernel
theorem dX8_findBestOrder_119 : decode cX8_findBestOrder 119 = .ok (.iinc 2 1, 3) := by decide +kernel
theorem dX8_findBestOrder_122 : decode cX8_findBestOrder 122 = .ok (.goto (-55), 3) := by decide +kernel
theorem dX8_findBestOrder_125 : decode cX8_findBestOrder 125 = .ok (.return_, 1) := by decide +kernel
theorem dX8_wonInOrder_0 : decode cX8_wonInOrder 0 = .ok (.iconst 0, 1) := by decide +kernel
theorem dX8_wonInOrder_1 : decode cX8_wonInOrder 1 = .ok (.istore_n 2, 1) := by decide +kernel
theorem dX8_wonInOrder_2 : decode cX8_wonInOrder 2 = .ok (.iconst 0, 1) := by decide +kernel
theorem dX8_wonInOrder_3 : decode cX8_wonInOrder 3 = .ok (.istore_n 3, 1) := by decide +kernel
theorem dX8_wonInOrder_4 : decode cX8_wonInOrder 4 = .ok (.iconst 0, 1) := by decide +kernel
theorem dX8_wonInOrder_5 : decode cX8_wonInOrder 5 = .ok (.istore 4, 2) := by decide +kernel
theorem dX8_wonInOrder_7 : decode cX8_wonInOrder 7 = .ok (.iload 4, 2) := by decide +kernel
theorem dX8_wonInOrder_9 : decode cX8_wonInOrder 9 = .ok (.aload_n 0, 1) := by decide +kernel
theorem dX8_wonInOrder_10 : decode cX8_wonInOrder 10 = .ok (.getfield 18, 3) := by decide +kernel
theorem dX8_wonInOrder_13 : decode cX8_wonInOrder 13 = .ok (.if_icmp .ge 99, 3) := by decide +kernel
theorem dX8_wonInOrder_16 : decode cX8_wonInOrder 16 = .ok (.aload_n 0, 1) := by decide +kernel
theorem dX8_wonInOrder_17 : decode cX8_wonInOrder 17 = .ok (.getfield 9, 3) := by decide +kernel
theorem dX8_wonInOrder_20 : decode cX8_wonInOrder 20 = .ok (.iload 4, 2) := by decide +kernel
theorem dX8_wonInOrder_22 : decode cX8_wonInOrder 22 = .ok (.iaload, 1) := by decide +kernel
theorem dX8_wonInOrder_23 : decode cX8_wonInOrder 23 = .ok (.istore 5, 2) := by decide +kernel
theorem dX8_wonInOrder_25 : decode cX8_wonInOrder 25 = .ok (.aload_n 1, 1) := by decide +kernel
theorem dX8_wonInOrder_26 : decode cX8_wonInOrder 26 = .ok (.getfield 22, 3) := by decide +kernel
theorem dX8_wonInOrder_29 : decode cX8_wonInOrder 29 = .ok (.iload 5, 2) := by decide +kernel
theorem dX8_wonInOrder_31 : decode cX8_wonInOrder 31 = .ok (.iconst 1, 1) := by decide +kernel
theorem dX8_wonInOrder_32 : decode cX8_wonInOrder 32 = .ok (.invokevirtual 54, 3) := by decide +kernel
theorem dX8_wonInOrder_35 : decode cX8_wonInOrder 35 = .ok (.istore 6, 2) := by decide +kernel
theorem dX8_wonInOrder_37 : decode cX8_wonInOrder 37 = .ok (.iload_n 3, 1) := by decide +kernel
theorem dX8_wonInOrder_38 : decode cX8_wonInOrder 38 = .ok (.iload 6, 2) := by decide +kernel
theorem dX8_wonInOrder_40 : decode cX8_wonInOrder 40 = .ok (.ishr, 1) := by decide +kernel
theorem dX8_wonInOrder_41 : decode cX8_wonInOrder 41 = .ok (.iconst 1, 1) := by decide +kernel
theorem dX8_wonInOrder_42 : decode cX8_wonInOrder 42 = .ok (.iand, 1) := by decide +kernel
theorem dX8_wonInOrder_43 : decode cX8_wonInOrder 43 = .ok (.iconst 1, 1) := by decide +kernel
theorem dX8_wonInOrder_44 : decode cX8_wonInOrder 44 = .ok (.if_icmp .ne 7, 3) := by decide +kernel
theorem dX8_wonInOrder_47 : decode cX8_wonInOrder 47 = .ok (.iconst 0, 1) := by decide +kernel
theorem dX8_wonInOrder_48 : decode cX8_wonInOrder 48 = .ok (.goto 9, 3) := by decide +kernel
theorem dX8_wonInOrder_51 : decode cX8_wonInOrder 51 = .ok (.aload_n 1, 1) := by decide +kernel
theorem dX8_wonInOrder_52 : decode cX8_wonInOrder 52 = .ok (.iload 6, 2) := by decide +kernel
theorem dX8_wonInOrder_54 : decode cX8_wonInOrder 54 = .ok (.invokevirtual 58, 3) := by decide +kernel
theorem dX8_wonInOrder_57 : decode cX8_wonInOrder 57 = .ok (.istore 7, 2) := by decide +kernel
theorem dX8_wonInOrder_59 : decode cX8_wonInOrder 59 = .ok (.aload_n 1, 1) := by decide +kernel
theorem dX8_wonInOrder_60 : decode cX8_wonInOrder 60 = .ok (.getfield 62, 3) := by decide +kernel
theorem dX8_wonInOrder_63 : decode cX8_wonInOrder 63 = .ok (.iload 4, 2) := by decide +kernel
theorem dX8_wonInOrder_65 : decode cX8_wonInOrder 65 = .ok (.iadd, 1) := by decide +kernel
theorem dX8_wonInOrder_66 : decode cX8_wonInOrder 66 = .ok (.aload_n 1, 1) := by decide +kernel
theorem dX8_wonInOrder_67 : decode cX8_wonInOrder 67 = .ok (.getfield 22, 3) := by decide +kernel
theorem dX8_wonInOrder_70 : decode cX8_wonInOrder 70 = .ok (.iload 5, 2) := by decide +kernel
theorem dX8_wonInOrder_72 : decode cX8_wonInOrder 72 = .ok (.iconst 2, 1) := by decide +kernel
theorem dX8_wonInOrder_73 : decode cX8_wonInOrder 73 = .ok (.invokevirtual 54, 3) := by decide +kernel
theorem dX8_wonInOrder_76 : decode cX8_wonInOrder 76 = .ok (.isub, 1) := by decide +kernel
theorem dX8_wonInOrder_77 : decode cX8_wonInOrder 77 = .ok (.istore 8, 2) := by decide +kernel
theorem dX8_wonInOrder_79 : decode cX8_wonInOrder 79 = .ok (.iload_n 2, 1) := by decide +kernel
theorem dX8_wonInOrder_80 : decode cX8_wonInOrder 80 = .ok (.aload_n 1, 1) := by decide +kernel
theorem dX8_wonInOrder_81 : decode cX8_wonInOrder 81 = .ok (.getfield 22, 3) := by decide +kernel
theorem dX8_wonInOrder_84 : decode cX8_wonInOrder 84 = .ok (.iload 5, 2) := by decide +kernel
theorem dX8_wonInOrder_86 : decode cX8_wonInOrder 86 = .ok (.iconst 0, 1) := by decide +kernel
theorem dX8_wonInOrder_87 : decode cX8_wonInOrder 87 = .ok (.invokevirtual 54, 3) := by decide +kernel
theorem dX8_wonInOrder_90 : decode cX8_wonInOrder 90 = .ok (.iload 7, 2) := by decide +kernel
theorem dX8_wonInOrder_92 : decode cX8_wonInOrder 92 = .ok (.iload 8, 2) := by decide +kernel
theorem dX8_wonInOrder_94 : decode cX8_wonInOrder 94 = .ok (.invokestatic 65, 3) := by decide +kernel
theorem dX8_wonInOrder_97 : decode cX8_wonInOrder 97 = .ok (.iadd, 1) := by decide +kernel
theorem dX8_wonInOrder_98 : decode cX8_wonInOrder 98 = .ok (.istore_n 2, 1) := by decide +kernel
theorem dX8_wonInOrder_99 : decode cX8_wonInOrder 99 = .ok (.iload_n 3, 1) := by decide +kernel
theorem dX8_wonInOrder_100 : decode cX8_wonInOrder 100 = .ok (.iconst 1, 1) := by decide +kernel
theorem dX8_wonInOrder_101 : decode cX8_wonInOrder 101 = .ok (.iload 6, 2) := by decide +kernel
theorem dX8_wonInOrder_103 : decode cX8_wonInOrder 103 = .ok (.ishl, 1) := by decide +kernel
theorem dX8_wonInOrder_104 : decode cX8_wonInOrder 104 = .ok (.ior, 1) := by decide +kernel
theorem dX8_wonInOrder_105 : decode cX8_wonInOrder 105 = .ok (.istore_n 3, 1) := by decide +kernel
theorem dX8_wonInOrder_106 : decode cX8_wonInOrder 106 = .ok (.iinc 4 1, 3) := by decide +kernel
theorem dX8_wonInOrder_109 : decode cX8_wonInOrder 109 = .ok (.goto (-102), 3) := by decide +kernel
theorem dX8_wonInOrder_112 : decode cX8_wonInOrder 112 = .ok (.iload_n 2, 1) := by decide +kernel
theorem dX8_wonInOrder_113 : decode cX8_wonInOrder 113 = .ok (.ireturn, 1) := by decide +kernel
theorem dX8_goToNextOrder_0 : decode cX8_goToNextOrder 0 = .ok (.aload_n 0, 1) := by decide +kernel
theorem dX8_goToNextOrder_1 : decode cX8_goToNextOrder 1 = .ok (.getfield 18, 3) := by decide +kernel
theorem dX8_goToNextOrder_4 : decode cX8_goToNextOrder 4 = .ok (.iconst 2, 1) := by decide +kernel
theorem dX8_goToNextOrder_5 : decode cX8_goToNextOrder 5 = .ok (.isub, 1) := by decide +kernel
theorem dX8_goToNextOrder_6 : decode cX8_goToNextOrder 6 = .ok (.istore_n 1, 1) := by decide +kernel
theorem dX8_goToNextOrder_7 : decode cX8_goToNextOrder 7 = .ok (.iload_n 1, 1) := by decide +kernel
theorem dX8_goToNextOrder_8 : decode cX8_goToNextOrder 8 = .ok (.ifCond .lt 26, 3) := by decide +kernel
theorem dX8_goToNextOrder_11 : decode cX8_goToNextOrder 11 = .ok (.aload_n 0, 1) := by decide +kernel
theorem dX8_goToNextOrder_12 : decode cX8_goToNextOrder 12 = .ok (.getfield 9, 3) := by decide +kernel
theorem dX8_goToNextOrder_15 : decode cX8_goToNextOrder 15 = .ok (.iload_n 1, 1) := by decide +kernel
theorem dX8_goToNextOrder_16 : decode cX8_goToNextOrder 16 = .ok (.iaload, 1) := by decide +kernel
theorem dX8_goToNextOrder_17 : decode cX8_goToNextOrder 17 = .ok (.aload_n 0, 1) := by decide +kernel
theorem dX8_goToNextOrder_18 : decode cX8_goToNextOrder 18 = .ok (.getfield 9, 3) := by decide +kernel
theorem dX8_goToNextOrder_21 : decode cX8_goToNextOrder 21 = .ok (.iload_n 1, 1) := by decide +kernel
theorem dX8_goToNextOrder_22 : decode cX8_goToNextOrder 22 = .ok (.iconst 1, 1) := by decide +kernel
theorem dX8_goToNextOrder_23 : decode cX8_goToNextOrder 23 = .ok (.iadd, 1) := by decide +kernel
theorem dX8_goToNextOrder_24 : decode cX8_goToNextOrder 24 = .ok (.iaload, 1) := by decide +kernel
theorem dX8_goToNextOrder_25 : decode cX8_goToNextOrder 25 = .ok (.if_icmp .le 9, 3) := by decide +kernel
theorem dX8_goToNextOrder_28 : decode cX8_goToNextOrder 28 = .ok (.iinc 1 (-1), 3) := by decide +kernel
theorem dX8_goToNextOrder_31 : decode cX8_goToNextOrder 31 = .ok (.goto (-24), 3) := by decide +kernel
theorem dX8_goToNextOrder_34 : decode cX8_goToNextOrder 34 = .ok (.iload_n 1, 1) := by decide +kernel
theorem dX8_goToNextOrder_35 : decode cX8_goToNextOrder 35 = .ok (.ifCond .ge 5, 3) := by decide +kernel
theorem dX8_goToNextOrder_38 : decode cX8_goToNextOrder 38 = .ok (.iconst 0, 1) := by decide +kernel
theorem dX8_goToNextOrder_39 : decode cX8_goToNextOrder 39 = .ok (.ireturn, 1) := by decide +kernel
theorem dX8_goToNextOrder_40 : decode cX8_goToNextOrder 40 = .ok (.aload_n 0, 1) := by decide +kernel
theorem dX8_goToNextOrder_41 : decode cX8_goToNextOrder 41 = .ok (.getfield 18, 3) := by decide +kernel
theorem dX8_goToNextOrder_44 : decode cX8_goToNextOrder 44 = .ok (.iconst 1, 1) := by decide +kernel
theorem dX8_goToNextOrder_45 : decode cX8_goToNextOrder 45 = .ok (.isub, 1) := by decide +kernel
theorem dX8_goToNextOrder_46 : decode cX8_goToNextOrder 46 = .ok (.istore_n 2, 1) := by decide +kernel
theorem dX8_goToNextOrder_47 : decode cX8_goToNextOrder 47 = .ok (.iload_n 2, 1) := by decide +kernel
theorem dX8_goToNextOrder_48 : decode cX8_goToNextOrder 48 = .ok (.iload_n 1, 1) := by decide +kernel
theorem dX8_goToNextOrder_49 : decode cX8_goToNextOrder 49 = .ok (.if_icmp .le 24, 3) := by decide +kernel
theorem dX8_goToNextOrder_52 : decode cX8_goToNextOrder 52 = .ok (.aload_n 0, 1) := by decide +kernel
theorem dX8_goToNextOrder_53 : decode cX8_goToNextOrder 53 = .ok (.getfield 9, 3) := by decide +kernel
theorem dX8_goToNextOrder_56 : decode cX8_goToNextOrder 56 = .ok (.iload_n 2, 1) := by decide +kernel
theorem dX8_goToNextOrder_57 : decode cX8_goToNextOrder 57 = .ok (.iaload, 1) := by decide +kernel
theorem dX8_goToNextOrder_58 : decode cX8_goToNextOrder 58 = .ok (.aload_n 0, 1) := by decide +kernel
theorem dX8_goToNextOrder_59 : decode cX8_goToNextOrder 59 = .ok (.getfield 9, 3) := by decide +kernel
theorem dX8_goToNextOrder_62 : decode cX8_goToNextOrder 62 = .ok (.iload_n 1, 1) := by decide +kernel
theorem dX8_goToNextOrder_63 : decode cX8_goToNextOrder 63 = .ok (.iaload, 1) := by decide +kernel
theorem dX8_goToNextOrder_64 : decode cX8_goToNextOrder 64 = .ok (.if_icmp .ge 9, 3) := by decide +kernel
theorem dX8_goToNextOrder_67 : decode cX8_goToNextOrder 67 = .ok (.iinc 2 (-1), 3) := by decide +kernel
theorem dX8_goToNextOrder_70 : decode cX8_goToNextOrder 70 = .ok (.goto (-23), 3) := by decide +kernel
theorem dX8_goToNextOrder_73 : decode cX8_goToNextOrder 73 = .ok (.aload_n 0, 1) := by decide +kernel
theorem dX8_goToNextOrder_74 : decode cX8_goToNextOrder 74 = .ok (.iload_n 1, 1) := by decide +kernel
theorem dX8_goToNextOrder_75 : decode cX8_goToNextOrder 75 = .ok (.iload_n 2, 1) := by decide +kernel
theorem dX8_goToNextOrder_76 : decode cX8_goToNextOrder 76 = .ok (.invokevirtual 71, 3) := by decide +kernel
theorem dX8_goToNextOrder_79 : decode cX8_goToNextOrder 79 = .ok (.iload_n 1, 1) := by decide +kernel
theorem dX8_goToNextOrder_80 : decode cX8_goToNextOrder 80 = .ok (.iconst 1, 1) := by decide +kernel
theorem dX8_goToNextOrder_81 : decode cX8_goToNextOrder 81 = .ok (.iadd, 1) := by decide +kernel
theorem dX8_goToNextOrder_82 : decode cX8_goToNextOrder 82 = .ok (.istore_n 3, 1) := by decide +kernel
theorem dX8_goToNextOrder_83 : decode cX8_goToNextOrder 83 = .ok (.aload_n 0, 1) := by decide +kernel
theorem dX8_goToNextOrder_84 : decode cX8_goToNextOrder 84 = .ok (.getfield 18, 3) := by decide +kernel
theorem dX8_goToNextOrder_87 : decode cX8_goToNextOrder 87 = .ok (.iconst 1, 1) := by decide +kernel
theorem dX8_goToNextOrder_88 : decode cX8_goToNextOrder 88 = .ok (.isub, 1) := by decide +kernel
theorem dX8_goToNextOrder_89 : decode cX8_goToNextOrder 89 = .ok (.istore 4, 2) := by decide +kernel
theorem dX8_goToNextOrder_91 : decode cX8_goToNextOrder 91 = .ok (.iload_n 3, 1) := by decide +kernel
theorem dX8_goToNextOrder_92 : decode cX8_goToNextOrder 92 = .ok (.iload 4, 2) := by decide +kernel
theorem dX8_goToNextOrder_94 : decode cX8_goToNextOrder 94 = .ok (.if_icmp .ge 19, 3) := by decide +kernel
theorem dX8_goToNextOrder_97 : decode cX8_goToNextOrder 97 = .ok (.aload_n 0, 1) := by decide +kernel
theorem dX8_goToNextOrder_98 : decode cX8_goToNextOrder 98 = .ok (.iload_n 3, 1) := by decide +kernel
theorem dX8_goToNextOrder_99 : decode cX8_goToNextOrder 99 = .ok (.iload 4, 2) := by decide +kernel
theorem dX8_goToNextOrder_101 : decode cX8_goToNextOrder 101 = .ok (.invokevirtual 71, 3) := by decide +kernel
theorem dX8_goToNextOrder_104 : decode cX8_goToNextOrder 104 = .ok (.iinc 3 1, 3) := by decide +kernel
theorem dX8_goToNextOrder_107 : decode cX8_goToNextOrder 107 = .ok (.iinc 4 (-1), 3) := by decide +kernel
theorem dX8_goToNextOrder_110 : decode cX8_goToNextOrder 110 = .ok (.goto (-19), 3) := by decide +kernel
theorem dX8_goToNextOrder_113 : decode cX8_goToNextOrder 113 = .ok (.iconst 1, 1) := by decide +kernel
theorem dX8_goToNextOrder_114 : decode cX8_goToNextOrder 114 = .ok (.ireturn, 1) := by decide +kernel
theorem dX8_swap_0 : decode cX8_swap 0 = .ok (.aload_n 0, 1) := by decide +kernel
theorem dX8_swap_1 : decode cX8_swap 1 = .ok (.getfield 9, 3) := by decide +kernel
theorem dX8_swap_4 : decode cX8_swap 4 = .ok (.iload_n 1, 1) := by decide +kernel
theorem dX8_swap_5 : decode cX8_swap 5 = .ok (.iaload, 1) := by decide +kernel
theorem dX8_swap_6 : decode cX8_swap 6 = .ok (.istore_n 3, 1) := by decide +kernel
theorem dX8_swap_7 : decode cX8_swap 7 = .ok (.aload_n 0, 1) := by decide +kernel
theorem dX8_swap_8 : decode cX8_swap 8 = .ok (.getfield 9, 3) := by decide +kernel
theorem dX8_swap_11 : decode cX8_swap 11 = .ok (.iload_n 1, 1) := by decide +kernel
theorem dX8_swap_12 : decode cX8_swap 12 = .ok (.aload_n 0, 1) := by decide +kernel
theorem dX8_swap_13 : decode cX8_swap 13 = .ok (.getfield 9, 3) := by decide +kernel
theorem dX8_swap_16 : decode cX8_swap 16 = .ok (.iload_n 2, 1) := by decide +kernel
theorem dX8_swap_17 : decode cX8_swap 17 = .ok (.iaload, 1) := by decide +kernel
theorem dX8_swap_18 : decode cX8_swap 18 = .ok (.iastore, 1) := by decide +kernel
theorem dX8_swap_19 : decode cX8_swap 19 = .ok (.aload_n 0, 1) := by decide +kernel
theorem dX8_swap_20 : decode cX8_swap 20 = .ok (.getfield 9, 3) := by decide +kernel
theorem dX8_swap_23 : decode cX8_swap 23 = .ok (.iload_n 2, 1) := by decide +kernel
theorem dX8_swap_24 : decode cX8_swap 24 = .ok (.iload_n 3, 1) := by decide +kernel
theorem dX8_swap_25 : decode cX8_swap 25 = .ok (.iastore, 1) := by decide +kernel
theorem dX8_swap_26 : decode cX8_swap 26 = .ok (.return_, 1) := by decide +kernel
theorem dX9_init_0 : decode cX9_init 0 = .ok (.aload_n 0, 1) := by decide +kernel
theorem dX9_init_1 : decode cX9_init 1 = .ok (.invokespecial 3, 3) := by decide +kernel
theorem dX9_init_4 : decode cX9_init 4 = .ok (.aload_n 0, 1) := by decide +kernel
theorem dX9_init_5 : decode cX9_init 5 = .ok (.iload_n 1, 1) := by decide +kernel
theorem dX9_init_6 : decode cX9_init 6 = .ok (.putfield 9, 3) := by decide +kernel
theorem dX9_init_9 : decode cX9_init 9 = .ok (.aload_n 0, 1) := by decide +kernel
theorem dX9_init_10 : decode cX9_init 10 = .ok (.iload_n 2, 1) := by decide +kernel
theorem dX9_init_11 : decode cX9_init 11 = .ok (.putfield 15, 3) := by decide +kernel
theorem dX9_init_14 : decode cX9_init 14 = .ok (.aload_n 0, 1) := by decide +kernel
theorem dX9_init_15 : decode cX9_init 15 = .ok (.iload_n 1, 1) := by decide +kernel
theorem dX9_init_16 : decode cX9_init 16 = .ok (.iload_n 2, 1) := by decide +kernel
theorem dX9_init_17 : decode cX9_init 17 = .ok (.imul, 1) := by decide +kernel
theorem dX9_init_18 : decode cX9_init 18 = .ok (.newarray .int, 2) := by decide +kernel
theorem dX9_init_20 : decode cX9_init 20 = .ok (.putfield 18, 3) := by decide +kernel
theorem dX9_init_23 : decode cX9_init 23 = .ok (.return_, 1) := by decide +kernel
theorem dX9_isFull_0 : decode cX9_isFull 0 = .ok (.aload_n 0, 1) := by decide +kernel
theorem dX9_isFull_1 : decode cX9_isFull 1 = .ok (.getfield 22, 3) := by decide +kernel
theorem dX9_isFull_4 : decode cX9_isFull 4 = .ok (.aload_n 0, 1) := by decide +kernel
theorem dX9_isFull_5 : decode cX9_isFull 5 = .ok (.getfield 9, 3) := by decide +kernel
theorem dX9_isFull_8 : decode cX9_isFull 8 = .ok (.if_icmp .lt 7, 3) := by decide +kernel
theorem dX9_isFull_11 : decode cX9_isFull 11 = .ok (.iconst 1, 1) := by decide +kernel
theorem dX9_isFull_12 : decode cX9_isFull 12 = .ok (.goto 4, 3) := by decide +kernel
theorem dX9_isFull_15 : decode cX9_isFull 15 = .ok (.iconst 0, 1) := by decide +kernel
theorem dX9_isFull_16 : decode cX9_isFull 16 = .ok (.ireturn, 1) := by decide +kernel
theorem dX9_at_0 : decode cX9_at 0 = .ok (.iload_n 1, 1) := by decide +kernel
theorem dX9_at_1 : decode cX9_at 1 = .ok (.ifCond .lt 23, 3) := by decide +kernel
theorem dX9_at_4 : decode cX9_at 4 = .ok (.iload_n 1, 1) := by decide +kernel
theorem dX9_at_5 : decode cX9_at 5 = .ok (.aload_n 0, 1) := by decide +kernel
theorem dX9_at_6 : decode cX9_at 6 = .ok (.getfield 22, 3) := by decide +kernel
theorem dX9_at_9 : decode cX9_at 9 = .ok (.if_icmp .ge 15, 3) := by decide +kernel
theorem dX9_at_12 : decode cX9_at 12 = .ok (.iload_n 2, 1) := by decide +kernel
theorem dX9_at_13 : decode cX9_at 13 = .ok (.ifCond .lt 11, 3) := by decide +kernel
theorem dX9_at_16 : decode cX9_at 16 = .ok (.iload_n 2, 1) := by decide +kernel
theorem dX9_at_17 : decode cX9_at 17 = .ok (.aload_n 0, 1) := by decide +kernel
theorem dX9_at_18 : decode cX9_at 18 = .ok (.getfield 15, 3) := by decide +kernel
theorem dX9_at_21 : decode cX9_at 21 = .ok (.if_icmp .lt 5, 3) := by decide +kernel
theorem dX9_at_24 : decode cX9_at 24 = .ok (.iconst 0, 1) := by decide +kernel
theorem dX9_at_25 : decode cX9_at 25 = .ok (.ireturn, 1) := by decide +kernel
theorem dX9_at_26 : decode cX9_at 26 = .ok (.aload_n 0, 1) := by decide +kernel
theorem dX9_at_27 : decode cX9_at 27 = .ok (.getfield 18, 3) := by decide +kernel
theorem dX9_at_30 : decode cX9_at 30 = .ok (.iload_n 1, 1) := by decide +kernel
theorem dX9_at_31 : decode cX9_at 31 = .ok (.aload_n 0, 1) := by decide +kernel
theorem dX9_at_32 : decode cX9_at 32 = .ok (.getfield 15, 3) := by decide +kernel
theorem dX9_at_35 : decode cX9_at 35 = .ok (.imul, 1) := by decide +kernel
theorem dX9_at_36 : decode cX9_at 36 = .ok (.iload_n 2, 1) := by decide +kernel
theorem dX9_at_37 : decode cX9_at 37 = .ok (.iadd, 1) := by decide +kernel
theorem dX9_at_38 : decode cX9_at 38 = .ok (.iaload, 1) := by decide +kernel
theorem dX9_at_39 : decode cX9_at 39 = .ok (.ireturn, 1) := by decide +kernel
theorem dX9_put_0 : decode cX9_put 0 = .ok (.iload_n 1, 1) := by decide +kernel
theorem dX9_put_1 : decode cX9_put 1 = .ok (.ifCond .lt 37, 3) := by decide +kernel
theorem dX9_put_4 : decode cX9_put 4 = .ok (.iload_n 1, 1) := by decide +kernel
theorem dX9_put_5 : decode cX9_put 5 = .ok (.aload_n 0, 1) := by decide +kernel
theorem dX9_put_6 : decode cX9_put 6 = .ok (.getfield 22, 3) := by decide +kernel
theorem dX9_put_9 : decode cX9_put 9 = .ok (.if_icmp .ge 29, 3) := by decide +kernel
theorem dX9_put_12 : decode cX9_put 12 = .ok (.iload_n 2, 1) := by decide +kernel
theorem dX9_put_13 : decode cX9_put 13 = .ok (.ifCond .lt 25, 3) := by decide +kernel
theorem dX9_put_16 : decode cX9_put 16 = .ok (.iload_n 2, 1) := by decide +kernel
theorem dX9_put_17 : decode cX9_put 17 = .ok (.aload_n 0, 1) := by decide +kernel
theorem dX9_put_18 : decode cX9_put 18 = .ok (.getfield 15, 3) := by decide +kernel
theorem dX9_put_21 : decode cX9_put 21 = .ok (.if_icmp .ge 17, 3) := by decide +kernel
theorem dX9_put_24 : decode cX9_put 24 = .ok (.aload_n 0, 1) := by decide +kernel
theorem dX9_put_25 : decode cX9_put 25 = .ok (.getfield 18, 3) := by decide +kernel
theorem dX9_put_28 : decode cX9_put 28 = .ok (.iload_n 1, 1) := by decide +kernel
theorem dX9_put_29 : decode cX9_put 29 = .ok (.aload_n 0, 1) := by decide +kernel
theorem dX9_put_30 : decode cX9_put 30 = .ok (.getfield 15, 3) := by decide +kernel
theorem dX9_put_33 : decode cX9_put 33 = .ok (.imul, 1) := by decide +kernel
theorem dX9_put_34 : decode cX9_put 34 = .ok (.iload_n 2, 1) := by decide +kernel
theorem dX9_put_35 : decode cX9_put 35 = .ok (.iadd, 1) := by decide +kernel
theorem dX9_put_36 : decode cX9_put 36 = .ok (.iload_n 3, 1) := by decide +kernel
theorem dX9_put_37 : decode cX9_put 37 = .ok (.iastore, 1) := by decide +kernel
theorem dX9_put_38 : decode cX9_put 38 = .ok (.return_, 1) := by decide +kernel
theorem dX9_open_0 : decode cX9_open 0 = .ok (.aload_n 0, 1) := by decide +kernel
theorem dX9_open_1 : decode cX9_open 1 = .ok (.invokevirtual 25, 3) := by decide +kernel
theorem dX9_open_4 : decode cX9_open 4 = .ok (.ifCond .eq 5, 3) := by decide +kernel
theorem dX9_open_7 : decode cX9_open 7 = .ok (.iconst (-1), 1) := by decide +kernel
theorem dX9_open_8 : decode cX9_open 8 = .ok (.ireturn, 1) := by decide +kernel
theorem dX9_open_9 : decode cX9_open 9 = .ok (.aload_n 0, 1) := by decide +kernel
theorem dX9_open_10 : decode cX9_open 10 = .ok (.getfield 22, 3) := by decide +kernel
theorem dX9_open_13 : decode cX9_open 13 = .ok (.istore_n 1, 1) := by decide +kernel
theorem dX9_open_14 : decode cX9_open 14 = .ok (.aload_n 0, 1) := by decide +kernel
theorem dX9_open_15 : decode cX9_open 15 = .ok (.dup, 1) := by decide +kernel
theorem dX9_open_16 : decode cX9_open 16 = .ok (.getfield 22, 3) := by decide +kernel
theorem dX9_open_19 : decode cX9_open 19 = .ok (.iconst 1, 1) := by decide +kernel
theorem dX9_open_20 : decode cX9_open 20 = .ok (.iadd, 1) := by decide +kernel
theorem dX9_open_21 : decode cX9_open 21 = .ok (.putfield 22, 3) := by decide +kernel
theorem dX9_open_24 : decode cX9_open 24 = .ok (.iconst 0, 1) := by decide +kernel
theorem dX9_open_25 : decode cX9_open 25 = .ok (.istore_n 2, 1) := by decide +kernel
theorem dX9_open_26 : decode cX9_open 26 = .ok (.iload_n 2, 1) := by decide +kernel
theorem dX9_open_27 : decode cX9_open 27 = .ok (.aload_n 0, 1) := by decide +kernel
theorem dX9_open_28 : decode cX9_open 28 = .ok (.getfield 15, 3) := by decide +kernel
theorem dX9_open_31 : decode cX9_open 31 = .ok (.if_icmp .ge 16, 3) := by decide +kernel
theorem dX9_open_34 : decode cX9_open 34 = .ok (.aload_n 0, 1) := by decide +kernel
theorem dX9_open_35 : decode cX9_open 35 = .ok (.iload_n 1, 1) := by decide +kernel
theorem dX9_open_36 : decode cX9_open 36 = .ok (.iload_n 2, 1) := by decide +kernel
theorem dX9_open_37 : decode cX9_open 37 = .ok (.iconst 0, 1) := by decide +kernel
theorem dX9_open_38 : decode cX9_open 38 = .ok (.invokevirtual 29, 3) := by decide +kernel
theorem dX9_open_41 : decode cX9_open 41 = .ok (.iinc 2 1, 3) := by decide +kernel
theorem dX9_open_44 : decode cX9_open 44 = .ok (.goto (-18), 3) := by decide +kernel
theorem dX9_open_47 : decode cX9_open 47 = .ok (.iload_n 1, 1) := by decide +kernel
theorem dX9_open_48 : decode cX9_open 48 = .ok (.ireturn, 1) := by decide +kernel
theorem dX9_dropFirst_0 : decode cX9_dropFirst 0 = .ok (.aload_n 0, 1) := by decide +kernel
theorem dX9_dropFirst_1 : decode cX9_dropFirst 1 = .ok (.getfield 22, 3) := by decide +kernel
theorem dX9_dropFirst_4 : decode cX9_dropFirst 4 = .ok (.ifCond .le 40, 3) := by decide +kernel
theorem dX9_dropFirst_7 : decode cX9_dropFirst 7 = .ok (.aload_n 0, 1) := by decide +kernel
theorem dX9_dropFirst_8 : decode cX9_dropFirst 8 = .ok (.getfield 18, 3) := by decide +kernel
theorem dX9_dropFirst_11 : decode cX9_dropFirst 11 = .ok (.aload_n 0, 1) := by decide +kernel
theorem dX9_dropFirst_12 : decode cX9_dropFirst 12 = .ok (.getfield 15, 3) := by decide +kernel
theorem dX9_dropFirst_15 : decode cX9_dropFirst 15 = .ok (.aload_n 0, 1) := by decide +kernel
theorem dX9_dropFirst_16 : decode cX9_dropFirst 16 = .ok (.getfield 18, 3) := by decide +kernel
theorem dX9_dropFirst_19 : decode cX9_dropFirst 19 = .ok (.iconst 0, 1) := by decide +kernel
theorem dX9_dropFirst_20 : decode cX9_dropFirst 20 = .ok (.aload_n 0, 1) := by decide +kernel
theorem dX9_dropFirst_21 : decode cX9_dropFirst 21 = .ok (.getfield 22, 3) := by decide +kernel
theorem dX9_dropFirst_24 : decode cX9_dropFirst 24 = .ok (.iconst 1, 1) := by decide +kernel
theorem dX9_dropFirst_25 : decode cX9_dropFirst 25 = .ok (.isub, 1) := by decide +kernel
theorem dX9_dropFirst_26 : decode cX9_dropFirst 26 = .ok (.aload_n 0, 1) := by decide +kernel
theorem dX9_dropFirst_27 : decode cX9_dropFirst 27 = .ok (.getfield 15, 3) := by decide +kernel
theorem dX9_dropFirst_30 : decode cX9_dropFirst 30 = .ok (.imul, 1) := by decide +kernel
theorem dX9_dropFirst_31 : decode cX9_dropFirst 31 = .ok (.invokestatic 33, 3) := by decide +kernel
theorem dX9_dropFirst_34 : decode cX9_dropFirst 34 = .ok (.aload_n 0, 1) := by decide +kernel
theorem dX9_dropFirst_35 : decode cX9_dropFirst 35 = .ok (.dup, 1) := by decide +kernel
theorem dX9_dropFirst_36 : decode cX9_dropFirst 36 = .ok (.getfield 22, 3) := by decide +kernel
theorem dX9_dropFirst_39 : decode cX9_dropFirst 39 = .ok (.iconst 1, 1) := by decide +kernel
theorem dX9_dropFirst_40 : decode cX9_dropFirst 40 = .ok (.isub, 1) := by decide +kernel
theorem dX9_dropFirst_41 : decode cX9_dropFirst 41 = .ok (.putfield 22, 3) := by decide +kernel
theorem dX9_dropFirst_44 : decode cX9_dropFirst 44 = .ok (.return_, 1) := by decide +kernel
theorem dX9_empty_0 : decode cX9_empty 0 = .ok (.aload_n 0, 1) := by decide +kernel
theorem dX9_empty_1 : decode cX9_empty 1 = .ok (.getfield 22, 3) := by decide +kernel
theorem dX9_empty_4 : decode cX9_empty 4 = .ok (.istore_n 1, 1) := by decide +kernel
theorem dX9_empty_5 : decode cX9_empty 5 = .ok (.aload_n 0, 1) := by decide +kernel
theorem dX9_empty_6 : decode cX9_empty 6 = .ok (.iconst 0, 1) := by decide +kernel
theorem dX9_empty_7 : decode cX9_empty 7 = .ok (.putfield 22, 3) := by decide +kernel
theorem dX9_empty_10 : decode cX9_empty 10 = .ok (.iload_n 1, 1) := by decide +kernel
theorem dX9_empty_11 : decode cX9_empty 11 = .ok (.ireturn, 1) := by decide +kernel
theorem dX9_copyFrom_0 : decode cX9_copyFrom 0 = .ok (.aload_n 1, 1) := by decide +kernel
theorem dX9_copyFrom_1 : decode cX9_copyFrom 1 = .ok (.getfield 18, 3) := by decide +kernel
theorem dX9_copyFrom_4 : decode cX9_copyFrom 4 = .ok (.arraylength, 1) := by decide +kernel
theorem dX9_copyFrom_5 : decode cX9_copyFrom 5 = .ok (.aload_n 0, 1) := by decide +kernel
theorem dX9_copyFrom_6 : decode cX9_copyFrom 6 = .ok (.getfield 18, 3) := by decide +kernel
theorem dX9_copyFrom_9 : decode cX9_copyFrom 9 = .ok (.arraylength, 1) := by decide +kernel
theorem dX9_copyFrom_10 : decode cX9_copyFrom 10 = .ok (.if_icmp .ne 29, 3) := by decide +kernel
theorem dX9_copyFrom_13 : decode cX9_copyFrom 13 = .ok (.aload_n 1, 1) := by decide +kernel
theorem dX9_copyFrom_14 : decode cX9_copyFrom 14 = .ok (.getfield 18, 3) := by decide +kernel
theorem dX9_copyFrom_17 : decode cX9_copyFrom 17 = .ok (.iconst 0, 1) := by decide +kernel
theorem dX9_copyFrom_18 : decode cX9_copyFrom 18 = .ok (.aload_n 0, 1) := by decide +kernel
theorem dX9_copyFrom_19 : decode cX9_copyFrom 19 = .ok (.getfield 18, 3) := by decide +kernel
theorem dX9_copyFrom_22 : decode cX9_copyFrom 22 = .ok (.iconst 0, 1) := by decide +kernel
theorem dX9_copyFrom_23 : decode cX9_copyFrom 23 = .ok (.aload_n 0, 1) := by decide +kernel
theorem dX9_copyFrom_24 : decode cX9_copyFrom 24 = .ok (.getfield 18, 3) := by decide +kernel
theorem dX9_copyFrom_27 : decode cX9_copyFrom 27 = .ok (.arraylength, 1) := by decide +kernel
theorem dX9_copyFrom_28 : decode cX9_copyFrom 28 = .ok (.invokestatic 33, 3) := by decide +kernel
theorem dX9_copyFrom_31 : decode cX9_copyFrom 31 = .ok (.aload_n 0, 1) := by decide +kernel
theorem dX9_copyFrom_32 : decode cX9_copyFrom 32 = .ok (.aload_n 1, 1) := by decide +kernel
theorem dX9_copyFrom_33 : decode cX9_copyFrom 33 = .ok (.getfield 22, 3) := by decide +kernel
theorem dX9_copyFrom_36 : decode cX9_copyFrom 36 = .ok (.putfield 22, 3) := by decide +kernel
theorem dX9_copyFrom_39 : decode cX9_copyFrom 39 = .ok (.return_, 1) := by decide +kernel
theorem dX9_digestBehind_0 : decode cX9_digestBehind 0 = .ok (.lload_n 1, 1) := by decide +kernel
theorem dX9_digestBehind_1 : decode cX9_digestBehind 1 = .ok (.lstore_n 3, 1) := by decide +kernel
theorem dX9_digestBehind_2 : decode cX9_digestBehind 2 = .ok (.iconst 0, 1) := by decide +kernel
theorem dX9_digestBehind_3 : decode cX9_digestBehind 3 = .ok (.istore 5, 2) := by decide +kernel
theorem dX9_digestBehind_5 : decode cX9_digestBehind 5 = .ok (.iload 5, 2) := by decide +kernel
theorem dX9_digestBehind_7 : decode cX9_digestBehind 7 = .ok (.aload_n 0, 1) := by decide +kernel
theorem dX9_digestBehind_8 : decode cX9_digestBehind 8 = .ok (.getfield 22, 3) := by decide +kernel
theorem dX9_digestBehind_11 : decode cX9_digestBehind 11 = .ok (.if_icmp .ge 43, 3) := by decide +kernel
theorem dX9_digestBehind_14 : decode cX9_digestBehind 14 = .ok (.iconst 0, 1) := by decide +kernel
theorem dX9_digestBehind_15 : decode cX9_digestBehind 15 = .ok (.istore 6, 2) := by decide +kernel
theorem dX9_digestBehind_17 : decode cX9_digestBehind 17 = .ok (.iload 6, 2) := by decide +kernel
theorem dX9_digestBehind_19 : decode cX9_digestBehind 19 = .ok (.aload_n 0, 1) := by decide +kernel
theorem dX9_digestBehind_20 : decode cX9_digestBehind 20 = .ok (.getfield 15, 3) := by decide +kernel
theorem dX9_digestBehind_23 : decode cX9_digestBehind 23 = .ok (.if_icmp .ge 25, 3) := by decide +kernel
theorem dX9_digestBehind_26 : decode cX9_digestBehind 26 = .ok (.ldc2_w 39, 3) := by decide +kernel
theorem dX9_digestBehind_29 : decode cX9_digestBehind 29 = .ok (.lload_n 3, 1) := by decide +kernel
theorem dX9_digestBehind_30 : decode cX9_digestBehind 30 = .ok (.lmul, 1) := by decide +kernel
theorem dX9_digestBehind_31 : decode cX9_digestBehind 31 = .ok (.aload_n 0, 1) := by decide +kernel
theorem dX9_digestBehind_32 : decode cX9_digestBehind 32 = .ok (.iload 5, 2) := by decide +kernel
theorem dX9_digestBehind_34 : decode cX9_digestBehind 34 = .ok (.iload 6, 2) := by decide +kernel
theorem dX9_digestBehind_36 : decode cX9_digestBehind 36 = .ok (.invokevirtual 41, 3) := by decide +kernel
theorem dX9_digestBehind_39 : decode cX9_digestBehind 39 = .ok (.i2l, 1) := by decide +kernel
theorem dX9_digestBehind_40 : decode cX9_digestBehind 40 = .ok (.ladd, 1) := by decide +kernel
theorem dX9_digestBehind_41 : decode cX9_digestBehind 41 = .ok (.lstore_n 3, 1) := by decide +kernel
theorem dX9_digestBehind_42 : decode cX9_digestBehind 42 = .ok (.iinc 6 1, 3) := by decide +kernel
theorem dX9_digestBehind_45 : decode cX9_digestBehind 45 = .ok (.goto (-28), 3) := by decide +kernel
theorem dX9_digestBehind_48 : decode cX9_digestBehind 48 = .ok (.iinc 5 1, 3) := by decide +kernel
theorem dX9_digestBehind_51 : decode cX9_digestBehind 51 = .ok (.goto (-46), 3) := by decide +kernel
theorem dX9_digestBehind_54 : decode cX9_digestBehind 54 = .ok (.lload_n 3, 1) := by decide +kernel
theorem dX9_digestBehind_55 : decode cX9_digestBehind 55 = .ok (.lreturn, 1) := by decide +kernel
theorem dX10_init_0 : decode cX10_init 0 = .ok (.aload_n 0, 1) := by decide +kernel
theorem dX10_init_1 : decode cX10_init 1 = .ok (.invokespecial 3, 3) := by decide +kernel
theorem dX10_init_4 : decode cX10_init 4 = .ok (.aload_n 0, 1) := by decide +kernel
theorem dX10_init_5 : decode cX10_init 5 = .ok (.sipush 150, 3) := by decide +kernel
theorem dX10_init_8 : decode cX10_init 8 = .ok (.newarray .int, 2) := by decide +kernel
theorem dX10_init_10 : decode cX10_init 10 = .ok (.putfield 9, 3) := by decide +kernel
theorem dX10_init_13 : decode cX10_init 13 = .ok (.return_, 1) := by decide +kernel
theorem dX10_isFull_0 : decode cX10_isFull 0 = .ok (.aload_n 0, 1) := by decide +kernel
theorem dX10_isFull_1 : decode cX10_isFull 1 = .ok (.getfield 15, 3) := by decide +kernel
theorem dX10_isFull_4 : decode cX10_isFull 4 = .ok (.sipush 150, 3) := by decide +kernel
theorem dX10_isFull_7 : decode cX10_isFull 7 = .ok (.if_icmp .lt 7, 3) := by decide +kernel
theorem dX10_isFull_10 : decode cX10_isFull 10 = .ok (.iconst 1, 1) := by decide +kernel
theorem dX10_isFull_11 : decode cX10_isFull 11 = .ok (.goto 4, 3) := by decide +kernel
theorem dX10_isFull_14 : decode cX10_isFull 14 = .ok (.iconst 0, 1) := by decide +kernel
theorem dX10_isFull_15 : decode cX10_isFull 15 = .ok (.ireturn, 1) := by decide +kernel
theorem dX10_add_0 : decode cX10_add 0 = .ok (.aload_n 0, 1) := by decide +kernel
theorem dX10_add_1 : decode cX10_add 1 = .ok (.getfield 15, 3) := by decide +kernel
theorem dX10_add_4 : decode cX10_add 4 = .ok (.iconst 0, 1) := by decide +kernel
theorem dX10_add_5 : decode cX10_add 5 = .ok (.sipush 149, 3) := by decide +kernel
theorem dX10_add_8 : decode cX10_add 8 = .ok (.invokestatic 19, 3) := by decide +kernel
theorem dX10_add_11 : decode cX10_add 11 = .ok (.ifCond .eq 23, 3) := by decide +kernel
theorem dX10_add_14 : decode cX10_add 14 = .ok (.aload_n 0, 1) := by decide +kernel
theorem dX10_add_15 : decode cX10_add 15 = .ok (.getfield 9, 3) := by decide +kernel
theorem dX10_add_18 : decode cX10_add 18 = .ok (.aload_n 0, 1) := by decide +kernel
theorem dX10_add_19 : decode cX10_add 19 = .ok (.getfield 15, 3) := by decide +kernel
theorem dX10_add_22 : decode cX10_add 22 = .ok (.iload_n 1, 1) := by decide +kernel
theorem dX10_add_23 : decode cX10_add 23 = .ok (.iastore, 1) := by decide +kernel
theorem dX10_add_24 : decode cX10_add 24 = .ok (.aload_n 0, 1) := by decide +kernel
theorem dX10_add_25 : decode cX10_add 25 = .ok (.dup, 1) := by decide +kernel
theorem dX10_add_26 : decode cX10_add 26 = .ok (.getfield 15, 3) := by decide +kernel
theorem dX10_add_29 : decode cX10_add 29 = .ok (.iconst 1, 1) := by decide +kernel
theorem dX10_add_30 : decode cX10_add 30 = .ok (.iadd, 1) := by decide +kernel
theorem dX10_add_31 : decode cX10_add 31 = .ok (.putfield 15, 3) := by decide +kernel
theorem dX10_add_34 : decode cX10_add 34 = .ok (.aload_n 0, 1) := by decide +kernel
theorem dX10_add_35 : decode cX10_add 35 = .ok (.getfield 15, 3) := by decide +kernel
theorem dX10_add_38 : decode cX10_add 38 = .ok (.ireturn, 1) := by decide +kernel
theorem dX10_at_0 : decode cX10_at 0 = .ok (.iload_n 1, 1) := by decide +kernel
theorem dX10_at_1 : decode cX10_at 1 = .ok (.ifCond .lt 27, 3) := by decide +kernel
theorem dX10_at_4 : decode cX10_at 4 = .ok (.iload_n 1, 1) := by decide +kernel
theorem dX10_at_5 : decode cX10_at 5 = .ok (.aload_n 0, 1) := by decide +kernel
theorem dX10_at_6 : decode cX10_at 6 = .ok (.getfield 15, 3) := by decide +kernel
theorem dX10_at_9 : decode cX10_at 9 = .ok (.if_icmp .ge 19, 3) := by decide +kernel
theorem dX10_at_12 : decode cX10_at 12 = .ok (.iload_n 1, 1) := by decide +kernel
theorem dX10_at_13 : decode cX10_at 13 = .ok (.sipush 150, 3) := by decide +kernel
theorem dX10_at_16 : decode cX10_at 16 = .ok (.if_icmp .ge 12, 3) := by decide +kernel
theorem dX10_at_19 : decode cX10_at 19 = .ok (.aload_n 0, 1) := by decide +kernel
theorem dX10_at_20 : decode cX10_at 20 = .ok (.getfield 9, 3) := by decide +kernel
theorem dX10_at_23 : decode cX10_at 23 = .ok (.iload_n 1, 1) := by decide +kernel
theorem dX10_at_24 : decode cX10_at 24 = .ok (.iaload, 1) := by decide +kernel
theorem dX10_at_25 : decode cX10_at 25 = .ok (.goto 4, 3) := by decide +kernel
theorem dX10_at_28 : decode cX10_at 28 = .ok (.iconst (-1), 1) := by decide +kernel
theorem dX10_at_29 : decode cX10_at 29 = .ok (.ireturn, 1) := by decide +kernel
theorem dX11_init_0 : decode cX11_init 0 = .ok (.aload_n 0, 1) := by decide +kernel
theorem dX11_init_1 : decode cX11_init 1 = .ok (.invokespecial 3, 3) := by decide +kernel
theorem dX11_init_4 : decode cX11_init 4 = .ok (.aload_n 0, 1) := by decide +kernel
theorem dX11_init_5 : decode cX11_init 5 = .ok (.new 9, 3) := by decide +kernel
theorem dX11_init_8 : decode cX11_init 8 = .ok (.dup, 1) := by decide +kernel
theorem dX11_init_9 : decode cX11_init 9 = .ok (.invokespecial 11, 3) := by decide +kernel
theorem dX11_init_12 : decode cX11_init 12 = .ok (.putfield 12, 3) := by decide +kernel
theorem dX11_init_15 : decode cX11_init 15 = .ok (.aload_n 0, 1) := by decide +kernel
theorem dX11_init_16 : decode cX11_init 16 = .ok (.new 9, 3) := by decide +kernel
theorem dX11_init_19 : decode cX11_init 19 = .ok (.dup, 1) := by decide +kernel
theorem dX11_init_20 : decode cX11_init 20 = .ok (.invokespecial 11, 3) := by decide +kernel
theorem dX11_init_23 : decode cX11_init 23 = .ok (.putfield 16, 3) := by decide +kernel
theorem dX11_init_26 : decode cX11_init 26 = .ok (.aload_n 0, 1) := by decide +kernel
theorem dX11_init_27 : decode cX11_init 27 = .ok (.new 9, 3) := by decide +kernel
theorem dX11_init_30 : decode cX11_init 30 = .ok (.dup, 1) := by decide +kernel
theorem dX11_init_31 : decode cX11_init 31 = .ok (.invokespecial 11, 3) := by decide +kernel
theorem dX11_init_34 : decode cX11_init 34 = .ok (.putfield 19, 3) := by decide +kernel
theorem dX11_init_37 : decode cX11_init 37 = .ok (.aload_n 0, 1) := by decide +kernel
theorem dX11_init_38 : decode cX11_init 38 = .ok (.new 22, 3) := by decide +kernel
theorem dX11_init_41 : decode cX11_init 41 = .ok (.dup, 1) := by decide +kernel
theorem dX11_init_42 : decode cX11_init 42 = .ok (.invokespecial 24, 3) := by decide +kernel
theorem dX11_init_45 : decode cX11_init 45 = .ok (.putfield 25, 3) := by decide +kernel
theorem dX11_init_48 : decode cX11_init 48 = .ok (.aload_n 0, 1) := by decide +kernel
theorem dX11_init_49 : decode cX11_init 49 = .ok (.new 29, 3) := by decide +kernel
theorem dX11_init_52 : decode cX11_init 52 = .ok (.dup, 1) := by decide +kernel
theorem dX11_init_53 : decode cX11_init 53 = .ok (.invokespecial 31, 3) := by decide +kernel
theorem dX11_init_56 : decode cX11_init 56 = .ok (.putfield 32, 3) := by decide +kernel
theorem dX11_init_59 : decode cX11_init 59 = .ok (.aload_n 0, 1) := by decide +kernel
theorem dX11_init_60 : decode cX11_init 60 = .ok (.new 36, 3) := by decide +kernel
theorem dX11_init_63 : decode cX11_init 63 = .ok (.dup, 1) := by decide +kernel
theorem dX11_init_64 : decode cX11_init 64 = .ok (.aload_n 0, 1) := by decide +kernel
theorem dX11_init_65 : decode cX11_init 65 = .ok (.getfield 25, 3) := by decide +kernel
theorem dX11_init_68 : decode cX11_init 68 = .ok (.aload_n 0, 1) := by decide +kernel
theorem dX11_init_69 : decode cX11_init 69 = .ok (.getfield 32, 3) := by decide +kernel
theorem dX11_init_72 : decode cX11_init 72 = .ok (.invokespecial 38, 3) := by decide +kernel
theorem dX11_init_75 : decode cX11_init 75 = .ok (.putfield 41, 3) := by decide +kernel
theorem dX11_init_78 : decode cX11_init 78 = .ok (.aload_n 0, 1) := by decide +kernel
theorem dX11_init_79 : decode cX11_init 79 = .ok (.new 45, 3) := by decide +kernel
theorem dX11_init_82 : decode cX11_init 82 = .ok (.dup, 1) := by decide +kernel
theorem dX11_init_83 : decode cX11_init 83 = .ok (.aload_n 0, 1) := by decide +kernel
theorem dX11_init_84 : decode cX11_init 84 = .ok (.getfield 32, 3) := by decide +kernel
theorem dX11_init_87 : decode cX11_init 87 = .ok (.invokespecial 47, 3) := by decide +kernel
theorem dX11_init_90 : decode cX11_init 90 = .ok (.putfield 50, 3) := by decide +kernel
theorem dX11_init_93 : decode cX11_init 93 = .ok (.aload_n 0, 1) := by decide +kernel
theorem dX11_init_94 : decode cX11_init 94 = .ok (.new 54, 3) := by decide +kernel
theorem dX11_init_97 : decode cX11_init 97 = .ok (.dup, 1) := by decide +kernel
theorem dX11_init_98 : decode cX11_init 98 = .ok (.invokespecial 56, 3) := by decide +kernel
theorem dX11_init_101 : decode cX11_init 101 = .ok (.putfield 57, 3) := by decide +kernel
theorem dX11_init_104 : decode cX11_init 104 = .ok (.aload_n 0, 1) := by decide +kernel
theorem dX11_init_105 : decode cX11_init 105 = .ok (.new 61, 3) := by decide +kernel
theorem dX11_init_108 : decode cX11_init 108 = .ok (.dup, 1) := by decide +kernel
theorem dX11_init_109 : decode cX11_init 109 = .ok (.aload_n 0, 1) := by decide +kernel
theorem dX11_init_110 : decode cX11_init 110 = .ok (.getfield 32, 3) := by decide +kernel
theorem dX11_init_113 : decode cX11_init 113 = .ok (.invokespecial 63, 3) := by decide +kernel
theorem dX11_init_116 : decode cX11_init 116 = .ok (.putfield 64, 3) := by decide +kernel
theorem dX11_init_119 : decode cX11_init 119 = .ok (.aload_n 0, 1) := by decide +kernel
theorem dX11_init_120 : decode cX11_init 120 = .ok (.new 68, 3) := by decide +kernel
theorem dX11_init_123 : decode cX11_init 123 = .ok (.dup, 1) := by decide +kernel
theorem dX11_init_124 : decode cX11_init 124 = .ok (.invokespecial 70, 3) := by decide +kernel
theorem dX11_init_127 : decode cX11_init 127 = .ok (.putfield 71, 3) := by decide +kernel
theorem dX11_init_130 : decode cX11_init 130 = .ok (.return_, 1) := by decide +kernel
theorem dX11_island_0 : decode cX11_island 0 = .ok (.aload_n 0, 1) := by decide +kernel
theorem dX11_island_1 : decode cX11_island 1 = .ok (.getfield 12, 3) := by decide +kernel
theorem dX11_island_4 : decode cX11_island 4 = .ok (.getfield 75, 3) := by decide +kernel
theorem dX11_island_7 : decode cX11_island 7 = .ok (.getfield 79, 3) := by decide +kernel
theorem dX11_island_10 : decode cX11_island 10 = .ok (.istore_n 1, 1) := by decide +kernel
theorem dX11_island_11 : decode cX11_island 11 = .ok (.aload_n 0, 1) := by decide +kernel
theorem dX11_island_12 : decode cX11_island 12 = .ok (.getfield 12, 3) := by decide +kernel
theorem dX11_island_15 : decode cX11_island 15 = .ok (.invokevirtual 85, 3) := by decide +kernel
theorem dX11_island_18 : decode cX11_island 18 = .ok (.iload_n 1, 1) := by decide +kernel
theorem dX11_island_19 : decode cX11_island 19 = .ok (.ireturn, 1) := by decide +kernel
theorem dX11_wind_0 : decode cX11_wind 0 = .ok (.iload_n 1, 1) := by decide +kernel
theorem dX11_wind_1 : decode cX11_wind 1 = .ok (.invokestatic 88, 3) := by decide +kernel
theorem dX11_wind_4 : decode cX11_wind 4 = .ok (.ifCond .eq 22, 3) := by decide +kernel
theorem dX11_wind_7 : decode cX11_wind 7 = .ok (.iload_n 2, 1) := by decide +kernel
theorem dX11_wind_8 : decode cX11_wind 8 = .ok (.iconst 0, 1) := by decide +kernel
theorem dX11_wind_9 : decode cX11_wind 9 = .ok (.bipush 20, 2) := by decide +kernel
theorem dX11_wind_11 : decode cX11_wind 11 = .ok (.invokestatic 92, 3) := by decide +kernel
theorem dX11_wind_14 : decode cX11_wind 14 = .ok (.ifCond .eq 12, 3) := by decide +kernel
theorem dX11_wind_17 : decode cX11_wind 17 = .ok (.iload_n 3, 1) := by decide +kernel
theorem dX11_wind_18 : decode cX11_wind 18 = .ok (.iconst 0, 1) := by decide +kernel
theorem dX11_wind_19 : decode cX11_wind 19 = .ok (.iconst 1, 1) := by decide +kernel
theorem dX11_wind_20 : decode cX11_wind 20 = .ok (.invokestatic 92, 3) := by decide +kernel
theorem dX11_wind_23 : decode cX11_wind 23 = .ok (.ifCond .ne 10, 3) := by decide +kernel
theorem dX11_wind_26 : decode cX11_wind 26 = .ok (.aload_n 0, 1) := by decide +kernel
theorem dX11_wind_27 : decode cX11_wind 27 = .ok (.bipush (-2), 2) := by decide +kernel
theorem dX11_wind_29 : decode cX11_wind 29 = .ok (.invokevirtual 96, 3) := by decide +kernel
theorem dX11_wind_32 : decode cX11_wind 32 = .ok (.ireturn, 1) := by decide +kernel
theorem dX11_wind_33 : decode cX11_wind 33 = .ok (.bipush 10, 2) := by decide +kernel
theorem dX11_wind_35 : decode cX11_wind 35 = .ok (.aload_n 0, 1) := by decide +kernel
theorem dX11_wind_36 : decode cX11_wind 36 = .ok (.getfield 12, 3) := by decide +kernel
theorem dX11_wind_39 : decode cX11_wind 39 = .ok (.getfield 100, 3) := by decide +kernel
theorem dX11_wind_42 : decode cX11_wind 42 = .ok (.iload_n 1, 1) := by decide +kernel
theorem dX11_wind_43 : decode cX11_wind 43 = .ok (.iaload, 1) := by decide +kernel
theorem dX11_wind_44 : decode cX11_wind 44 = .ok (.imul, 1) := by decide +kernel
theorem dX11_wind_45 : decode cX11_wind 45 = .ok (.aload_n 0, 1) := by decide +kernel
theorem dX11_wind_46 : decode cX11_wind 46 = .ok (.getfield 12, 3) := by decide +kernel
theorem dX11_wind_49 : decode cX11_wind 49 = .ok (.getfield 104, 3) := by decide +kernel
theorem dX11_wind_52 : decode cX11_wind 52 = .ok (.iload_n 1, 1) := by decide +kernel
theorem dX11_wind_53 : decode cX11_wind 53 = .ok (.iaload, 1) := by decide +kernel
theorem dX11_wind_54 : decode cX11_wind 54 = .ok (.iadd, 1) := by decide +kernel
theorem dX11_wind_55 : decode cX11_wind 55 = .ok (.istore 4, 2) := by decide +kernel
theorem dX11_wind_57 : decode cX11_wind 57 = .ok (.aload_n 0, 1) := by decide +kernel
theorem dX11_wind_58 : decode cX11_wind 58 = .ok (.getfield 12, 3) := by decide +kernel
theorem dX11_wind_61 : decode cX11_wind 61 = .ok (.iload_n 1, 1) := by decide +kernel
theorem dX11_wind_62 : decode cX11_wind 62 = .ok (.iload_n 2, 1) := by decide +kernel
theorem dX11_wind_63 : decode cX11_wind 63 = .ok (.iload_n 3, 1) := by decide +kernel
theorem dX11_wind_64 : decode cX11_wind 64 = .ok (.invokevirtual 107, 3) := by decide +kernel
theorem dX11_wind_67 : decode cX11_wind 67 = .ok (.iload 4, 2) := by decide +kernel
theorem dX11_wind_69 : decode cX11_wind 69 = .ok (.ireturn, 1) := by decide +kernel
theorem dX11_user_0 : decode cX11_user 0 = .ok (.iload_n 1, 1) := by decide +kernel
theorem dX11_user_1 : decode cX11_user 1 = .ok (.invokestatic 111, 3) := by decide +kernel
theorem dX11_user_4 : decode cX11_user 4 = .ok (.ifCond .eq 17, 3) := by decide +kernel
theorem dX11_user_7 : decode cX11_user 7 = .ok (.iload_n 2, 1) := by decide +kernel
theorem dX11_user_8 : decode cX11_user 8 = .ok (.invokestatic 114, 3) := by decide +kernel
theorem dX11_user_11 : decode cX11_user 11 = .ok (.ifCond .eq 10, 3) := by decide +kernel
theorem dX11_user_14 : decode cX11_user 14 = .ok (.iload_n 3, 1) := by decide +kernel
theorem dX11_user_15 : decode cX11_user 15 = .ok (.invokestatic 117, 3) := by decide +kernel
theorem dX11_user_18 : decode cX11_user 18 = .ok (.ifCond .ne 10, 3) := by decide +kernel
theorem dX11_user_21 : decode cX11_user 21 = .ok (.aload_n 0, 1) := by decide +kernel
theorem dX11_user_22 : decode cX11_user 22 = .ok (.bipush (-2), 2) := by decide +kernel
theorem dX11_user_24 : decode cX11_user 24 = .ok (.invokevirtual 96, 3) := by decide +kernel
theorem dX11_user_27 : decode cX11_user 27 = .ok (.ireturn, 1) := by decide +kernel
theorem dX11_user_28 : decode cX11_user 28 = .ok (.aload_n 0, 1) := by decide +kernel
theorem dX11_user_29 : decode cX11_user 29 = .ok (.getfield 12, 3) := by decide +kernel
theorem dX11_user_32 : decode cX11_user 32 = .ok (.getfield 75, 3) := by decide +kernel
theorem dX11_user_35 : decode cX11_user 35 = .ok (.invokevirtual 120, 3) := by decide +kernel
theorem dX11_user_38 : decode cX11_user 38 = .ok (.ifCond .eq 12, 3) := by decide +kernel
theorem dX11_user_41 : decode cX11_user 41 = .ok (.aload_n 0, 1) := by decide +kernel
theorem dX11_user_42 : decode cX11_user 42 = .ok (.bipush (-4), 2) := by decide +kernel
theorem dX11_user_44 : decode cX11_user 44 = .ok (.invokevirtual 96, 3) := by decide +kernel
theorem dX11_user_47 : decode cX11_user 47 = .ok (.goto 13, 3) := by decide +kernel
theorem dX11_user_50 : decode cX11_user 50 = .ok (.aload_n 0, 1) := by decide +kernel
theorem dX11_user_51 : decode cX11_user 51 = .ok (.getfield 12, 3) := by decide +kernel
theorem dX11_user_54 : decode cX11_user 54 = .ok (.iload_n 1, 1) := by decide +kernel
theorem dX11_user_55 : decode cX11_user 55 = .ok (.iload_n 2, 1) := by decide +kernel
theorem dX11_user_56 : decode cX11_user 56 = .ok (.iload_n 3, 1) := by decide +kernel
theorem dX11_user_57 : decode cX11_user 57 = .ok (.invokevirtual 124, 3) := by decide +kernel
theorem dX11_user_60 : decode cX11_user 60 = .ok (.ireturn, 1) := by decide +kernel
theorem dX11_type_0 : decode cX11_type 0 = .ok (.iload_n 1, 1) := by decide +kernel
theorem dX11_type_1 : decode cX11_type 1 = .ok (.iconst 0, 1) := by decide +kernel
theorem dX11_type_2 : decode cX11_type 2 = .ok (.bipush 127, 2) := by decide +kernel
theorem dX11_type_4 : decode cX11_type 4 = .ok (.invokestatic 92, 3) := by decide +kernel
theorem dX11_type_7 : decode cX11_type 7 = .ok (.ifCond .ne 10, 3) := by decide +kernel
theorem dX11_type_10 : decode cX11_type 10 = .ok (.aload_n 0, 1) := by decide +kernel
theorem dX11_type_11 : decode cX11_type 11 = .ok (.bipush (-2), 2) := by decide +kernel
theorem dX11_type_13 : decode cX11_type 13 = .ok (.invokevirtual 96, 3) := by decide +kernel
theorem dX11_type_16 : decode cX11_type 16 = .ok (.ireturn, 1) := by decide +kernel
theorem dX11_type_17 : decode cX11_type 17 = .ok (.aload_n 0, 1) := by decide +kernel
theorem dX11_type_18 : decode cX11_type 18 = .ok (.getfield 25, 3) := by decide +kernel
theorem dX11_type_21 : decode cX11_type 21 = .ok (.invokevirtual 128, 3) := by decide +kernel
theorem dX11_type_24 : decode cX11_type 24 = .ok (.ifCond .eq 12, 3) := by decide +kernel
theorem dX11_type_27 : decode cX11_type 27 = .ok (.aload_n 0, 1) := by decide +kernel
theorem dX11_type_28 : decode cX11_type 28 = .ok (.bipush (-4), 2) := by decide +kernel
theorem dX11_type_30 : decode cX11_type 30 = .ok (.invokevirtual 96, 3) := by decide +kernel
theorem dX11_type_33 : decode cX11_type 33 = .ok (.goto 11, 3) := by decide +kernel
theorem dX11_type_36 : decode cX11_type 36 = .ok (.aload_n 0, 1) := by decide +kernel
theorem dX11_type_37 : decode cX11_type 37 = .ok (.getfield 25, 3) := by decide +kernel
theorem dX11_type_40 : decode cX11_type 40 = .ok (.iload_n 1, 1) := by decide +kernel
theorem dX11_type_41 : decode cX11_type 41 = .ok (.invokevirtual 129, 3) := by decide +kernel
theorem dX11_type_44 : decode cX11_type 44 = .ok (.ireturn, 1) := by decide +kernel
theorem dX11_clear_0 : decode cX11_clear 0 = .ok (.aload_n 0, 1) := by decide +kernel
theorem dX11_clear_1 : decode cX11_clear 1 = .ok (.getfield 25, 3) := by decide +kernel
theorem dX11_clear_4 : decode cX11_clear 4 = .ok (.getfield 132, 3) := by decide +kernel
theorem dX11_clear_7 : decode cX11_clear 7 = .ok (.istore_n 1, 1) := by decide +kernel
theorem dX11_clear_8 : decode cX11_clear 8 = .ok (.aload_n 0, 1) := by decide +kernel
theorem dX11_clear_9 : decode cX11_clear 9 = .ok (.getfield 25, 3) := by decide +kernel
theorem dX11_clear_12 : decode cX11_clear 12 = .ok (.iconst 0, 1) := by decide +kernel
theorem dX11_clear_13 : decode cX11_clear 13 = .ok (.putfield 132, 3) := by decide +kernel
theorem dX11_clear_16 : decode cX11_clear 16 = .ok (.iload_n 1, 1) := by decide +kernel
theorem dX11_clear_17 : decode cX11_clear 17 = .ok (.ireturn, 1) := by decide +kernel
theorem dX11_read_0 : decode cX11_read 0 = .ok (.aload_n 0, 1) := by decide +kernel
theorem dX11_read_1 : decode cX11_read 1 = .ok (.getfield 41, 3) := by decide +kernel
theorem dX11_read_4 : decode cX11_read 4 = .ok (.invokevirtual 133, 3) := by decide +kernel
theorem dX11_read_7 : decode cX11_read 7 = .ok (.istore_n 1, 1) := by decide +kernel
theorem dX11_read_8 : decode cX11_read 8 = .ok (.iload_n 1, 1) := by decide +kernel
theorem dX11_read_9 : decode cX11_read 9 = .ok (.ifCond .lt 17, 3) := by decide +kernel
theorem dX11_read_12 : decode cX11_read 12 = .ok (.aload_n 0, 1) := by decide +kernel
theorem dX11_read_13 : decode cX11_read 13 = .ok (.getfield 12, 3) := by decide +kernel
theorem dX11_read_16 : decode cX11_read 16 = .ok (.aload_n 0, 1) := by decide +kernel
theorem dX11_read_17 : decode cX11_read 17 = .ok (.getfield 41, 3) := by decide +kernel
theorem dX11_read_20 : decode cX11_read 20 = .ok (.getfield 137, 3) := by decide +kernel
theorem dX11_read_23 : decode cX11_read 23 = .ok (.invokevirtual 140, 3) := by decide +kernel
theorem dX11_read_26 : decode cX11_read 26 = .ok (.iload_n 1, 1) := by decide +kernel
theorem dX11_read_27 : decode cX11_read 27 = .ok (.ireturn, 1) := by decide +kernel
theorem dX11_hour_0 : decode cX11_hour 0 = .ok (.iload_n 1, 1) := by decide +kernel
theorem dX11_hour_1 : decode cX11_hour 1 = .ok (.iconst 1, 1) := by decide +kernel
theorem dX11_hour_2 : decode cX11_hour 2 = .ok (.bipush 99, 2) := by decide +kernel
theorem dX11_hour_4 : decode cX11_hour 4 = .ok (.invokestatic 92, 3) := by decide +kernel
theorem dX11_hour_7 : decode cX11_hour 7 = .ok (.ifCond .ne 10, 3) := by decide +kernel
theorem dX11_hour_10 : decode cX11_hour 10 = .ok (.aload_n 0, 1) := by decide +kernel
theorem dX11_hour_11 : decode cX11_hour 11 = .ok (.bipush (-2), 2) := by decide +kernel
theorem dX11_hour_13 : decode cX11_hour 13 = .ok (.invokevirtual 96, 3) := by decide +kernel
theorem dX11_hour_16 : decode cX11_hour 16 = .ok (.ireturn, 1) := by decide +kernel
theorem dX11_hour_17 : decode cX11_hour 17 = .ok (.aload_n 0, 1) := by decide +kernel
theorem dX11_hour_18 : decode cX11_hour 18 = .ok (.getfield 12, 3) := by decide +kernel
theorem dX11_hour_21 : decode cX11_hour 21 = .ok (.invokevirtual 144, 3) := by decide +kernel
theorem dX11_hour_24 : decode cX11_hour 24 = .ok (.aload_n 0, 1) := by decide +kernel
theorem dX11_hour_25 : decode cX11_hour 25 = .ok (.getfield 12, 3) := by decide +kernel
theorem dX11_hour_28 : decode cX11_hour 28 = .ok (.iload_n 1, 1) := by decide +kernel
theorem dX11_hour_29 : decode cX11_hour 29 = .ok (.aload_n 0, 1) := by decide +kernel
theorem dX11_hour_30 : decode cX11_hour 30 = .ok (.getfield 32, 3) := by decide +kernel
theorem dX11_hour_33 : decode cX11_hour 33 = .ok (.invokevirtual 147, 3) := by decide +kernel
theorem dX11_hour_36 : decode cX11_hour 36 = .ok (.ireturn, 1) := by decide +kernel
theorem dX11_suit_0 : decode cX11_suit 0 = .ok (.iload_n 1, 1) := by decide +kernel
theorem dX11_suit_1 : decode cX11_suit 1 = .ok (.invokestatic 111, 3) := by decide +kernel
theorem dX11_suit_4 : decode cX11_suit 4 = .ok (.ifCond .eq 11, 3) := by decide +kernel
theorem dX11_suit_7 : decode cX11_suit 7 = .ok (.aload_n 0, 1) := by decide +kernel
theorem dX11_suit_8 : decode cX11_suit 8 = .ok (.iload_n 2, 1) := by decide +kernel
theorem dX11_suit_9 : decode cX11_suit 9 = .ok (.invokevirtual 151, 3) := by decide +kernel
theorem dX11_suit_12 : decode cX11_suit 12 = .ok (.ifCond .ne 10, 3) := by decide +kernel
theorem dX11_suit_15 : decode cX11_suit 15 = .ok (.aload_n 0, 1) := by decide +kernel
theorem dX11_suit_16 : decode cX11_suit 16 = .ok (.bipush (-2), 2) := by decide +kernel
theorem dX11_suit_18 : decode cX11_suit 18 = .ok (.invokevirtual 96, 3) := by decide +kernel
theorem dX11_suit_21 : decode cX11_suit 21 = .ok (.ireturn, 1) := by decide +kernel
theorem dX11_suit_22 : decode cX11_suit 22 = .ok (.aload_n 0, 1) := by decide +kernel
theorem dX11_suit_23 : decode cX11_suit 23 = .ok (.getfield 12, 3) := by decide +kernel
theorem dX11_suit_26 : decode cX11_suit 26 = .ok (.getfield 154, 3) := by decide +kernel
theorem dX11_suit_29 : decode cX11_suit 29 = .ok (.invokevirtual 120, 3) := by decide +kernel
theorem dX11_suit_32 : decode cX11_suit 32 = .ok (.ifCond .eq 10, 3) := by decide +kernel
theorem dX11_suit_35 : decode cX11_suit 35 = .ok (.aload_n 0, 1) := by decide +kernel
theorem dX11_suit_36 : decode cX11_suit 36 = .ok (.bipush (-4), 2) := by decide +kernel
theorem dX11_suit_38 : decode cX11_suit 38 = .ok (.invokevirtual 96, 3) := by decide +kernel
theorem dX11_suit_41 : decode cX11_suit 41 = .ok (.ireturn, 1) := by decide +kernel
theorem dX11_suit_42 : decode cX11_suit 42 = .ok (.aload_n 0, 1) := by decide +kernel
theorem dX11_suit_43 : decode cX11_suit 43 = .ok (.getfield 12, 3) := by decide +kernel
theorem dX11_suit_46 : decode cX11_suit 46 = .ok (.invokevirtual 144, 3) := by decide +kernel
theorem dX11_suit_49 : decode cX11_suit 49 = .ok (.aload_n 0, 1) := by decide +kernel
theorem dX11_suit_50 : decode cX11_suit 50 = .ok (.getfield 12, 3) := by decide +kernel
theorem dX11_suit_53 : decode cX11_suit 53 = .ok (.iload_n 1, 1) := by decide +kernel
theorem dX11_suit_54 : decode cX11_suit 54 = .ok (.iload_n 2, 1) := by decide +kernel
theorem dX11_suit_55 : decode cX11_suit 55 = .ok (.invokevirtual 157, 3) := by decide +kernel
theorem dX11_suit_58 : decode cX11_suit 58 = .ok (.ireturn, 1) := by decide +kernel
theorem dX11_hears_0 : decode cX11_hears 0 = .ok (.aload_n 0, 1) := by decide +kernel
theorem dX11_hears_1 : decode cX11_hears 1 = .ok (.iload_n 1, 1) := by decide +kernel
theorem dX11_hears_2 : decode cX11_hears 2 = .ok (.invokevirtual 161, 3) := by decide +kernel
theorem dX11_hears_5 : decode cX11_hears 5 = .ok (.ifCond .ne 10, 3) := by decide +kernel
theorem dX11_hears_8 : decode cX11_hears 8 = .ok (.aload_n 0, 1) := by decide +kernel
theorem dX11_hears_9 : decode cX11_hears 9 = .ok (.bipush (-2), 2) := by decide +kernel
theorem dX11_hears_11 : decode cX11_hears 11 = .ok (.invokevirtual 96, 3) := by decide +kernel
theorem dX11_hears_14 : decode cX11_hears 14 = .ok (.ireturn, 1) := by decide +kernel
theorem dX11_hears_15 : decode cX11_hears 15 = .ok (.aload_n 0, 1) := by decide +kernel
theorem dX11_hears_16 : decode cX11_hears 16 = .ok (.getfield 12, 3) := by decide +kernel
theorem dX11_hears_19 : decode cX11_hears 19 = .ok (.iload_n 1, 1) := by decide +kernel
theorem dX11_hears_20 : decode cX11_hears 20 = .ok (.invokevirtual 164, 3) := by decide +kernel
theorem dX11_hears_23 : decode cX11_hears 23 = .ok (.ifCond .eq 10, 3) := by decide +kernel
theorem dX11_hears_26 : decode cX11_hears 26 = .ok (.aload_n 0, 1) := by decide +kernel
theorem dX11_hears_27 : decode cX11_hears 27 = .ok (.bipush (-3), 2) := by decide +kernel
theorem dX11_hears_29 : decode cX11_hears 29 = .ok (.invokevirtual 96, 3) := by decide +kernel
theorem dX11_hears_32 : decode cX11_hears 32 = .ok (.ireturn, 1) := by decide +kernel
theorem dX11_hears_33 : decode cX11_hears 33 = .ok (.aload_n 0, 1) := by decide +kernel
theorem dX11_hears_34 : decode cX11_hears 34 = .ok (.getfield 12, 3) := by decide +kernel
theorem dX11_hears_37 : decode cX11_hears 37 = .ok (.invokevirtual 144, 3) := by decide +kernel
theorem dX11_hears_40 : decode cX11_hears 40 = .ok (.aload_n 0, 1) := by decide +kernel
theorem dX11_hears_41 : decode cX11_hears 41 = .ok (.getfield 12, 3) := by decide +kernel
theorem dX11_hears_44 : decode cX11_hears 44 = .ok (.iload_n 1, 1) := by decide +kernel
theorem dX11_hears_45 : decode cX11_hears 45 = .ok (.invokevirtual 167, 3) := by decide +kernel
theorem dX11_hears_48 : decode cX11_hears 48 = .ok (.ireturn, 1) := by decide +kernel
theorem dX11_pays_0 : decode cX11_pays 0 = .ok (.aload_n 0, 1) := by decide +kernel
theorem dX11_pays_1 : decode cX11_pays 1 = .ok (.iload_n 1, 1) := by decide +kernel
theorem dX11_pays_2 : decode cX11_pays 2 = .ok (.invokevirtual 151, 3) := by decide +kernel
theorem dX11_pays_5 : decode cX11_pays 5 = .ok (.ifCond .ne 10, 3) := by decide +kernel
theorem dX11_pays_8 : decode cX11_pays 8 = .ok (.aload_n 0, 1) := by decide +kernel
theorem dX11_pays_9 : decode cX11_pays 9 = .ok (.bipush (-2), 2) := by decide +kernel
theorem dX11_pays_11 : decode cX11_pays 11 = .ok (.invokevirtual 96, 3) := by decide +kernel
theorem dX11_pays_14 : decode cX11_pays 14 = .ok (.ireturn, 1) := by decide +kernel
theorem dX11_pays_15 : decode cX11_pays 15 = .ok (.aload_n 0, 1) := by decide +kernel
theorem dX11_pays_16 : decode cX11_pays 16 = .ok (.getfield 12, 3) := by decide +kernel
theorem dX11_pays_19 : decode cX11_pays 19 = .ok (.invokevirtual 144, 3) := by decide +kernel
theorem dX11_pays_22 : decode cX11_pays 22 = .ok (.aload_n 0, 1) := by decide +kernel
theorem dX11_pays_23 : decode cX11_pays 23 = .ok (.getfield 12, 3) := by decide +kernel
theorem dX11_pays_26 : decode cX11_pays 26 = .ok (.iload_n 1, 1) := by decide +kernel
theorem dX11_pays_27 : decode cX11_pays 27 = .ok (.invokevirtual 170, 3) := by decide +kernel
theorem dX11_pays_30 : decode cX11_pays 30 = .ok (.istore_n 2, 1) := by decide +kernel
theorem dX11_pays_31 : decode cX11_pays 31 = .ok (.aload_n 0, 1) := by decide +kernel
theorem dX11_pays_32 : decode cX11_pays 32 = .ok (.getfield 12, 3) := by decide +kernel
theorem dX11_pays_35 : decode cX11_pays 35 = .ok (.getfield 75, 3) := by decide +kernel
theorem dX11_pays_38 : decode cX11_pays 38 = .ok (.iload_n 1, 1) := by decide +kernel
theorem dX11_pays_39 : decode cX11_pays 39 = .ok (.iconst 3, 1) := by decide +kernel
theorem dX11_pays_40 : decode cX11_pays 40 = .ok (.iconst 0, 1) := by decide +kernel
theorem dX11_pays_41 : decode cX11_pays 41 = .ok (.invokevirtual 173, 3) := by decide +kernel
theorem dX11_pays_44 : decode cX11_pays 44 = .ok (.iload_n 2, 1) := by decide +kernel
theorem dX11_pays_45 : decode cX11_pays 45 = .ok (.ireturn, 1) := by decide +kernel
theorem dX11_undo_0 : decode cX11_undo 0 = .ok (.aload_n 0, 1) := by decide +kernel
theorem dX11_undo_1 : decode cX11_undo 1 = .ok (.getfield 12, 3) := by decide +kernel
theorem dX11_undo_4 : decode cX11_undo 4 = .ok (.getfield 176, 3) := by decide +kernel
theorem dX11_undo_7 : decode cX11_undo 7 = .ok (.getfield 79, 3) := by decide +kernel
theorem dX11_undo_10 : decode cX11_undo 10 = .ok (.ifCond .ne 10, 3) := by decide +kernel
theorem dX11_undo_13 : decode cX11_undo 13 = .ok (.aload_n 0, 1) := by decide +kernel
theorem dX11_undo_14 : decode cX11_undo 14 = .ok (.bipush (-3), 2) := by decide +kernel
theorem dX11_undo_16 : decode cX11_undo 16 = .ok (.invokevirtual 96, 3) := by decide +kernel
theorem dX11_undo_19 : decode cX11_undo 19 = .ok (.ireturn, 1) := by decide +kernel
theorem dX11_undo_20 : decode cX11_undo 20 = .ok (.aload_n 0, 1) := by decide +kernel
theorem dX11_undo_21 : decode cX11_undo 21 = .ok (.getfield 12, 3) := by decide +kernel
theorem dX11_undo_24 : decode cX11_undo 24 = .ok (.invokevirtual 179, 3) := by decide +kernel
theorem dX11_undo_27 : decode cX11_undo 27 = .ok (.aload_n 0, 1) := by decide +kernel
theorem dX11_undo_28 : decode cX11_undo 28 = .ok (.getfield 12, 3) := by decide +kernel
theorem dX11_undo_31 : decode cX11_undo 31 = .ok (.getfield 182, 3) := by decide +kernel
theorem dX11_undo_34 : decode cX11_undo 34 = .ok (.ireturn, 1) := by decide +kernel
theorem dX11_of_0 : decode cX11_of 0 = .ok (.aload_n 0, 1) := by decide +kernel
theorem dX11_of_1 : decode cX11_of 1 = .ok (.iload_n 1, 1) := by decide +kernel
theorem dX11_of_2 : decode cX11_of 2 = .ok (.invokevirtual 151, 3) := by decide +kernel
theorem dX11_of_5 : decode cX11_of 5 = .ok (.ifCond .eq 27, 3) := by decide +kernel
theorem dX11_of_8 : decode cX11_of 8 = .ok (.iload_n 2, 1) := by decide +kernel
theorem dX11_of_9 : decode cX11_of 9 = .ok (.iconst 0, 1) := by decide +kernel
theorem dX11_of_10 : decode cX11_of 10 = .ok (.iconst 3, 1) := by decide +kernel
theorem dX11_of_11 : decode cX11_of 11 = .ok (.invokestatic 92, 3) := by decide +kernel
theorem dX11_of_14 : decode cX11_of 14 = .ok (.ifCond .eq 18, 3) := by decide +kernel
theorem dX11_of_17 : decode cX11_of 17 = .ok (.aload_n 0, 1) := by decide +kernel
theorem dX11_of_18 : decode cX11_of 18 = .ok (.getfield 12, 3) := by decide +kernel
theorem dX11_of_21 : decode cX11_of 21 = .ok (.getfield 75, 3) := by decide +kernel
theorem dX11_of_24 : decode cX11_of 24 = .ok (.iload_n 1, 1) := by decide +kernel
theorem dX11_of_25 : decode cX11_of 25 = .ok (.iload_n 2, 1) := by decide +kernel
theorem dX11_of_26 : decode cX11_of 26 = .ok (.invokevirtual 185, 3) := by decide +kernel
theorem dX11_of_29 : decode cX11_of 29 = .ok (.goto 9, 3) := by decide +kernel
theorem dX11_of_32 : decode cX11_of 32 = .ok (.aload_n 0, 1) := by decide +kernel
theorem dX11_of_33 : decode cX11_of 33 = .ok (.bipush (-2), 2) := by decide +kernel
theorem dX11_of_35 : decode cX11_of 35 = .ok (.invokevirtual 96, 3) := by decide +kernel
theorem dX11_of_38 : decode cX11_of 38 = .ok (.ireturn, 1) := by decide +kernel
theorem dX11_about_0 : decode cX11_about 0 = .ok (.aload_n 0, 1) := by decide +kernel
theorem dX11_about_1 : decode cX11_about 1 = .ok (.iload_n 1, 1) := by decide +kernel
theorem dX11_about_2 : decode cX11_about 2 = .ok (.invokevirtual 161, 3) := by decide +kernel
theorem dX11_about_5 : decode cX11_about 5 = .ok (.ifCond .eq 27, 3) := by decide +kernel
theorem dX11_about_8 : decode cX11_about 8 = .ok (.iload_n 2, 1) := by decide +kernel
theorem dX11_about_9 : decode cX11_about 9 = .ok (.iconst 0, 1) := by decide +kernel
theorem dX11_about_10 : decode cX11_about 10 = .ok (.iconst 3, 1) := by decide +kernel
theorem dX11_about_11 : decode cX11_about 11 = .ok (.invokestatic 92, 3) := by decide +kernel
theorem dX11_about_14 : decode cX11_about 14 = .ok (.ifCond .eq 18, 3) := by decide +kernel
theorem dX11_about_17 : decode cX11_about 17 = .ok (.aload_n 0, 1) := by decide +kernel
theorem dX11_about_18 : decode cX11_about 18 = .ok (.getfield 12, 3) := by decide +kernel
theorem dX11_about_21 : decode cX11_about 21 = .ok (.getfield 154, 3) := by decide +kernel
theorem dX11_about_24 : decode cX11_about 24 = .ok (.iload_n 1, 1) := by decide +kernel
theorem dX11_about_25 : decode cX11_about 25 = .ok (.iload_n 2, 1) := by decide +kernel
theorem dX11_about_26 : decode cX11_about 26 = .ok (.invokevirtual 185, 3) := by decide +kernel
theorem dX11_about_29 : decode cX11_about 29 = .ok (.goto 9, 3) := by decide +kernel
theorem dX11_about_32 : decode cX11_about 32 = .ok (.aload_n 0, 1) := by decide +kernel
theorem dX11_about_33 : decode cX11_about 33 = .ok (.bipush (-2), 2) := by decide +kernel
theorem dX11_about_35 : decode cX11_about 35 = .ok (.invokevirtual 96, 3) := by decide +kernel
theorem dX11_about_38 : decode cX11_about 38 = .ok (.ireturn, 1) := by decide +kernel
theorem dX11_blows_0 : decode cX11_blows 0 = .ok (.iload_n 1, 1) := by decide +kernel
theorem dX11_blows_1 : decode cX11_blows 1 = .ok (.invokestatic 114, 3) := by decide +kernel
theorem dX11_blows_4 : decode cX11_blows 4 = .ok (.ifCond .eq 19, 3) := by decide +kernel
theorem dX11_blows_7 : decode cX11_blows 7 = .ok (.iload_n 2, 1) := by decide +kernel
theorem dX11_blows_8 : decode cX11_blows 8 = .ok (.invokestatic 88, 3) := by decide +kernel
theorem dX11_blows_11 : decode cX11_blows 11 = .ok (.ifCond .eq 12, 3) := by decide +kernel
theorem dX11_blows_14 : decode cX11_blows 14 = .ok (.iload_n 3, 1) := by decide +kernel
theorem dX11_blows_15 : decode cX11_blows 15 = .ok (.iconst 0, 1) := by decide +kernel
theorem dX11_blows_16 : decode cX11_blows 16 = .ok (.iconst 1, 1) := by decide +kernel
theorem dX11_blows_17 : decode cX11_blows 17 = .ok (.invokestatic 92, 3) := by decide +kernel
theorem dX11_blows_20 : decode cX11_blows 20 = .ok (.ifCond .ne 10, 3) := by decide +kernel
theorem dX11_blows_23 : decode cX11_blows 23 = .ok (.aload_n 0, 1) := by decide +kernel
theorem dX11_blows_24 : decode cX11_blows 24 = .ok (.bipush (-2), 2) := by decide +kernel
theorem dX11_blows_26 : decode cX11_blows 26 = .ok (.invokevirtual 96, 3) := by decide +kernel
theorem dX11_blows_29 : decode cX11_blows 29 = .ok (.ireturn, 1) := by decide +kernel
theorem dX11_blows_30 : decode cX11_blows 30 = .ok (.aload_n 0, 1) := by decide +kernel
theorem dX11_blows_31 : decode cX11_blows 31 = .ok (.getfield 32, 3) := by decide +kernel
theorem dX11_blows_34 : decode cX11_blows 34 = .ok (.aload_n 0, 1) := by decide +kernel
theorem dX11_blows_35 : decode cX11_blows 35 = .ok (.getfield 12, 3) := by decide +kernel
theorem dX11_blows_38 : decode cX11_blows 38 = .ok (.iload_n 2, 1) := by decide +kernel
theorem dX11_blows_39 : decode cX11_blows 39 = .ok (.bipush 127, 2) := by decide +kernel
theorem dX11_blows_41 : decode cX11_blows 41 = .ok (.invokevirtual 188, 3) := by decide +kernel
theorem dX11_blows_44 : decode cX11_blows 44 = .ok (.iload_n 3, 1) := by decide +kernel
theorem dX11_blows_45 : decode cX11_blows 45 = .ok (.ifCond .ne 15, 3) := by decide +kernel
theorem dX11_blows_48 : decode cX11_blows 48 = .ok (.aload_n 0, 1) := by decide +kernel
theorem dX11_blows_49 : decode cX11_blows 49 = .ok (.getfield 32, 3) := by decide +kernel
theorem dX11_blows_52 : decode cX11_blows 52 = .ok (.getfield 192, 3) := by decide +kernel
theorem dX11_blows_55 : decode cX11_blows 55 = .ok (.iload_n 1, 1) := by decide +kernel
theorem dX11_blows_56 : decode cX11_blows 56 = .ok (.iaload, 1) := by decide +kernel
theorem dX11_blows_57 : decode cX11_blows 57 = .ok (.goto 12, 3) := by decide +kernel
theorem dX11_blows_60 : decode cX11_blows 60 = .ok (.aload_n 0, 1) := by decide +kernel
theorem dX11_blows_61 : decode cX11_blows 61 = .ok (.getfield 32, 3) := by decide +kernel
theorem dX11_blows_64 : decode cX11_blows 64 = .ok (.getfield 195, 3) := by decide +kernel
theorem dX11_blows_67 : decode cX11_blows 67 = .ok (.iload_n 1, 1) := by decide +kernel
theorem dX11_blows_68 : decode cX11_blows 68 = .ok (.iaload, 1) := by decide +kernel
theorem dX11_blows_69 : decode cX11_blows 69 = .ok (.ireturn, 1) := by decide +kernel
theorem dX11_takes_0 : decode cX11_takes 0 = .ok (.aload_n 0, 1) := by decide +kernel
theorem dX11_takes_1 : decode cX11_takes 1 = .ok (.iload_n 1, 1) := by decide +kernel
theorem dX11_takes_2 : decode cX11_takes 2 = .ok (.invokevirtual 151, 3) := by decide +kernel
theorem dX11_takes_5 : decode cX11_takes 5 = .ok (.ifCond .eq 10, 3) := by decide +kernel
theorem dX11_takes_8 : decode cX11_takes 8 = .ok (.iload_n 2, 1) := by decide +kernel
theorem dX11_takes_9 : decode cX11_takes 9 = .ok (.invokestatic 88, 3) := by decide +kernel
theorem dX11_takes_12 : decode cX11_takes 12 = .ok (.ifCond .ne 10, 3) := by decide +kernel
theorem dX11_takes_15 : decode cX11_takes 15 = .ok (.aload_n 0, 1) := by decide +kernel
theorem dX11_takes_16 : decode cX11_takes 16 = .ok (.bipush (-2), 2) := by decide +kernel
theorem dX11_takes_18 : decode cX11_takes 18 = .ok (.invokevirtual 96, 3) := by decide +kernel
theorem dX11_takes_21 : decode cX11_takes 21 = .ok (.ireturn, 1) := by decide +kernel
theorem dX11_takes_22 : decode cX11_takes 22 = .ok (.aload_n 0, 1) := by decide +kernel
theorem dX11_takes_23 : decode cX11_takes 23 = .ok (.getfield 32, 3) := by decide +kernel
theorem dX11_takes_26 : decode cX11_takes 26 = .ok (.aload_n 0, 1) := by decide +kernel
theorem dX11_takes_27 : decode cX11_takes 27 = .ok (.getfield 12, 3) := by decide +kernel
theorem dX11_takes_30 : decode cX11_takes 30 = .ok (.iload_n 2, 1) := by decide +kernel
theorem dX11_takes_31 : decode cX11_takes 31 = .ok (.bipush 127, 2) := by decide +kernel
theorem dX11_takes_33 : decode cX11_takes 33 = .ok (.invokevirtual 188, 3) := by decide +kernel
theorem dX11_takes_36 : decode cX11_takes 36 = .ok (.aload_n 0, 1) := by decide +kernel
theorem dX11_takes_37 : decode cX11_takes 37 = .ok (.getfield 32, 3) := by decide +kernel
theorem dX11_takes_40 : decode cX11_takes 40 = .ok (.iload_n 1, 1) := by decide +kernel
theorem dX11_takes_41 : decode cX11_takes 41 = .ok (.invokevirtual 198, 3) := by decide +kernel
theorem dX11_takes_44 : decode cX11_takes 44 = .ok (.ireturn, 1) := by decide +kernel
theorem dX11_then_0 : decode cX11_then 0 = .ok (.aload_n 0, 1) := by decide +kernel
theorem dX11_then_1 : decode cX11_then 1 = .ok (.iload_n 1, 1) := by decide +kernel
theorem dX11_then_2 : decode cX11_then 2 = .ok (.invokevirtual 151, 3) := by decide +kernel
theorem dX11_then_5 : decode cX11_then 5 = .ok (.ifCond .eq 29, 3) := by decide +kernel
theorem dX11_then_8 : decode cX11_then 8 = .ok (.iload_n 2, 1) := by decide +kernel
theorem dX11_then_9 : decode cX11_then 9 = .ok (.iconst 0, 1) := by decide +kernel
theorem dX11_then_10 : decode cX11_then 10 = .ok (.bipush 99, 2) := by decide +kernel
theorem dX11_then_12 : decode cX11_then 12 = .ok (.invokestatic 92, 3) := by decide +kernel
theorem dX11_then_15 : decode cX11_then 15 = .ok (.ifCond .eq 19, 3) := by decide +kernel
theorem dX11_then_18 : decode cX11_then 18 = .ok (.aload_n 0, 1) := by decide +kernel
theorem dX11_then_19 : decode cX11_then 19 = .ok (.getfield 50, 3) := by decide +kernel
theorem dX11_then_22 : decode cX11_then 22 = .ok (.aload_n 0, 1) := by decide +kernel
theorem dX11_then_23 : decode cX11_then 23 = .ok (.getfield 12, 3) := by decide +kernel
theorem dX11_then_26 : decode cX11_then 26 = .ok (.iload_n 1, 1) := by decide +kernel
theorem dX11_then_27 : decode cX11_then 27 = .ok (.iload_n 2, 1) := by decide +kernel
theorem dX11_then_28 : decode cX11_then 28 = .ok (.invokevirtual 201, 3) := by decide +kernel
theorem dX11_then_31 : decode cX11_then 31 = .ok (.goto 9, 3) := by decide +kernel
theorem dX11_then_34 : decode cX11_then 34 = .ok (.aload_n 0, 1) := by decide +kernel
theorem dX11_then_35 : decode cX11_then 35 = .ok (.bipush (-2), 2) := by decide +kernel
theorem dX11_then_37 : decode cX11_then 37 = .ok (.invokevirtual 96, 3) := by decide +kernel
theorem dX11_then_40 : decode cX11_then 40 = .ok (.ireturn, 1) := by decide +kernel
theorem dX11_calm_0 : decode cX11_calm 0 = .ok (.aload_n 0, 1) := by decide +kernel
theorem dX11_calm_1 : decode cX11_calm 1 = .ok (.iload_n 1, 1) := by decide +kernel
theorem dX11_calm_2 : decode cX11_calm 2 = .ok (.invokevirtual 151, 3) := by decide +kernel
theorem dX11_calm_5 : decode cX11_calm 5 = .ok (.ifCond .eq 18, 3) := by decide +kernel
theorem dX11_calm_8 : decode cX11_calm 8 = .ok (.aload_n 0, 1) := by decide +kernel
theorem dX11_calm_9 : decode cX11_calm 9 = .ok (.getfield 50, 3) := by decide +kernel
theorem dX11_calm_12 : decode cX11_calm 12 = .ok (.aload_n 0, 1) := by decide +kernel
theorem dX11_calm_13 : decode cX11_calm 13 = .ok (.getfield 12, 3) := by decide +kernel
theorem dX11_calm_16 : decode cX11_calm 16 = .ok (.iload_n 1, 1) := by decide +kernel
theorem dX11_calm_17 : decode cX11_calm 17 = .ok (.invokevirtual 205, 3) := by decide +kernel
theorem dX11_calm_20 : decode cX11_calm 20 = .ok (.goto 9, 3) := by decide +kernel
theorem dX11_calm_23 : decode cX11_calm 23 = .ok (.aload_n 0, 1) := by decide +kernel
theorem dX11_calm_24 : decode cX11_calm 24 = .ok (.bipush (-2), 2) := by decide +kernel
theorem dX11_calm_26 : decode cX11_calm 26 = .ok (.invokevirtual 96, 3) := by decide +kernel
theorem dX11_calm_29 : decode cX11_calm 29 = .ok (.ireturn, 1) := by decide +kernel
theorem dX11_place_0 : decode cX11_place 0 = .ok (.iload_n 1, 1) := by decide +kernel
theorem dX11_place_1 : decode cX11_place 1 = .ok (.invokestatic 111, 3) := by decide +kernel
theorem dX11_place_4 : decode cX11_place 4 = .ok (.ifCond .eq 19, 3) := by decide +kernel
theorem dX11_place_7 : decode cX11_place 7 = .ok (.iload_n 2, 1) := by decide +kernel
theorem dX11_place_8 : decode cX11_place 8 = .ok (.invokestatic 117, 3) := by decide +kernel
theorem dX11_place_11 : decode cX11_place 11 = .ok (.ifCond .eq 12, 3) := by decide +kernel
theorem dX11_place_14 : decode cX11_place 14 = .ok (.iload_n 3, 1) := by decide +kernel
theorem dX11_place_15 : decode cX11_place 15 = .ok (.iconst 0, 1) := by decide +kernel
theorem dX11_place_16 : decode cX11_place 16 = .ok (.iconst 1, 1) := by decide +kernel
theorem dX11_place_17 : decode cX11_place 17 = .ok (.invokestatic 92, 3) := by decide +kernel
theorem dX11_place_20 : decode cX11_place 20 = .ok (.ifCond .ne 10, 3) := by decide +kernel
theorem dX11_place_23 : decode cX11_place 23 = .ok (.aload_n 0, 1) := by decide +kernel
theorem dX11_place_24 : decode cX11_place 24 = .ok (.bipush (-2), 2) := by decide +kernel
theorem dX11_place_26 : decode cX11_place 26 = .ok (.invokevirtual 96, 3) := by decide +kernel
theorem dX11_place_29 : decode cX11_place 29 = .ok (.ireturn, 1) := by decide +kernel
theorem dX11_place_30 : decode cX11_place 30 = .ok (.aload_n 0, 1) := by decide +kernel
theorem dX11_place_31 : decode cX11_place 31 = .ok (.getfield 12, 3) := by decide +kernel
theorem dX11_place_34 : decode cX11_place 34 = .ok (.getfield 75, 3) := by decide +kernel
theorem dX11_place_37 : decode cX11_place 37 = .ok (.invokevirtual 120, 3) := by decide +kernel
theorem dX11_place_40 : decode cX11_place 40 = .ok (.ifCond .eq 10, 3) := by decide +kernel
theorem dX11_place_43 : decode cX11_place 43 = .ok (.aload_n 0, 1) := by decide +kernel
theorem dX11_place_44 : decode cX11_place 44 = .ok (.bipush (-4), 2) := by decide +kernel
theorem dX11_place_46 : decode cX11_place 46 = .ok (.invokevirtual 96, 3) := by decide +kernel
theorem dX11_place_49 : decode cX11_place 49 = .ok (.ireturn, 1) := by decide +kernel
theorem dX11_place_50 : decode cX11_place 50 = .ok (.aload_n 0, 1) := by decide +kernel
theorem dX11_place_51 : decode cX11_place 51 = .ok (.getfield 50, 3) := by decide +kernel
theorem dX11_place_54 : decode cX11_place 54 = .ok (.aload_n 0, 1) := by decide +kernel
theorem dX11_place_55 : decode cX11_place 55 = .ok (.getfield 12, 3) := by decide +kernel
theorem dX11_place_58 : decode cX11_place 58 = .ok (.iload_n 1, 1) := by decide +kernel
theorem dX11_place_59 : decode cX11_place 59 = .ok (.iload_n 2, 1) := by decide +kernel
theorem dX11_place_60 : decode cX11_place 60 = .ok (.invokevirtual 209, 3) := by decide +kernel
theorem dX11_place_63 : decode cX11_place 63 = .ok (.iload_n 3, 1) := by decide +kernel
theorem dX11_place_64 : decode cX11_place 64 = .ok (.ifCond .ne 13, 3) := by decide +kernel
theorem dX11_place_67 : decode cX11_place 67 = .ok (.aload_n 0, 1) := by decide +kernel
theorem dX11_place_68 : decode cX11_place 68 = .ok (.getfield 50, 3) := by decide +kernel
theorem dX11_place_71 : decode cX11_place 71 = .ok (.getfield 212, 3) := by decide +kernel
theorem dX11_place_74 : decode cX11_place 74 = .ok (.goto 10, 3) := by decide +kernel
theorem dX11_place_77 : decode cX11_place 77 = .ok (.aload_n 0, 1) := by decide +kernel
theorem dX11_place_78 : decode cX11_place 78 = .ok (.getfield 50, 3) := by decide +kernel
theorem dX11_place_81 : decode cX11_place 81 = .ok (.getfield 215, 3) := by decide +kernel
theorem dX11_place_84 : decode cX11_place 84 = .ok (.ireturn, 1) := by decide +kernel
theorem dX11_share_0 : decode cX11_share 0 = .ok (.aload_n 0, 1) := by decide +kernel
theorem dX11_share_1 : decode cX11_share 1 = .ok (.iload_n 1, 1) := by decide +kernel
theorem dX11_share_2 : decode cX11_share 2 = .ok (.invokevirtual 151, 3) := by decide +kernel
theorem dX11_share_5 : decode cX11_share 5 = .ok (.ifCond .ne 10, 3) := by decide +kernel
theorem dX11_share_8 : decode cX11_share 8 = .ok (.aload_n 0, 1) := by decide +kernel
theorem dX11_share_9 : decode cX11_share 9 = .ok (.bipush (-2), 2) := by decide +kernel
theorem dX11_share_11 : decode cX11_share 11 = .ok (.invokevirtual 96, 3) := by decide +kernel
theorem dX11_share_14 : decode cX11_share 14 = .ok (.ireturn, 1) := by decide +kernel
theorem dX11_share_15 : decode cX11_share 15 = .ok (.aload_n 0, 1) := by decide +kernel
theorem dX11_share_16 : decode cX11_share 16 = .ok (.getfield 71, 3) := by decide +kernel
theorem dX11_share_19 : decode cX11_share 19 = .ok (.aload_n 0, 1) := by decide +kernel
theorem dX11_share_20 : decode cX11_share 20 = .ok (.getfield 50, 3) := by decide +kernel
theorem dX11_share_23 : decode cX11_share 23 = .ok (.aload_n 0, 1) := by decide +kernel
theorem dX11_share_24 : decode cX11_share 24 = .ok (.getfield 12, 3) := by decide +kernel
theorem dX11_share_27 : decode cX11_share 27 = .ok (.iload_n 1, 1) := by decide +kernel
theorem dX11_share_28 : decode cX11_share 28 = .ok (.invokevirtual 218, 3) := by decide +kernel
theorem dX11_share_31 : decode cX11_share 31 = .ok (.aload_n 0, 1) := by decide +kernel
theorem dX11_share_32 : decode cX11_share 32 = .ok (.getfield 12, 3) := by decide +kernel
theorem dX11_share_35 : decode cX11_share 35 = .ok (.getfield 75, 3) := by decide +kernel
theorem dX11_share_38 : decode cX11_share 38 = .ok (.getfield 79, 3) := by decide +kernel
theorem dX11_share_41 : decode cX11_share 41 = .ok (.invokestatic 222, 3) := by decide +kernel
theorem dX11_share_44 : decode cX11_share 44 = .ok (.i2l, 1) := by decide +kernel
theorem dX11_share_45 : decode cX11_share 45 = .ok (.invokevirtual 225, 3) := by decide +kernel
theorem dX11_share_48 : decode cX11_share 48 = .ok (.iconst 1, 1) := by decide +kernel
theorem dX11_share_49 : decode cX11_share 49 = .ok (.ireturn, 1) := by decide +kernel
theorem dX11_award_0 : decode cX11_award 0 = .ok (.aload_n 0, 1) := by decide +kernel
theorem dX11_award_1 : decode cX11_award 1 = .ok (.iload_n 1, 1) := by decide +kernel
theorem dX11_award_2 : decode cX11_award 2 = .ok (.invokevirtual 161, 3) := by decide +kernel
theorem dX11_award_5 : decode cX11_award 5 = .ok (.ifCond .eq 14, 3) := by decide +kernel
theorem dX11_award_8 : decode cX11_award 8 = .ok (.aload_n 0, 1) := by decide +kernel
theorem dX11_award_9 : decode cX11_award 9 = .ok (.getfield 12, 3) := by decide +kernel
theorem dX11_award_12 : decode cX11_award 12 = .ok (.iload_n 1, 1) := by decide +kernel
theorem dX11_award_13 : decode cX11_award 13 = .ok (.invokevirtual 229, 3) := by decide +kernel
theorem dX11_award_16 : decode cX11_award 16 = .ok (.goto 9, 3) := by decide +kernel
theorem dX11_award_19 : decode cX11_award 19 = .ok (.aload_n 0, 1) := by decide +kernel
theorem dX11_award_20 : decode cX11_award 20 = .ok (.bipush (-2), 2) := by decide +kernel
theorem dX11_award_22 : decode cX11_award 22 = .ok (.invokevirtual 96, 3) := by decide +kernel
theorem dX11_award_25 : decode cX11_award 25 = .ok (.ireturn, 1) := by decide +kernel
theorem dX11_court_0 : decode cX11_court 0 = .ok (.iload_n 1, 1) := by decide +kernel
theorem dX11_court_1 : decode cX11_court 1 = .ok (.iconst (-1), 1) := by decide +kernel
theorem dX11_court_2 : decode cX11_court 2 = .ok (.if_icmp .ge 13, 3) := by decide +kernel
theorem dX11_court_5 : decode cX11_court 5 = .ok (.aload_n 0, 1) := by decide +kernel
theorem dX11_court_6 : decode cX11_court 6 = .ok (.bipush (-2), 2) := by decide +kernel
theorem dX11_court_8 : decode cX11_court 8 = .ok (.invokevirtual 96, 3) := by decide +kernel
theorem dX11_court_11 : decode cX11_court 11 = .ok (.pop, 1) := by decide +kernel
theorem dX11_court_12 : decode cX11_court 12 = .ok (.bipush (-10), 2) := by decide +kernel
theorem dX11_court_14 : decode cX11_court 14 = .ok (.ireturn, 1) := by decide +kernel
theorem dX11_court_15 : decode cX11_court 15 = .ok (.aload_n 0, 1) := by decide +kernel
theorem dX11_court_16 : decode cX11_court 16 = .ok (.getfield 57, 3) := by decide +kernel
theorem dX11_court_19 : decode cX11_court 19 = .ok (.aload_n 0, 1) := by decide +kernel
theorem dX11_court_20 : decode cX11_court 20 = .ok (.getfield 12, 3) := by decide +kernel
theorem dX11_court_23 : decode cX11_court 23 = .ok (.invokevirtual 232, 3) := by decide +kernel
theorem dX11_court_26 : decode cX11_court 26 = .ok (.iload_n 1, 1) := by decide +kernel
theorem dX11_court_27 : decode cX11_court 27 = .ok (.iconst (-1), 1) := by decide +kernel
theorem dX11_court_28 : decode cX11_court 28 = .ok (.if_icmp .ne 11, 3) := by decide +kernel
theorem dX11_court_31 : decode cX11_court 31 = .ok (.aload_n 0, 1) := by decide +kernel
theorem dX11_court_32 : decode cX11_court 32 = .ok (.getfield 57, 3) := by decide +kernel
theorem dX11_court_35 : decode cX11_court 35 = .ok (.getfield 235, 3) := by decide +kernel
theorem dX11_court_38 : decode cX11_court 38 = .ok (.ireturn, 1) := by decide +kernel
theorem dX11_court_39 : decode cX11_court 39 = .ok (.iload_n 1, 1) := by decide +kernel
theorem dX11_court_40 : decode cX11_court 40 = .ok (.aload_n 0, 1) := by decide +kernel
theorem dX11_court_41 : decode cX11_court 41 = .ok (.getfield 57, 3) := by decide +kernel
theorem dX11_court_44 : decode cX11_court 44 = .ok (.getfield 238, 3) := by decide +kernel
theorem dX11_court_47 : decode cX11_court 47 = .ok (.if_icmp .ge 15, 3) := by decide +kernel
theorem dX11_court_50 : decode cX11_court 50 = .ok (.aload_n 0, 1) := by decide +kernel
theorem dX11_court_51 : decode cX11_court 51 = .ok (.getfield 57, 3) := by decide +kernel
theorem dX11_court_54 : decode cX11_court 54 = .ok (.getfield 241, 3) := by decide +kernel
theorem dX11_court_57 : decode cX11_court 57 = .ok (.iload_n 1, 1) := by decide +kernel
theorem dX11_court_58 : decode cX11_court 58 = .ok (.iaload, 1) := by decide +kernel
theorem dX11_court_59 : decode cX11_court 59 = .ok (.goto 5, 3) := by decide +kernel
theorem dX11_court_62 : decode cX11_court 62 = .ok (.bipush (-5), 2) := by decide +kernel
theorem dX11_court_64 : decode cX11_court 64 = .ok (.ireturn, 1) := by decide +kernel
theorem dX11_settle_0 : decode cX11_settle 0 = .ok (.iconst 0, 1) := by decide +kernel
theorem dX11_settle_1 : decode cX11_settle 1 = .ok (.istore_n 1, 1) := by decide +kernel
theorem dX11_settle_2 : decode cX11_settle 2 = .ok (.iconst 0, 1) := by decide +kernel
theorem dX11_settle_3 : decode cX11_settle 3 = .ok (.istore_n 2, 1) := by decide +kernel
theorem dX11_settle_4 : decode cX11_settle 4 = .ok (.iload_n 2, 1) := by decide +kernel
theorem dX11_settle_5 : decode cX11_settle 5 = .ok (.aload_n 0, 1) := by decide +kernel
theorem dX11_settle_6 : decode cX11_settle 6 = .ok (.getfield 12, 3) := by decide +kernel
theorem dX11_settle_9 : decode cX11_settle 9 = .ok (.getfield 154, 3) := by decide +kernel
theorem dX11_settle_12 : decode cX11_settle 12 = .ok (.getfield 79, 3) := by decide +kernel
theorem dX11_settle_15 : decode cX11_settle 15 = .ok (.if_icmp .ge 28, 3) := by decide +kernel
theorem dX11_settle_18 : decode cX11_settle 18 = .ok (.aload_n 0, 1) := by decide +kernel
theorem dX11_settle_19 : decode cX11_settle 19 = .ok (.getfield 12, 3) := by decide +kernel
theorem dX11_settle_22 : decode cX11_settle 22 = .ok (.iload_n 2, 1) := by decide +kernel
theorem dX11_settle_23 : decode cX11_settle 23 = .ok (.invokevirtual 229, 3) := by decide +kernel
theorem dX11_settle_26 : decode cX11_settle 26 = .ok (.bipush 10, 2) := by decide +kernel
theorem dX11_settle_28 : decode cX11_settle 28 = .ok (.if_icmp .lt 9, 3) := by decide +kernel
theorem dX11_settle_31 : decode cX11_settle 31 = .ok (.iload_n 1, 1) := by decide +kernel
theorem dX11_settle_32 : decode cX11_settle 32 = .ok (.iconst 1, 1) := by decide +kernel
theorem dX11_settle_33 : decode cX11_settle 33 = .ok (.iload_n 2, 1) := by decide +kernel
theorem dX11_settle_34 : decode cX11_settle 34 = .ok (.ishl, 1) := by decide +kernel
theorem dX11_settle_35 : decode cX11_settle 35 = .ok (.ior, 1) := by decide +kernel
theorem dX11_settle_36 : decode cX11_settle 36 = .ok (.istore_n 1, 1) := by decide +kernel
theorem dX11_settle_37 : decode cX11_settle 37 = .ok (.iinc 2 1, 3) := by decide +kernel
theorem dX11_settle_40 : decode cX11_settle 40 = .ok (.goto (-36), 3) := by decide +kernel
theorem dX11_settle_43 : decode cX11_settle 43 = .ok (.iload_n 1, 1) := by decide +kernel
theorem dX11_settle_44 : decode cX11_settle 44 = .ok (.ireturn, 1) := by decide +kernel
theorem dX11_reading_0 : decode cX11_reading 0 = .ok (.iload_n 1, 1) := by decide +kernel
theorem dX11_reading_1 : decode cX11_reading 1 = .ok (.invokestatic 88, 3) := by decide +kernel
theorem dX11_reading_4 : decode cX11_reading 4 = .ok (.ifCond .eq 20, 3) := by decide +kernel
theorem dX11_reading_7 : decode cX11_reading 7 = .ok (.iload_n 2, 1) := by decide +kernel
theorem dX11_reading_8 : decode cX11_reading 8 = .ok (.invokestatic 114, 3) := by decide +kernel
theorem dX11_reading_11 : decode cX11_reading 11 = .ok (.ifCond .eq 13, 3) := by decide +kernel
theorem dX11_reading_14 : decode cX11_reading 14 = .ok (.iload_n 3, 1) := by decide +kernel
theorem dX11_reading_15 : decode cX11_reading 15 = .ok (.iconst 0, 1) := by decide +kernel
theorem dX11_reading_16 : decode cX11_reading 16 = .ok (.bipush 20, 2) := by decide +kernel
theorem dX11_reading_18 : decode cX11_reading 18 = .ok (.invokestatic 92, 3) := by decide +kernel
theorem dX11_reading_21 : decode cX11_reading 21 = .ok (.ifCond .ne 10, 3) := by decide +kernel
theorem dX11_reading_24 : decode cX11_reading 24 = .ok (.aload_n 0, 1) := by decide +kernel
theorem dX11_reading_25 : decode cX11_reading 25 = .ok (.bipush (-2), 2) := by decide +kernel
theorem dX11_reading_27 : decode cX11_reading 27 = .ok (.invokevirtual 96, 3) := by decide +kernel
theorem dX11_reading_30 : decode cX11_reading 30 = .ok (.ireturn, 1) := by decide +kernel
theorem dX11_reading_31 : decode cX11_reading 31 = .ok (.aload_n 0, 1) := by decide +kernel
theorem dX11_reading_32 : decode cX11_reading 32 = .ok (.getfield 12, 3) := by decide +kernel
theorem dX11_reading_35 : decode cX11_reading 35 = .ok (.getfield 244, 3) := by decide +kernel
theorem dX11_reading_38 : decode cX11_reading 38 = .ok (.invokevirtual 120, 3) := by decide +kernel
theorem dX11_reading_41 : decode cX11_reading 41 = .ok (.ifCond .eq 12, 3) := by decide +kernel
theorem dX11_reading_44 : decode cX11_reading 44 = .ok (.aload_n 0, 1) := by decide +kernel
theorem dX11_reading_45 : decode cX11_reading 45 = .ok (.bipush (-4), 2) := by decide +kernel
theorem dX11_reading_47 : decode cX11_reading 47 = .ok (.invokevirtual 96, 3) := by decide +kernel
theorem dX11_reading_50 : decode cX11_reading 50 = .ok (.goto 13, 3) := by decide +kernel
theorem dX11_reading_53 : decode cX11_reading 53 = .ok (.aload_n 0, 1) := by decide +kernel
theorem dX11_reading_54 : decode cX11_reading 54 = .ok (.getfield 12, 3) := by decide +kernel
theorem dX11_reading_57 : decode cX11_reading 57 = .ok (.iload_n 1, 1) := by decide +kernel
theorem dX11_reading_58 : decode cX11_reading 58 = .ok (.iload_n 2, 1) := by decide +kernel
theorem dX11_reading_59 : decode cX11_reading 59 = .ok (.iload_n 3, 1) := by decide +kernel
theorem dX11_reading_60 : decode cX11_reading 60 = .ok (.invokevirtual 247, 3) := by decide +kernel
theorem dX11_reading_63 : decode cX11_reading 63 = .ok (.ireturn, 1) := by decide +kernel
theorem dX11_stood_0 : decode cX11_stood 0 = .ok (.iload_n 1, 1) := by decide +kernel
theorem dX11_stood_1 : decode cX11_stood 1 = .ok (.iconst 0, 1) := by decide +kernel
theorem dX11_stood_2 : decode cX11_stood 2 = .ok (.iconst 2, 1) := by decide +kernel
theorem dX11_stood_3 : decode cX11_stood 3 = .ok (.invokestatic 92, 3) := by decide +kernel
theorem dX11_stood_6 : decode cX11_stood 6 = .ok (.ifCond .ne 10, 3) := by decide +kernel
theorem dX11_stood_9 : decode cX11_stood 9 = .ok (.aload_n 0, 1) := by decide +kernel
theorem dX11_stood_10 : decode cX11_stood 10 = .ok (.bipush (-2), 2) := by decide +kernel
theorem dX11_stood_12 : decode cX11_stood 12 = .ok (.invokevirtual 96, 3) := by decide +kernel
theorem dX11_stood_15 : decode cX11_stood 15 = .ok (.ireturn, 1) := by decide +kernel
theorem dX11_stood_16 : decode cX11_stood 16 = .ok (.aload_n 0, 1) := by decide +kernel
theorem dX11_stood_17 : decode cX11_stood 17 = .ok (.getfield 64, 3) := by decide +kernel
theorem dX11_stood_20 : decode cX11_stood 20 = .ok (.aload_n 0, 1) := by decide +kernel
theorem dX11_stood_21 : decode cX11_stood 21 = .ok (.getfield 12, 3) := by decide +kernel
theorem dX11_stood_24 : decode cX11_stood 24 = .ok (.invokevirtual 250, 3) := by decide +kernel
theorem dX11_stood_27 : decode cX11_stood 27 = .ok (.iload_n 1, 1) := by decide +kernel
theorem dX11_stood_28 : decode cX11_stood 28 = .ok (.ifCond .ne 11, 3) := by decide +kernel
theorem dX11_stood_31 : decode cX11_stood 31 = .ok (.aload_n 0, 1) := by decide +kernel
theorem dX11_stood_32 : decode cX11_stood 32 = .ok (.getfield 64, 3) := by decide +kernel
theorem dX11_stood_35 : decode cX11_stood 35 = .ok (.getfield 253, 3) := by decide +kernel
theorem dX11_stood_38 : decode cX11_stood 38 = .ok (.ireturn, 1) := by decide +kernel
theorem dX11_stood_39 : decode cX11_stood 39 = .ok (.iload_n 1, 1) := by decide +kernel
theorem dX11_stood_40 : decode cX11_stood 40 = .ok (.iconst 1, 1) := by decide +kernel
theorem dX11_stood_41 : decode cX11_stood 41 = .ok (.if_icmp .ne 13, 3) := by decide +kernel
theorem dX11_stood_44 : decode cX11_stood 44 = .ok (.aload_n 0, 1) := by decide +kernel
theorem dX11_stood_45 : decode cX11_stood 45 = .ok (.getfield 64, 3) := by decide +kernel
theorem dX11_stood_48 : decode cX11_stood 48 = .ok (.getfield 256, 3) := by decide +kernel
theorem dX11_stood_51 : decode cX11_stood 51 = .ok (.goto 10, 3) := by decide +kernel
theorem dX11_stood_54 : decode cX11_stood 54 = .ok (.aload_n 0, 1) := by decide +kernel
theorem dX11_stood_55 : decode cX11_stood 55 = .ok (.getfield 64, 3) := by decide +kernel
theorem dX11_stood_58 : decode cX11_stood 58 = .ok (.getfield 259, 3) := by decide +kernel
theorem dX11_stood_61 : decode cX11_stood 61 = .ok (.ireturn, 1) := by decide +kernel
theorem dX11_note_0 : decode cX11_note 0 = .ok (.aload_n 0, 1) := by decide +kernel
theorem dX11_note_1 : decode cX11_note 1 = .ok (.iload_n 1, 1) := by decide +kernel
theorem dX11_note_2 : decode cX11_note 2 = .ok (.invokevirtual 151, 3) := by decide +kernel
theorem dX11_note_5 : decode cX11_note 5 = .ok (.ifCond .eq 20, 3) := by decide +kernel
theorem dX11_note_8 : decode cX11_note 8 = .ok (.iload_n 2, 1) := by decide +kernel
theorem dX11_note_9 : decode cX11_note 9 = .ok (.invokestatic 117, 3) := by decide +kernel
theorem dX11_note_12 : decode cX11_note 12 = .ok (.ifCond .eq 13, 3) := by decide +kernel
theorem dX11_note_15 : decode cX11_note 15 = .ok (.iload_n 3, 1) := by decide +kernel
theorem dX11_note_16 : decode cX11_note 16 = .ok (.iconst 0, 1) := by decide +kernel
theorem dX11_note_17 : decode cX11_note 17 = .ok (.bipush 20, 2) := by decide +kernel
theorem dX11_note_19 : decode cX11_note 19 = .ok (.invokestatic 92, 3) := by decide +kernel
theorem dX11_note_22 : decode cX11_note 22 = .ok (.ifCond .ne 10, 3) := by decide +kernel
theorem dX11_note_25 : decode cX11_note 25 = .ok (.aload_n 0, 1) := by decide +kernel
theorem dX11_note_26 : decode cX11_note 26 = .ok (.bipush (-2), 2) := by decide +kernel
theorem dX11_note_28 : decode cX11_note 28 = .ok (.invokevirtual 96, 3) := by decide +kernel
theorem dX11_note_31 : decode cX11_note 31 = .ok (.ireturn, 1) := by decide +kernel
theorem dX11_note_32 : decode cX11_note 32 = .ok (.iload 4, 2) := by decide +kernel
theorem dX11_note_34 : decode cX11_note 34 = .ok (.iconst 0, 1) := by decide +kernel
theorem dX11_note_35 : decode cX11_note 35 = .ok (.bipush 20, 2) := by decide +kernel
theorem dX11_note_37 : decode cX11_note 37 = .ok (.invokestatic 92, 3) := by decide +kernel
theorem dX11_note_40 : decode cX11_note 40 = .ok (.ifCond .eq 15, 3) := by decide +kernel
theorem dX11_note_43 : decode cX11_note 43 = .ok (.iload 5, 2) := by decide +kernel
theorem dX11_note_45 : decode cX11_note 45 = .ok (.iconst 0, 1) := by decide +kernel
theorem dX11_note_46 : decode cX11_note 46 = .ok (.sipush 200, 3) := by decide +kernel
theorem dX11_note_49 : decode cX11_note 49 = .ok (.invokestatic 92, 3) := by decide +kernel
theorem dX11_note_52 : decode cX11_note 52 = .ok (.ifCond .ne 10, 3) := by decide +kernel
theorem dX11_note_55 : decode cX11_note 55 = .ok (.aload_n 0, 1) := by decide +kernel
theorem dX11_note_56 : decode cX11_note 56 = .ok (.bipush (-2), 2) := by decide +kernel
theorem dX11_note_58 : decode cX11_note 58 = .ok (.invokevirtual 96, 3) := by decide +kernel
theorem dX11_note_61 : decode cX11_note 61 = .ok (.ireturn, 1) := by decide +kernel
theorem dX11_note_62 : decode cX11_note 62 = .ok (.aload_n 0, 1) := by decide +kernel
theorem dX11_note_63 : decode cX11_note 63 = .ok (.getfield 12, 3) := by decide +kernel
theorem dX11_note_66 : decode cX11_note 66 = .ok (.getfield 262, 3) := by decide +kernel
theorem dX11_note_69 : decode cX11_note 69 = .ok (.invokevirtual 120, 3) := by decide +kernel
theorem dX11_note_72 : decode cX11_note 72 = .ok (.ifCond .eq 12, 3) := by decide +kernel
theorem dX11_note_75 : decode cX11_note 75 = .ok (.aload_n 0, 1) := by decide +kernel
theorem dX11_note_76 : decode cX11_note 76 = .ok (.bipush (-4), 2) := by decide +kernel
theorem dX11_note_78 : decode cX11_note 78 = .ok (.invokevirtual 96, 3) := by decide +kernel
theorem dX11_note_81 : decode cX11_note 81 = .ok (.goto 17, 3) := by decide +kernel
theorem dX11_note_84 : decode cX11_note 84 = .ok (.aload_n 0, 1) := by decide +kernel
theorem dX11_note_85 : decode cX11_note 85 = .ok (.getfield 12, 3) := by decide +kernel
theorem dX11_note_88 : decode cX11_note 88 = .ok (.iload_n 1, 1) := by decide +kernel
theorem dX11_note_89 : decode cX11_note 89 = .ok (.iload_n 2, 1) := by decide +kernel
theorem dX11_note_90 : decode cX11_note 90 = .ok (.iload_n 3, 1) := by decide +kernel
theorem dX11_note_91 : decode cX11_note 91 = .ok (.iload 4, 2) := by decide +kernel
theorem dX11_note_93 : decode cX11_note 93 = .ok (.iload 5, 2) := by decide +kernel
theorem dX11_note_95 : decode cX11_note 95 = .ok (.invokevirtual 265, 3) := by decide +kernel
theorem dX11_note_98 : decode cX11_note 98 = .ok (.ireturn, 1) := by decide +kernel
theorem dX11_mark_0 : decode cX11_mark 0 = .ok (.aload_n 0, 1) := by decide +kernel
theorem dX11_mark_1 : decode cX11_mark 1 = .ok (.iload_n 1, 1) := by decide +kernel
theorem dX11_mark_2 : decode cX11_mark 2 = .ok (.invokevirtual 161, 3) := by decide +kernel
theorem dX11_mark_5 : decode cX11_mark 5 = .ok (.ifCond .eq 36, 3) := by decide +kernel
theorem dX11_mark_8 : decode cX11_mark 8 = .ok (.iload_n 2, 1) := by decide +kernel
theorem dX11_mark_9 : decode cX11_mark 9 = .ok (.iconst 0, 1) := by decide +kernel
theorem dX11_mark_10 : decode cX11_mark 10 = .ok (.sipush 200, 3) := by decide +kernel
theorem dX11_mark_13 : decode cX11_mark 13 = .ok (.invokestatic 92, 3) := by decide +kernel
theorem dX11_mark_16 : decode cX11_mark 16 = .ok (.ifCond .eq 25, 3) := by decide +kernel
theorem dX11_mark_19 : decode cX11_mark 19 = .ok (.iload_n 3, 1) := by decide +kernel
theorem dX11_mark_20 : decode cX11_mark 20 = .ok (.iconst 0, 1) := by decide +kernel
theorem dX11_mark_21 : decode cX11_mark 21 = .ok (.bipush 99, 2) := by decide +kernel
theorem dX11_mark_23 : decode cX11_mark 23 = .ok (.invokestatic 92, 3) := by decide +kernel
theorem dX11_mark_26 : decode cX11_mark 26 = .ok (.ifCond .eq 15, 3) := by decide +kernel
theorem dX11_mark_29 : decode cX11_mark 29 = .ok (.iload 4, 2) := by decide +kernel
theorem dX11_mark_31 : decode cX11_mark 31 = .ok (.iconst 0, 1) := by decide +kernel
theorem dX11_mark_32 : decode cX11_mark 32 = .ok (.sipush 999, 3) := by decide +kernel
theorem dX11_mark_35 : decode cX11_mark 35 = .ok (.invokestatic 92, 3) := by decide +kernel
theorem dX11_mark_38 : decode cX11_mark 38 = .ok (.ifCond .ne 10, 3) := by decide +kernel
theorem dX11_mark_41 : decode cX11_mark 41 = .ok (.aload_n 0, 1) := by decide +kernel
theorem dX11_mark_42 : decode cX11_mark 42 = .ok (.bipush (-2), 2) := by decide +kernel
theorem dX11_mark_44 : decode cX11_mark 44 = .ok (.invokevirtual 96, 3) := by decide +kernel
theorem dX11_mark_47 : decode cX11_mark 47 = .ok (.ireturn, 1) := by decide +kernel
theorem dX11_mark_48 : decode cX11_mark 48 = .ok (.aload_n 0, 1) := by decide +kernel
theorem dX11_mark_49 : decode cX11_mark 49 = .ok (.getfield 12, 3) := by decide +kernel
theorem dX11_mark_52 : decode cX11_mark 52 = .ok (.getfield 269, 3) := by decide +kernel
theorem dX11_mark_55 : decode cX11_mark 55 = .ok (.invokevirtual 120, 3) := by decide +kernel
theorem dX11_mark_58 : decode cX11_mark 58 = .ok (.ifCond .eq 12, 3) := by decide +kernel
theorem dX11_mark_61 : decode cX11_mark 61 = .ok (.aload_n 0, 1) := by decide +kernel
theorem dX11_mark_62 : decode cX11_mark 62 = .ok (.bipush (-4), 2) := by decide +kernel
theorem dX11_mark_64 : decode cX11_mark 64 = .ok (.invokevirtual 96, 3) := by decide +kernel
theorem dX11_mark_67 : decode cX11_mark 67 = .ok (.goto 15, 3) := by decide +kernel
theorem dX11_mark_70 : decode cX11_mark 70 = .ok (.aload_n 0, 1) := by decide +kernel
theorem dX11_mark_71 : decode cX11_mark 71 = .ok (.getfield 12, 3) := by decide +kernel
theorem dX11_mark_74 : decode cX11_mark 74 = .ok (.iload_n 1, 1) := by decide +kernel
theorem dX11_mark_75 : decode cX11_mark 75 = .ok (.iload_n 2, 1) := by decide +kernel
theorem dX11_mark_76 : decode cX11_mark 76 = .ok (.iload_n 3, 1) := by decide +kernel
theorem dX11_mark_77 : decode cX11_mark 77 = .ok (.iload 4, 2) := by decide +kernel
theorem dX11_mark_79 : decode cX11_mark 79 = .ok (.invokevirtual 272, 3) := by decide +kernel
theorem dX11_mark_82 : decode cX11_mark 82 = .ok (.ireturn, 1) := by decide +kernel
theorem dX11_forget_0 : decode cX11_forget 0 = .ok (.iload_n 1, 1) := by decide +kernel
theorem dX11_forget_1 : decode cX11_forget 1 = .ok (.iconst 0, 1) := by decide +kernel
theorem dX11_forget_2 : decode cX11_forget 2 = .ok (.iconst 2, 1) := by decide +kernel
theorem dX11_forget_3 : decode cX11_forget 3 = .ok (.invokestatic 92, 3) := by decide +kernel
theorem dX11_forget_6 : decode cX11_forget 6 = .ok (.ifCond .ne 10, 3) := by decide +kernel
theorem dX11_forget_9 : decode cX11_forget 9 = .ok (.aload_n 0, 1) := by decide +kernel
theorem dX11_forget_10 : decode cX11_forget 10 = .ok (.bipush (-2), 2) := by decide +kernel
theorem dX11_forget_12 : decode cX11_forget 12 = .ok (.invokevirtual 96, 3) := by decide +kernel
theorem dX11_forget_15 : decode cX11_forget 15 = .ok (.ireturn, 1) := by decide +kernel
theorem dX11_forget_16 : decode cX11_forget 16 = .ok (.iload_n 1, 1) := by decide +kernel
theorem dX11_forget_17 : decode cX11_forget 17 = .ok (.ifCond .ne 14, 3) := by decide +kernel
theorem dX11_forget_20 : decode cX11_forget 20 = .ok (.aload_n 0, 1) := by decide +kernel
theorem dX11_forget_21 : decode cX11_forget 21 = .ok (.getfield 12, 3) := by decide +kernel
theorem dX11_forget_24 : decode cX11_forget 24 = .ok (.getfield 244, 3) := by decide +kernel
theorem dX11_forget_27 : decode cX11_forget 27 = .ok (.invokevirtual 276, 3) := by decide +kernel
theorem dX11_forget_30 : decode cX11_forget 30 = .ok (.ireturn, 1) := by decide +kernel
theorem dX11_forget_31 : decode cX11_forget 31 = .ok (.iload_n 1, 1) := by decide +kernel
theorem dX11_forget_32 : decode cX11_forget 32 = .ok (.iconst 1, 1) := by decide +kernel
theorem dX11_forget_33 : decode cX11_forget 33 = .ok (.if_icmp .ne 16, 3) := by decide +kernel
theorem dX11_forget_36 : decode cX11_forget 36 = .ok (.aload_n 0, 1) := by decide +kernel
theorem dX11_forget_37 : decode cX11_forget 37 = .ok (.getfield 12, 3) := by decide +kernel
theorem dX11_forget_40 : decode cX11_forget 40 = .ok (.getfield 262, 3) := by decide +kernel
theorem dX11_forget_43 : decode cX11_forget 43 = .ok (.invokevirtual 276, 3) := by decide +kernel
theorem dX11_forget_46 : decode cX11_forget 46 = .ok (.goto 13, 3) := by decide +kernel
theorem dX11_forget_49 : decode cX11_forget 49 = .ok (.aload_n 0, 1) := by decide +kernel
theorem dX11_forget_50 : decode cX11_forget 50 = .ok (.getfield 12, 3) := by decide +kernel
theorem dX11_forget_53 : decode cX11_forget 53 = .ok (.getfield 269, 3) := by decide +kernel
theorem dX11_forget_56 : decode cX11_forget 56 = .ok (.invokevirtual 276, 3) := by decide +kernel
theorem dX11_forget_59 : decode cX11_forget 59 = .ok (.ireturn, 1) := by decide +kernel
theorem dX11_is_0 : decode cX11_is 0 = .ok (.aload_n 0, 1) := by decide +kernel
theorem dX11_is_1 : decode cX11_is 1 = .ok (.iload_n 1, 1) := by decide +kernel
theorem dX11_is_2 : decode cX11_is 2 = .ok (.invokevirtual 151, 3) := by decide +kernel
theorem dX11_is_5 : decode cX11_is 5 = .ok (.ifCond .eq 18, 3) := by decide +kernel
theorem dX11_is_8 : decode cX11_is 8 = .ok (.aload_n 0, 1) := by decide +kernel
theorem dX11_is_9 : decode cX11_is 9 = .ok (.getfield 64, 3) := by decide +kernel
theorem dX11_is_12 : decode cX11_is 12 = .ok (.aload_n 0, 1) := by decide +kernel
theorem dX11_is_13 : decode cX11_is 13 = .ok (.getfield 12, 3) := by decide +kernel
theorem dX11_is_16 : decode cX11_is 16 = .ok (.iload_n 1, 1) := by decide +kernel
theorem dX11_is_17 : decode cX11_is 17 = .ok (.invokevirtual 279, 3) := by decide +kernel
theorem dX11_is_20 : decode cX11_is 20 = .ok (.goto 9, 3) := by decide +kernel
theorem dX11_is_23 : decode cX11_is 23 = .ok (.aload_n 0, 1) := by decide +kernel
theorem dX11_is_24 : decode cX11_is 24 = .ok (.bipush (-2), 2) := by decide +kernel
theorem dX11_is_26 : decode cX11_is 26 = .ok (.invokevirtual 96, 3) := by decide +kernel
theorem dX11_is_29 : decode cX11_is 29 = .ok (.ireturn, 1) := by decide +kernel
theorem dX11_look_0 : decode cX11_look 0 = .ok (.aload_n 0, 1) := by decide +kernel
theorem dX11_look_1 : decode cX11_look 1 = .ok (.iload_n 1, 1) := by decide +kernel
theorem dX11_look_2 : decode cX11_look 2 = .ok (.invokevirtual 151, 3) := by decide +kernel
theorem dX11_look_5 : decode cX11_look 5 = .ok (.ifCond .eq 18, 3) := by decide +kernel
theorem dX11_look_8 : decode cX11_look 8 = .ok (.aload_n 0, 1) := by decide +kernel
theorem dX11_look_9 : decode cX11_look 9 = .ok (.getfield 64, 3) := by decide +kernel
theorem dX11_look_12 : decode cX11_look 12 = .ok (.aload_n 0, 1) := by decide +kernel
theorem dX11_look_13 : decode cX11_look 13 = .ok (.getfield 12, 3) := by decide +kernel
theorem dX11_look_16 : decode cX11_look 16 = .ok (.iload_n 1, 1) := by decide +kernel
theorem dX11_look_17 : decode cX11_look 17 = .ok (.invokevirtual 282, 3) := by decide +kernel
theorem dX11_look_20 : decode cX11_look 20 = .ok (.goto 9, 3) := by decide +kernel
theorem dX11_look_23 : decode cX11_look 23 = .ok (.aload_n 0, 1) := by decide +kernel
theorem dX11_look_24 : decode cX11_look 24 = .ok (.bipush (-2), 2) := by decide +kernel
theorem dX11_look_26 : decode cX11_look 26 = .ok (.invokevirtual 96, 3) := by decide +kernel
theorem dX11_look_29 : decode cX11_look 29 = .ok (.ireturn, 1) := by decide +kernel
theorem dX11_kinds_0 : decode cX11_kinds 0 = .ok (.aload_n 0, 1) := by decide +kernel
theorem dX11_kinds_1 : decode cX11_kinds 1 = .ok (.iload_n 1, 1) := by decide +kernel
theorem dX11_kinds_2 : decode cX11_kinds 2 = .ok (.invokevirtual 161, 3) := by decide +kernel
theorem dX11_kinds_5 : decode cX11_kinds 5 = .ok (.ifCond .eq 18, 3) := by decide +kernel
theorem dX11_kinds_8 : decode cX11_kinds 8 = .ok (.aload_n 0, 1) := by decide +kernel
theorem dX11_kinds_9 : decode cX11_kinds 9 = .ok (.getfield 64, 3) := by decide +kernel
theorem dX11_kinds_12 : decode cX11_kinds 12 = .ok (.aload_n 0, 1) := by decide +kernel
theorem dX11_kinds_13 : decode cX11_kinds 13 = .ok (.getfield 12, 3) := by decide +kernel
theorem dX11_kinds_16 : decode cX11_kinds 16 = .ok (.iload_n 1, 1) := by decide +kernel
theorem dX11_kinds_17 : decode cX11_kinds 17 = .ok (.invokevirtual 285, 3) := by decide +kernel
theorem dX11_kinds_20 : decode cX11_kinds 20 = .ok (.goto 9, 3) := by decide +kernel
theorem dX11_kinds_23 : decode cX11_kinds 23 = .ok (.aload_n 0, 1) := by decide +kernel
theorem dX11_kinds_24 : decode cX11_kinds 24 = .ok (.bipush (-2), 2) := by decide +kernel
theorem dX11_kinds_26 : decode cX11_kinds 26 = .ok (.invokevirtual 96, 3) := by decide +kernel
theorem dX11_kinds_29 : decode cX11_kinds 29 = .ok (.ireturn, 1) := by decide +kernel
theorem dX11_tries_0 : decode cX11_tries 0 = .ok (.aload_n 0, 1) := by decide +kernel
theorem dX11_tries_1 : decode cX11_tries 1 = .ok (.iload_n 1, 1) := by decide +kernel
theorem dX11_tries_2 : decode cX11_tries 2 = .ok (.invokevirtual 161, 3) := by decide +kernel
theorem dX11_tries_5 : decode cX11_tries 5 = .ok (.ifCond .eq 18, 3) := by decide +kernel
theorem dX11_tries_8 : decode cX11_tries 8 = .ok (.aload_n 0, 1) := by decide +kernel
theorem dX11_tries_9 : decode cX11_tries 9 = .ok (.getfield 64, 3) := by decide +kernel
theorem dX11_tries_12 : decode cX11_tries 12 = .ok (.aload_n 0, 1) := by decide +kernel
theorem dX11_tries_13 : decode cX11_tries 13 = .ok (.getfield 12, 3) := by decide +kernel
theorem dX11_tries_16 : decode cX11_tries 16 = .ok (.iload_n 1, 1) := by decide +kernel
theorem dX11_tries_17 : decode cX11_tries 17 = .ok (.invokevirtual 288, 3) := by decide +kernel
theorem dX11_tries_20 : decode cX11_tries 20 = .ok (.goto 9, 3) := by decide +kernel
theorem dX11_tries_23 : decode cX11_tries 23 = .ok (.aload_n 0, 1) := by decide +kernel
theorem dX11_tries_24 : decode cX11_tries 24 = .ok (.bipush (-2), 2) := by decide +kernel
theorem dX11_tries_26 : decode cX11_tries 26 = .ok (.invokevirtual 96, 3) := by decide +kernel
theorem dX11_tries_29 : decode cX11_tries 29 = .ok (.ireturn, 1) := by decide +kernel
theorem dX11_parties_0 : decode cX11_parties 0 = .ok (.aload_n 0, 1) := by decide +kernel
theorem dX11_parties_1 : decode cX11_parties 1 = .ok (.iload_n 1, 1) := by decide +kernel
theorem dX11_parties_2 : decode cX11_parties 2 = .ok (.invokevirtual 161, 3) := by decide +kernel
theorem dX11_parties_5 : decode cX11_parties 5 = .ok (.ifCond .ne 10, 3) := by decide +kernel
theorem dX11_parties_8 : decode cX11_parties 8 = .ok (.aload_n 0, 1) := by decide +kernel
theorem dX11_parties_9 : decode cX11_parties 9 = .ok (.bipush (-2), 2) := by decide +kernel
theorem dX11_parties_11 : decode cX11_parties 11 = .ok (.invokevirtual 96, 3) := by decide +kernel
theorem dX11_parties_14 : decode cX11_parties 14 = .ok (.ireturn, 1) := by decide +kernel
theorem dX11_parties_15 : decode cX11_parties 15 = .ok (.aload_n 0, 1) := by decide +kernel
theorem dX11_parties_16 : decode cX11_parties 16 = .ok (.getfield 12, 3) := by decide +kernel
theorem dX11_parties_19 : decode cX11_parties 19 = .ok (.iload_n 1, 1) := by decide +kernel
theorem dX11_parties_20 : decode cX11_parties 20 = .ok (.invokevirtual 164, 3) := by decide +kernel
theorem dX11_parties_23 : decode cX11_parties 23 = .ok (.ifCond .eq 10, 3) := by decide +kernel
theorem dX11_parties_26 : decode cX11_parties 26 = .ok (.aload_n 0, 1) := by decide +kernel
theorem dX11_parties_27 : decode cX11_parties 27 = .ok (.bipush (-3), 2) := by decide +kernel
theorem dX11_parties_29 : decode cX11_parties 29 = .ok (.invokevirtual 96, 3) := by decide +kernel
theorem dX11_parties_32 : decode cX11_parties 32 = .ok (.ireturn, 1) := by decide +kernel
theorem dX11_parties_33 : decode cX11_parties 33 = .ok (.aload_n 0, 1) := by decide +kernel
theorem dX11_parties_34 : decode cX11_parties 34 = .ok (.getfield 12, 3) := by decide +kernel
theorem dX11_parties_37 : decode cX11_parties 37 = .ok (.aload_n 0, 1) := by decide +kernel
theorem dX11_parties_38 : decode cX11_parties 38 = .ok (.getfield 12, 3) := by decide +kernel
theorem dX11_parties_41 : decode cX11_parties 41 = .ok (.getfield 154, 3) := by decide +kernel
theorem dX11_parties_44 : decode cX11_parties 44 = .ok (.iload_n 1, 1) := by decide +kernel
theorem dX11_parties_45 : decode cX11_parties 45 = .ok (.iconst 1, 1) := by decide +kernel
theorem dX11_parties_46 : decode cX11_parties 46 = .ok (.invokevirtual 185, 3) := by decide +kernel
theorem dX11_parties_49 : decode cX11_parties 49 = .ok (.invokevirtual 170, 3) := by decide +kernel
theorem dX11_parties_52 : decode cX11_parties 52 = .ok (.aload_n 0, 1) := by decide +kernel
theorem dX11_parties_53 : decode cX11_parties 53 = .ok (.getfield 12, 3) := by decide +kernel
theorem dX11_parties_56 : decode cX11_parties 56 = .ok (.iload_n 1, 1) := by decide +kernel
theorem dX11_parties_57 : decode cX11_parties 57 = .ok (.invokevirtual 229, 3) := by decide +kernel
theorem dX11_parties_60 : decode cX11_parties 60 = .ok (.invokestatic 291, 3) := by decide +kernel
theorem dX11_parties_63 : decode cX11_parties 63 = .ok (.ireturn, 1) := by decide +kernel
theorem dX11_calms_0 : decode cX11_calms 0 = .ok (.aload_n 0, 1) := by decide +kernel
theorem dX11_calms_1 : decode cX11_calms 1 = .ok (.iload_n 1, 1) := by decide +kernel
theorem dX11_calms_2 : decode cX11_calms 2 = .ok (.invokevirtual 151, 3) := by decide +kernel
theorem dX11_calms_5 : decode cX11_calms 5 = .ok (.ifCond .eq 23, 3) := by decide +kernel
theorem dX11_calms_8 : decode cX11_calms 8 = .ok (.iload_n 2, 1) := by decide +kernel
theorem dX11_calms_9 : decode cX11_calms 9 = .ok (.iconst 0, 1) := by decide +kernel
theorem dX11_calms_10 : decode cX11_calms 10 = .ok (.bipush 8, 2) := by decide +kernel
theorem dX11_calms_12 : decode cX11_calms 12 = .ok (.invokestatic 92, 3) := by decide +kernel
theorem dX11_calms_15 : decode cX11_calms 15 = .ok (.ifCond .eq 13, 3) := by decide +kernel
theorem dX11_calms_18 : decode cX11_calms 18 = .ok (.iload_n 3, 1) := by decide +kernel
theorem dX11_calms_19 : decode cX11_calms 19 = .ok (.iconst 0, 1) := by decide +kernel
theorem dX11_calms_20 : decode cX11_calms 20 = .ok (.bipush 10, 2) := by decide +kernel
theorem dX11_calms_22 : decode cX11_calms 22 = .ok (.invokestatic 92, 3) := by decide +kernel
theorem dX11_calms_25 : decode cX11_calms 25 = .ok (.ifCond .ne 10, 3) := by decide +kernel
theorem dX11_calms_28 : decode cX11_calms 28 = .ok (.aload_n 0, 1) := by decide +kernel
theorem dX11_calms_29 : decode cX11_calms 29 = .ok (.bipush (-2), 2) := by decide +kernel
theorem dX11_calms_31 : decode cX11_calms 31 = .ok (.invokevirtual 96, 3) := by decide +kernel
theorem dX11_calms_34 : decode cX11_calms 34 = .ok (.ireturn, 1) := by decide +kernel
theorem dX11_calms_35 : decode cX11_calms 35 = .ok (.aload_n 0, 1) := by decide +kernel
theorem dX11_calms_36 : decode cX11_calms 36 = .ok (.getfield 71, 3) := by decide +kernel
theorem dX11_calms_39 : decode cX11_calms 39 = .ok (.aload_n 0, 1) := by decide +kernel
theorem dX11_calms_40 : decode cX11_calms 40 = .ok (.getfield 50, 3) := by decide +kernel
theorem dX11_calms_43 : decode cX11_calms 43 = .ok (.aload_n 0, 1) := by decide +kernel
theorem dX11_calms_44 : decode cX11_calms 44 = .ok (.getfield 12, 3) := by decide +kernel
theorem dX11_calms_47 : decode cX11_calms 47 = .ok (.iload_n 1, 1) := by decide +kernel
theorem dX11_calms_48 : decode cX11_calms 48 = .ok (.iload_n 2, 1) := by decide +kernel
theorem dX11_calms_49 : decode cX11_calms 49 = .ok (.invokevirtual 296, 3) := by decide +kernel
theorem dX11_calms_52 : decode cX11_calms 52 = .ok (.i2l, 1) := by decide +kernel
theorem dX11_calms_53 : decode cX11_calms 53 = .ok (.bipush 10, 2) := by decide +kernel
theorem dX11_calms_55 : decode cX11_calms 55 = .ok (.iload_n 3, 1) := by decide +kernel
theorem dX11_calms_56 : decode cX11_calms 56 = .ok (.isub, 1) := by decide +kernel
theorem dX11_calms_57 : decode cX11_calms 57 = .ok (.i2l, 1) := by decide +kernel
theorem dX11_calms_58 : decode cX11_calms 58 = .ok (.lmul, 1) := by decide +kernel
theorem dX11_calms_59 : decode cX11_calms 59 = .ok (.ldc2_w 299, 3) := by decide +kernel
theorem dX11_calms_62 : decode cX11_calms 62 = .ok (.invokevirtual 225, 3) := by decide +kernel
theorem dX11_calms_65 : decode cX11_calms 65 = .ok (.iconst 1, 1) := by decide +kernel
theorem dX11_calms_66 : decode cX11_calms 66 = .ok (.ireturn, 1) := by decide +kernel
theorem dX11_years_0 : decode cX11_years 0 = .ok (.iload_n 1, 1) := by decide +kernel
theorem dX11_years_1 : decode cX11_years 1 = .ok (.iconst 0, 1) := by decide +kernel
theorem dX11_years_2 : decode cX11_years 2 = .ok (.ldc_w 301, 3) := by decide +kernel
theorem dX11_years_5 : decode cX11_years 5 = .ok (.invokestatic 92, 3) := by decide +kernel
theorem dX11_years_8 : decode cX11_years 8 = .ok (.ifCond .eq 29, 3) := by decide +kernel
theorem dX11_years_11 : decode cX11_years 11 = .ok (.iload_n 2, 1) := by decide +kernel
theorem dX11_years_12 : decode cX11_years 12 = .ok (.iconst 0, 1) := by decide +kernel
theorem dX11_years_13 : decode cX11_years 13 = .ok (.bipush 60, 2) := by decide +kernel
theorem dX11_years_15 : decode cX11_years 15 = .ok (.invokestatic 92, 3) := by decide +kernel
theorem dX11_years_18 : decode cX11_years 18 = .ok (.ifCond .eq 19, 3) := by decide +kernel
theorem dX11_years_21 : decode cX11_years 21 = .ok (.aload_n 0, 1) := by decide +kernel
theorem dX11_years_22 : decode cX11_years 22 = .ok (.getfield 50, 3) := by decide +kernel
theorem dX11_years_25 : decode cX11_years 25 = .ok (.aload_n 0, 1) := by decide +kernel
theorem dX11_years_26 : decode cX11_years 26 = .ok (.getfield 12, 3) := by decide +kernel
theorem dX11_years_29 : decode cX11_years 29 = .ok (.iload_n 1, 1) := by decide +kernel
theorem dX11_years_30 : decode cX11_years 30 = .ok (.iload_n 2, 1) := by decide +kernel
theorem dX11_years_31 : decode cX11_years 31 = .ok (.invokevirtual 302, 3) := by decide +kernel
theorem dX11_years_34 : decode cX11_years 34 = .ok (.goto 9, 3) := by decide +kernel
theorem dX11_years_37 : decode cX11_years 37 = .ok (.aload_n 0, 1) := by decide +kernel
theorem dX11_years_38 : decode cX11_years 38 = .ok (.bipush (-2), 2) := by decide +kernel
theorem dX11_years_40 : decode cX11_years 40 = .ok (.invokevirtual 96, 3) := by decide +kernel
theorem dX11_years_43 : decode cX11_years 43 = .ok (.ireturn, 1) := by decide +kernel
theorem dX11_part_0 : decode cX11_part 0 = .ok (.iload_n 1, 1) := by decide +kernel
theorem dX11_part_1 : decode cX11_part 1 = .ok (.iconst 0, 1) := by decide +kernel
theorem dX11_part_2 : decode cX11_part 2 = .ok (.iconst 1, 1) := by decide +kernel
theorem dX11_part_3 : decode cX11_part 3 = .ok (.invokestatic 92, 3) := by decide +kernel
theorem dX11_part_6 : decode cX11_part 6 = .ok (.ifCond .ne 11, 3) := by decide +kernel
theorem dX11_part_9 : decode cX11_part 9 = .ok (.aload_n 0, 1) := by decide +kernel
theorem dX11_part_10 : decode cX11_part 10 = .ok (.bipush (-2), 2) := by decide +kernel
theorem dX11_part_12 : decode cX11_part 12 = .ok (.invokevirtual 96, 3) := by decide +kernel
theorem dX11_part_15 : decode cX11_part 15 = .ok (.i2l, 1) := by decide +kernel
theorem dX11_part_16 : decode cX11_part 16 = .ok (.lreturn, 1) := by decide +kernel
theorem dX11_part_17 : decode cX11_part 17 = .ok (.iload_n 1, 1) := by decide +kernel
theorem dX11_part_18 : decode cX11_part 18 = .ok (.ifCond .ne 13, 3) := by decide +kernel
theorem dX11_part_21 : decode cX11_part 21 = .ok (.aload_n 0, 1) := by decide +kernel
theorem dX11_part_22 : decode cX11_part 22 = .ok (.getfield 71, 3) := by decide +kernel
theorem dX11_part_25 : decode cX11_part 25 = .ok (.getfield 305, 3) := by decide +kernel
theorem dX11_part_28 : decode cX11_part 28 = .ok (.goto 10, 3) := by decide +kernel
theorem dX11_part_31 : decode cX11_part 31 = .ok (.aload_n 0, 1) := by decide +kernel
theorem dX11_part_32 : decode cX11_part 32 = .ok (.getfield 71, 3) := by decide +kernel
theorem dX11_part_35 : decode cX11_part 35 = .ok (.getfield 309, 3) := by decide +kernel
theorem dX11_part_38 : decode cX11_part 38 = .ok (.lreturn, 1) := by decide +kernel
theorem dX11_image_0 : decode cX11_image 0 = .ok (.iload_n 1, 1) := by decide +kernel
theorem dX11_image_1 : decode cX11_image 1 = .ok (.iconst 0, 1) := by decide +kernel
theorem dX11_image_2 : decode cX11_image 2 = .ok (.iconst 1, 1) := by decide +kernel
theorem dX11_image_3 : decode cX11_image 3 = .ok (.invokestatic 92, 3) := by decide +kernel
theorem dX11_image_6 : decode cX11_image 6 = .ok (.ifCond .ne 10, 3) := by decide +kernel
theorem dX11_image_9 : decode cX11_image 9 = .ok (.aload_n 0, 1) := by decide +kernel
theorem dX11_image_10 : decode cX11_image 10 = .ok (.bipush (-2), 2) := by decide +kernel
theorem dX11_image_12 : decode cX11_image 12 = .ok (.invokevirtual 96, 3) := by decide +kernel
theorem dX11_image_15 : decode cX11_image 15 = .ok (.ireturn, 1) := by decide +kernel
theorem dX11_image_16 : decode cX11_image 16 = .ok (.iload_n 1, 1) := by decide +kernel
theorem dX11_image_17 : decode cX11_image 17 = .ok (.ifCond .ne 22, 3) := by decide +kernel
theorem dX11_image_20 : decode cX11_image 20 = .ok (.aload_n 0, 1) := by decide +kernel
theorem dX11_image_21 : decode cX11_image 21 = .ok (.getfield 16, 3) := by decide +kernel
theorem dX11_image_24 : decode cX11_image 24 = .ok (.aload_n 0, 1) := by decide +kernel
theorem dX11_image_25 : decode cX11_image 25 = .ok (.getfield 12, 3) := by decide +kernel
theorem dX11_image_28 : decode cX11_image 28 = .ok (.invokevirtual 140, 3) := by decide +kernel
theorem dX11_image_31 : decode cX11_image 31 = .ok (.aload_n 0, 1) := by decide +kernel
theorem dX11_image_32 : decode cX11_image 32 = .ok (.iconst 1, 1) := by decide +kernel
theorem dX11_image_33 : decode cX11_image 33 = .ok (.putfield 312, 3) := by decide +kernel
theorem dX11_image_36 : decode cX11_image 36 = .ok (.goto 19, 3) := by decide +kernel
theorem dX11_image_39 : decode cX11_image 39 = .ok (.aload_n 0, 1) := by decide +kernel
theorem dX11_image_40 : decode cX11_image 40 = .ok (.getfield 19, 3) := by decide +kernel
theorem dX11_image_43 : decode cX11_image 43 = .ok (.aload_n 0, 1) := by decide +kernel
theorem dX11_image_44 : decode cX11_image 44 = .ok (.getfield 12, 3) := by decide +kernel
theorem dX11_image_47 : decode cX11_image 47 = .ok (.invokevirtual 140, 3) := by decide +kernel
theorem dX11_image_50 : decode cX11_image 50 = .ok (.aload_n 0, 1) := by decide +kernel
theorem dX11_image_51 : decode cX11_image 51 = .ok (.iconst 1, 1) := by decide +kernel
theorem dX11_image_52 : decode cX11_image 52 = .ok (.putfield 316, 3) := by decide +kernel
theorem dX11_image_55 : decode cX11_image 55 = .ok (.iconst 1, 1) := by decide +kernel
theorem dX11_image_56 : decode cX11_image 56 = .ok (.ireturn, 1) := by decide +kernel
theorem dX11_from_0 : decode cX11_from 0 = .ok (.iload_n 1, 1) := by decide +kernel
theorem dX11_from_1 : decode cX11_from 1 = .ok (.iconst 0, 1) := by decide +kernel
theorem dX11_from_2 : decode cX11_from 2 = .ok (.iconst 1, 1) := by decide +kernel
theorem dX11_from_3 : decode cX11_from 3 = .ok (.invokestatic 92, 3) := by decide +kernel
theorem dX11_from_6 : decode cX11_from 6 = .ok (.ifCond .ne 10, 3) := by decide +kernel
theorem dX11_from_9 : decode cX11_from 9 = .ok (.aload_n 0, 1) := by decide +kernel
theorem dX11_from_10 : decode cX11_from 10 = .ok (.bipush (-2), 2) := by decide +kernel
theorem dX11_from_12 : decode cX11_from 12 = .ok (.invokevirtual 96, 3) := by decide +kernel
theorem dX11_from_15 : decode cX11_from 15 = .ok (.ireturn, 1) := by decide +kernel
theorem dX11_from_16 : decode cX11_from 16 = .ok (.iload_n 1, 1) := by decide +kernel
theorem dX11_from_17 : decode cX11_from 17 = .ok (.ifCond .ne 10, 3) := by decide +kernel
theorem dX11_from_20 : decode cX11_from 20 = .ok (.aload_n 0, 1) := by decide +kernel
theorem dX11_from_21 : decode cX11_from 21 = .ok (.getfield 312, 3) := by decide +kernel
theorem dX11_from_24 : decode cX11_from 24 = .ok (.goto 7, 3) := by decide +kernel
theorem dX11_from_27 : decode cX11_from 27 = .ok (.aload_n 0, 1) := by decide +kernel
theorem dX11_from_28 : decode cX11_from 28 = .ok (.getfield 316, 3) := by decide +kernel
theorem dX11_from_31 : decode cX11_from 31 = .ok (.istore_n 2, 1) := by decide +kernel
theorem dX11_from_32 : decode cX11_from 32 = .ok (.iload_n 2, 1) := by decide +kernel
theorem dX11_from_33 : decode cX11_from 33 = .ok (.ifCond .ne 10, 3) := by decide +kernel
theorem dX11_from_36 : decode cX11_from 36 = .ok (.aload_n 0, 1) := by decide +kernel
theorem dX11_from_37 : decode cX11_from 37 = .ok (.bipush (-3), 2) := by decide +kernel
theorem dX11_from_39 : decode cX11_from 39 = .ok (.invokevirtual 96, 3) := by decide +kernel
theorem dX11_from_42 : decode cX11_from 42 = .ok (.ireturn, 1) := by decide +kernel
theorem dX11_from_43 : decode cX11_from 43 = .ok (.aload_n 0, 1) := by decide +kernel
theorem dX11_from_44 : decode cX11_from 44 = .ok (.getfield 12, 3) := by decide +kernel
theorem dX11_from_47 : decode cX11_from 47 = .ok (.iload_n 1, 1) := by decide +kernel
theorem dX11_from_48 : decode cX11_from 48 = .ok (.ifCond .ne 10, 3) := by decide +kernel
theorem dX11_from_51 : decode cX11_from 51 = .ok (.aload_n 0, 1) := by decide +kernel
theorem dX11_from_52 : decode cX11_from 52 = .ok (.getfield 16, 3) := by decide +kernel
theorem dX11_from_55 : decode cX11_from 55 = .ok (.goto 7, 3) := by decide +kernel
theorem dX11_from_58 : decode cX11_from 58 = .ok (.aload_n 0, 1) := by decide +kernel
theorem dX11_from_59 : decode cX11_from 59 = .ok (.getfield 19, 3) := by decide +kernel
theorem dX11_from_62 : decode cX11_from 62 = .ok (.invokevirtual 140, 3) := by decide +kernel
theorem dX11_from_65 : decode cX11_from 65 = .ok (.iconst 1, 1) := by decide +kernel
theorem dX11_from_66 : decode cX11_from 66 = .ok (.ireturn, 1) := by decide +kernel
theorem dX11_status_0 : decode cX11_status 0 = .ok (.iload_n 1, 1) := by decide +kernel
theorem dX11_status_1 : decode cX11_status 1 = .ok (.tableswitch 42 0 2 #[27, 32, 37], 27) := by decide +kernel
theorem dX11_status_28 : decode cX11_status 28 = .ok (.aload_n 0, 1) := by decide +kernel
theorem dX11_status_29 : decode cX11_status 29 = .ok (.getfield 319, 3) := by decide +kernel
theorem dX11_status_32 : decode cX11_status 32 = .ok (.ireturn, 1) := by decide +kernel
theorem dX11_status_33 : decode cX11_status 33 = .ok (.aload_n 0, 1) := by decide +kernel
theorem dX11_status_34 : decode cX11_status 34 = .ok (.getfield 322, 3) := by decide +kernel
theorem dX11_status_37 : decode cX11_status 37 = .ok (.ireturn, 1) := by decide +kernel
theorem dX11_status_38 : decode cX11_status 38 = .ok (.aload_n 0, 1) := by decide +kernel
theorem dX11_status_39 : decode cX11_status 39 = .ok (.getfield 325, 3) := by decide +kernel
theorem dX11_status_42 : decode cX11_status 42 = .ok (.ireturn, 1) := by decide +kernel
theorem dX11_status_43 : decode cX11_status 43 = .ok (.aload_n 0, 1) := by decide +kernel
theorem dX11_status_44 : decode cX11_status 44 = .ok (.bipush (-2), 2) := by decide +kernel
theorem dX11_status_46 : decode cX11_status 46 = .ok (.invokevirtual 96, 3) := by decide +kernel
theorem dX11_status_49 : decode cX11_status 49 = .ok (.pop, 1) := by decide +kernel
theorem dX11_status_50 : decode cX11_status 50 = .ok (.iconst (-1), 1) := by decide +kernel
theorem dX11_status_51 : decode cX11_status 51 = .ok (.ireturn, 1) := by decide +kernel
theorem dX11_count_0 : decode cX11_count 0 = .ok (.iload_n 1, 1) := by decide +kernel
theorem dX11_count_1 : decode cX11_count 1 = .ok (.iconst 0, 1) := by decide +kernel
theorem dX11_count_2 : decode cX11_count 2 = .ok (.bipush 9, 2) := by decide +kernel
theorem dX11_count_4 : decode cX11_count 4 = .ok (.invokestatic 92, 3) := by decide +kernel
theorem dX11_count_7 : decode cX11_count 7 = .ok (.ifCond .eq 11, 3) := by decide +kernel
theorem dX11_count_10 : decode cX11_count 10 = .ok (.aload_n 0, 1) := by decide +kernel
theorem dX11_count_11 : decode cX11_count 11 = .ok (.iload_n 1, 1) := by decide +kernel
theorem dX11_count_12 : decode cX11_count 12 = .ok (.invokevirtual 328, 3) := by decide +kernel
theorem dX11_count_15 : decode cX11_count 15 = .ok (.goto 9, 3) := by decide +kernel
theorem dX11_count_18 : decode cX11_count 18 = .ok (.aload_n 0, 1) := by decide +kernel
theorem dX11_count_19 : decode cX11_count 19 = .ok (.bipush (-2), 2) := by decide +kernel
theorem dX11_count_21 : decode cX11_count 21 = .ok (.invokevirtual 96, 3) := by decide +kernel
theorem dX11_count_24 : decode cX11_count 24 = .ok (.ireturn, 1) := by decide +kernel
theorem dX11_digest_0 : decode cX11_digest 0 = .ok (.ldc2_w 331, 3) := by decide +kernel
theorem dX11_digest_3 : decode cX11_digest 3 = .ok (.lstore_n 1, 1) := by decide +kernel
theorem dX11_digest_4 : decode cX11_digest 4 = .ok (.iconst 0, 1) := by decide +kernel
theorem dX11_digest_5 : decode cX11_digest 5 = .ok (.istore_n 3, 1) := by decide +kernel
theorem dX11_digest_6 : decode cX11_digest 6 = .ok (.iload_n 3, 1) := by decide +kernel
theorem dX11_digest_7 : decode cX11_digest 7 = .ok (.bipush 10, 2) := by decide +kernel
theorem dX11_digest_9 : decode cX11_digest 9 = .ok (.if_icmp .ge 22, 3) := by decide +kernel
theorem dX11_digest_12 : decode cX11_digest 12 = .ok (.ldc2_w 333, 3) := by decide +kernel
theorem dX11_digest_15 : decode cX11_digest 15 = .ok (.lload_n 1, 1) := by decide +kernel
theorem dX11_digest_16 : decode cX11_digest 16 = .ok (.lmul, 1) := by decide +kernel
theorem dX11_digest_17 : decode cX11_digest 17 = .ok (.aload_n 0, 1) := by decide +kernel
theorem dX11_digest_18 : decode cX11_digest 18 = .ok (.iload_n 3, 1) := by decide +kernel
theorem dX11_digest_19 : decode cX11_digest 19 = .ok (.invokevirtual 328, 3) := by decide +kernel
theorem dX11_digest_22 : decode cX11_digest 22 = .ok (.i2l, 1) := by decide +kernel
theorem dX11_digest_23 : decode cX11_digest 23 = .ok (.ladd, 1) := by decide +kernel
theorem dX11_digest_24 : decode cX11_digest 24 = .ok (.lstore_n 1, 1) := by decide +kernel
theorem dX11_digest_25 : decode cX11_digest 25 = .ok (.iinc 3 1, 3) := by decide +kernel
theorem dX11_digest_28 : decode cX11_digest 28 = .ok (.goto (-22), 3) := by decide +kernel
theorem dX11_digest_31 : decode cX11_digest 31 = .ok (.iconst 0, 1) := by decide +kernel
theorem dX11_digest_32 : decode cX11_digest 32 = .ok (.istore_n 3, 1) := by decide +kernel
theorem dX11_digest_33 : decode cX11_digest 33 = .ok (.iload_n 3, 1) := by decide +kernel
theorem dX11_digest_34 : decode cX11_digest 34 = .ok (.bipush 8, 2) := by decide +kernel
theorem dX11_digest_36 : decode cX11_digest 36 = .ok (.if_icmp .ge 43, 3) := by decide +kernel
theorem dX11_digest_39 : decode cX11_digest 39 = .ok (.ldc2_w 333, 3) := by decide +kernel
theorem dX11_digest_42 : decode cX11_digest 42 = .ok (.lload_n 1, 1) := by decide +kernel
theorem dX11_digest_43 : decode cX11_digest 43 = .ok (.lmul, 1) := by decide +kernel
theorem dX11_digest_44 : decode cX11_digest 44 = .ok (.aload_n 0, 1) := by decide +kernel
theorem dX11_digest_45 : decode cX11_digest 45 = .ok (.getfield 12, 3) := by decide +kernel
theorem dX11_digest_48 : decode cX11_digest 48 = .ok (.getfield 100, 3) := by decide +kernel
theorem dX11_digest_51 : decode cX11_digest 51 = .ok (.iload_n 3, 1) := by decide +kernel
theorem dX11_digest_52 : decode cX11_digest 52 = .ok (.iaload, 1) := by decide +kernel
theorem dX11_digest_53 : decode cX11_digest 53 = .ok (.i2l, 1) := by decide +kernel
theorem dX11_digest_54 : decode cX11_digest 54 = .ok (.ladd, 1) := by decide +kernel
theorem dX11_digest_55 : decode cX11_digest 55 = .ok (.lstore_n 1, 1) := by decide +kernel
theorem dX11_digest_56 : decode cX11_digest 56 = .ok (.ldc2_w 333, 3) := by decide +kernel
theorem dX11_digest_59 : decode cX11_digest 59 = .ok (.lload_n 1, 1) := by decide +kernel
theorem dX11_digest_60 : decode cX11_digest 60 = .ok (.lmul, 1) := by decide +kernel
theorem dX11_digest_61 : decode cX11_digest 61 = .ok (.aload_n 0, 1) := by decide +kernel
theorem dX11_digest_62 : decode cX11_digest 62 = .ok (.getfield 12, 3) := by decide +kernel
theorem dX11_digest_65 : decode cX11_digest 65 = .ok (.getfield 104, 3) := by decide +kernel
theorem dX11_digest_68 : decode cX11_digest 68 = .ok (.iload_n 3, 1) := by decide +kernel
theorem dX11_digest_69 : decode cX11_digest 69 = .ok (.iaload, 1) := by decide +kernel
theorem dX11_digest_70 : decode cX11_digest 70 = .ok (.i2l, 1) := by decide +kernel
theorem dX11_digest_71 : decode cX11_digest 71 = .ok (.ladd, 1) := by decide +kernel
theorem dX11_digest_72 : decode cX11_digest 72 = .ok (.lstore_n 1, 1) := by decide +kernel
theorem dX11_digest_73 : decode cX11_digest 73 = .ok (.iinc 3 1, 3) := by decide +kernel
theorem dX11_digest_76 : decode cX11_digest 76 = .ok (.goto (-43), 3) := by decide +kernel
theorem dX11_digest_79 : decode cX11_digest 79 = .ok (.aload_n 0, 1) := by decide +kernel
theorem dX11_digest_80 : decode cX11_digest 80 = .ok (.getfield 12, 3) := by decide +kernel
theorem dX11_digest_83 : decode cX11_digest 83 = .ok (.getfield 75, 3) := by decide +kernel
theorem dX11_digest_86 : decode cX11_digest 86 = .ok (.lload_n 1, 1) := by decide +kernel
theorem dX11_digest_87 : decode cX11_digest 87 = .ok (.invokevirtual 335, 3) := by decide +kernel
theorem dX11_digest_90 : decode cX11_digest 90 = .ok (.lstore_n 1, 1) := by decide +kernel
theorem dX11_digest_91 : decode cX11_digest 91 = .ok (.aload_n 0, 1) := by decide +kernel
theorem dX11_digest_92 : decode cX11_digest 92 = .ok (.getfield 12, 3) := by decide +kernel
theorem dX11_digest_95 : decode cX11_digest 95 = .ok (.getfield 154, 3) := by decide +kernel
theorem dX11_digest_98 : decode cX11_digest 98 = .ok (.lload_n 1, 1) := by decide +kernel
theorem dX11_digest_99 : decode cX11_digest 99 = .ok (.invokevirtual 335, 3) := by decide +kernel
theorem dX11_digest_102 : decode cX11_digest 102 = .ok (.lstore_n 1, 1) := by decide +kernel
theorem dX11_digest_103 : decode cX11_digest 103 = .ok (.aload_n 0, 1) := by decide +kernel
theorem dX11_digest_104 : decode cX11_digest 104 = .ok (.getfield 12, 3) := by decide +kernel
theorem dX11_digest_107 : decode cX11_digest 107 = .ok (.getfield 244, 3) := by decide +kernel
theorem dX11_digest_110 : decode cX11_digest 110 = .ok (.lload_n 1, 1) := by decide +kernel
theorem dX11_digest_111 : decode cX11_digest 111 = .ok (.invokevirtual 335, 3) := by decide +kernel
theorem dX11_digest_114 : decode cX11_digest 114 = .ok (.lstore_n 1, 1) := by decide +kernel
theorem dX11_digest_115 : decode cX11_digest 115 = .ok (.aload_n 0, 1) := by decide +kernel
theorem dX11_digest_116 : decode cX11_digest 116 = .ok (.getfield 12, 3) := by decide +kernel
theorem dX11_digest_119 : decode cX11_digest 119 = .ok (.getfield 262, 3) := by decide +kernel
theorem dX11_digest_122 : decode cX11_digest 122 = .ok (.lload_n 1, 1) := by decide +kernel
theorem dX11_digest_123 : decode cX11_digest 123 = .ok (.invokevirtual 335, 3) := by decide +kernel
theorem dX11_digest_126 : decode cX11_digest 126 = .ok (.lstore_n 1, 1) := by decide +kernel
theorem dX11_digest_127 : decode cX11_digest 127 = .ok (.aload_n 0, 1) := by decide +kernel
theorem dX11_digest_128 : decode cX11_digest 128 = .ok (.getfield 12, 3) := by decide +kernel
theorem dX11_digest_131 : decode cX11_digest 131 = .ok (.getfield 269, 3) := by decide +kernel
theorem dX11_digest_134 : decode cX11_digest 134 = .ok (.lload_n 1, 1) := by decide +kernel
theorem dX11_digest_135 : decode cX11_digest 135 = .ok (.invokevirtual 335, 3) := by decide +kernel
theorem dX11_digest_138 : decode cX11_digest 138 = .ok (.lstore_n 1, 1) := by decide +kernel
theorem dX11_digest_139 : decode cX11_digest 139 = .ok (.ldc2_w 333, 3) := by decide +kernel
theorem dX11_digest_142 : decode cX11_digest 142 = .ok (.lload_n 1, 1) := by decide +kernel
theorem dX11_digest_143 : decode cX11_digest 143 = .ok (.lmul, 1) := by decide +kernel
theorem dX11_digest_144 : decode cX11_digest 144 = .ok (.aload_n 0, 1) := by decide +kernel
theorem dX11_digest_145 : decode cX11_digest 145 = .ok (.getfield 71, 3) := by decide +kernel
theorem dX11_digest_148 : decode cX11_digest 148 = .ok (.getfield 305, 3) := by decide +kernel
theorem dX11_digest_151 : decode cX11_digest 151 = .ok (.ladd, 1) := by decide +kernel
theorem dX11_digest_152 : decode cX11_digest 152 = .ok (.lstore_n 1, 1) := by decide +kernel
theorem dX11_digest_153 : decode cX11_digest 153 = .ok (.ldc2_w 333, 3) := by decide +kernel
theorem dX11_digest_156 : decode cX11_digest 156 = .ok (.lload_n 1, 1) := by decide +kernel
theorem dX11_digest_157 : decode cX11_digest 157 = .ok (.lmul, 1) := by decide +kernel
theorem dX11_digest_158 : decode cX11_digest 158 = .ok (.aload_n 0, 1) := by decide +kernel
theorem dX11_digest_159 : decode cX11_digest 159 = .ok (.getfield 71, 3) := by decide +kernel
theorem dX11_digest_162 : decode cX11_digest 162 = .ok (.getfield 309, 3) := by decide +kernel
theorem dX11_digest_165 : decode cX11_digest 165 = .ok (.ladd, 1) := by decide +kernel
theorem dX11_digest_166 : decode cX11_digest 166 = .ok (.lreturn, 1) := by decide +kernel
theorem dX11_howMany_0 : decode cX11_howMany 0 = .ok (.iload_n 1, 1) := by decide +kernel
theorem dX11_howMany_1 : decode cX11_howMany 1 = .ok (.tableswitch 153 0 9 #[55, 66, 77, 85, 93, 101, 112, 123, 134, 145], 55) := by decide +kernel
theorem dX11_howMany_56 : decode cX11_howMany 56 = .ok (.aload_n 0, 1) := by decide +kernel
theorem dX11_howMany_57 : decode cX11_howMany 57 = .ok (.getfield 12, 3) := by decide +kernel
theorem dX11_howMany_60 : decode cX11_howMany 60 = .ok (.getfield 75, 3) := by decide +kernel
theorem dX11_howMany_63 : decode cX11_howMany 63 = .ok (.getfield 79, 3) := by decide +kernel
theorem dX11_howMany_66 : decode cX11_howMany 66 = .ok (.ireturn, 1) := by decide +kernel
theorem dX11_howMany_67 : decode cX11_howMany 67 = .ok (.aload_n 0, 1) := by decide +kernel
theorem dX11_howMany_68 : decode cX11_howMany 68 = .ok (.getfield 12, 3) := by decide +kernel
theorem dX11_howMany_71 : decode cX11_howMany 71 = .ok (.getfield 154, 3) := by decide +kernel
theorem dX11_howMany_74 : decode cX11_howMany 74 = .ok (.getfield 79, 3) := by decide +kernel
theorem dX11_howMany_77 : decode cX11_howMany 77 = .ok (.ireturn, 1) := by decide +kernel
theorem dX11_howMany_78 : decode cX11_howMany 78 = .ok (.aload_n 0, 1) := by decide +kernel
theorem dX11_howMany_79 : decode cX11_howMany 79 = .ok (.getfield 12, 3) := by decide +kernel
theorem dX11_howMany_82 : decode cX11_howMany 82 = .ok (.getfield 182, 3) := by decide +kernel
theorem dX11_howMany_85 : decode cX11_howMany 85 = .ok (.ireturn, 1) := by decide +kernel
theorem dX11_howMany_86 : decode cX11_howMany 86 = .ok (.aload_n 0, 1) := by decide +kernel
theorem dX11_howMany_87 : decode cX11_howMany 87 = .ok (.getfield 12, 3) := by decide +kernel
theorem dX11_howMany_90 : decode cX11_howMany 90 = .ok (.invokevirtual 339, 3) := by decide +kernel
theorem dX11_howMany_93 : decode cX11_howMany 93 = .ok (.ireturn, 1) := by decide +kernel
theorem dX11_howMany_94 : decode cX11_howMany 94 = .ok (.aload_n 0, 1) := by decide +kernel
theorem dX11_howMany_95 : decode cX11_howMany 95 = .ok (.getfield 12, 3) := by decide +kernel
theorem dX11_howMany_98 : decode cX11_howMany 98 = .ok (.getfield 342, 3) := by decide +kernel
theorem dX11_howMany_101 : decode cX11_howMany 101 = .ok (.ireturn, 1) := by decide +kernel
theorem dX11_howMany_102 : decode cX11_howMany 102 = .ok (.aload_n 0, 1) := by decide +kernel
theorem dX11_howMany_103 : decode cX11_howMany 103 = .ok (.getfield 12, 3) := by decide +kernel
theorem dX11_howMany_106 : decode cX11_howMany 106 = .ok (.getfield 244, 3) := by decide +kernel
theorem dX11_howMany_109 : decode cX11_howMany 109 = .ok (.getfield 79, 3) := by decide +kernel
theorem dX11_howMany_112 : decode cX11_howMany 112 = .ok (.ireturn, 1) := by decide +kernel
theorem dX11_howMany_113 : decode cX11_howMany 113 = .ok (.aload_n 0, 1) := by decide +kernel
theorem dX11_howMany_114 : decode cX11_howMany 114 = .ok (.getfield 12, 3) := by decide +kernel
theorem dX11_howMany_117 : decode cX11_howMany 117 = .ok (.getfield 262, 3) := by decide +kernel
theorem dX11_howMany_120 : decode cX11_howMany 120 = .ok (.getfield 79, 3) := by decide +kernel
theorem dX11_howMany_123 : decode cX11_howMany 123 = .ok (.ireturn, 1) := by decide +kernel
theorem dX11_howMany_124 : decode cX11_howMany 124 = .ok (.aload_n 0, 1) := by decide +kernel
theorem dX11_howMany_125 : decode cX11_howMany 125 = .ok (.getfield 12, 3) := by decide +kernel
theorem dX11_howMany_128 : decode cX11_howMany 128 = .ok (.getfield 269, 3) := by decide +kernel
theorem dX11_howMany_131 : decode cX11_howMany 131 = .ok (.getfield 79, 3) := by decide +kernel
theorem dX11_howMany_134 : decode cX11_howMany 134 = .ok (.ireturn, 1) := by decide +kernel
theorem dX11_howMany_135 : decode cX11_howMany 135 = .ok (.aload_n 0, 1) := by decide +kernel
theorem dX11_howMany_136 : decode cX11_howMany 136 = .ok (.getfield 12, 3) := by decide +kernel
theorem dX11_howMany_139 : decode cX11_howMany 139 = .ok (.getfield 176, 3) := by decide +kernel
theorem dX11_howMany_142 : decode cX11_howMany 142 = .ok (.getfield 79, 3) := by decide +kernel
theorem dX11_howMany_145 : decode cX11_howMany 145 = .ok (.ireturn, 1) := by decide +kernel
theorem dX11_howMany_146 : decode cX11_howMany 146 = .ok (.aload_n 0, 1) := by decide +kernel
theorem dX11_howMany_147 : decode cX11_howMany 147 = .ok (.getfield 25, 3) := by decide +kernel
theorem dX11_howMany_150 : decode cX11_howMany 150 = .ok (.getfield 132, 3) := by decide +kernel
theorem dX11_howMany_153 : decode cX11_howMany 153 = .ok (.ireturn, 1) := by decide +kernel
theorem dX11_howMany_154 : decode cX11_howMany 154 = .ok (.iconst 0, 1) := by decide +kernel
theorem dX11_howMany_155 : decode cX11_howMany 155 = .ok (.ireturn, 1) := by decide +kernel
theorem dX11_refuse_0 : decode cX11_refuse 0 = .ok (.iload_n 1, 1) := by decide +kernel
theorem dX11_refuse_1 : decode cX11_refuse 1 = .ok (.bipush (-2), 2) := by decide +kernel
theorem dX11_refuse_3 : decode cX11_refuse 3 = .ok (.if_icmp .ne 16, 3) := by decide +kernel
theorem dX11_refuse_6 : decode cX11_refuse 6 = .ok (.aload_n 0, 1) := by decide +kernel
theorem dX11_refuse_7 : decode cX11_refuse 7 = .ok (.dup, 1) := by decide +kernel
theorem dX11_refuse_8 : decode cX11_refuse 8 = .ok (.getfield 319, 3) := by decide +kernel
theorem dX11_refuse_11 : decode cX11_refuse 11 = .ok (.iconst 1, 1) := by decide +kernel
theorem dX11_refuse_12 : decode cX11_refuse 12 = .ok (.iadd, 1) := by decide +kernel
theorem dX11_refuse_13 : decode cX11_refuse 13 = .ok (.putfield 319, 3) := by decide +kernel
theorem dX11_refuse_16 : decode cX11_refuse 16 = .ok (.goto 32, 3) := by decide +kernel
theorem dX11_refuse_19 : decode cX11_refuse 19 = .ok (.iload_n 1, 1) := by decide +kernel
theorem dX11_refuse_20 : decode cX11_refuse 20 = .ok (.bipush (-3), 2) := by decide +kernel
theorem dX11_refuse_22 : decode cX11_refuse 22 = .ok (.if_icmp .ne 16, 3) := by decide +kernel
theorem dX11_refuse_25 : decode cX11_refuse 25 = .ok (.aload_n 0, 1) := by decide +kernel
theorem dX11_refuse_26 : decode cX11_refuse 26 = .ok (.dup, 1) := by decide +kernel
theorem dX11_refuse_27 : decode cX11_refuse 27 = .ok (.getfield 322, 3) := by decide +kernel
theorem dX11_refuse_30 : decode cX11_refuse 30 = .ok (.iconst 1, 1) := by decide +kernel
theorem dX11_refuse_31 : decode cX11_refuse 31 = .ok (.iadd, 1) := by decide +kernel
theorem dX11_refuse_32 : decode cX11_refuse 32 = .ok (.putfield 322, 3) := by decide +kernel
theorem dX11_refuse_35 : decode cX11_refuse 35 = .ok (.goto 13, 3) := by decide +kernel
theorem dX11_refuse_38 : decode cX11_refuse 38 = .ok (.aload_n 0, 1) := by decide +kernel
theorem dX11_refuse_39 : decode cX11_refuse 39 = .ok (.dup, 1) := by decide +kernel
theorem dX11_refuse_40 : decode cX11_refuse 40 = .ok (.getfield 325, 3) := by decide +kernel
theorem dX11_refuse_43 : decode cX11_refuse 43 = .ok (.iconst 1, 1) := by decide +kernel
theorem dX11_refuse_44 : decode cX11_refuse 44 = .ok (.iadd, 1) := by decide +kernel
theorem dX11_refuse_45 : decode cX11_refuse 45 = .ok (.putfield 325, 3) := by decide +kernel
theorem dX11_refuse_48 : decode cX11_refuse 48 = .ok (.iload_n 1, 1) := by decide +kernel
theorem dX11_refuse_49 : decode cX11_refuse 49 = .ok (.ireturn, 1) := by decide +kernel
theorem dX11_isUser_0 : decode cX11_isUser 0 = .ok (.iload_n 1, 1) := by decide +kernel
theorem dX11_isUser_1 : decode cX11_isUser 1 = .ok (.iconst 0, 1) := by decide +kernel
theorem dX11_isUser_2 : decode cX11_isUser 2 = .ok (.aload_n 0, 1) := by decide +kernel
theorem dX11_isUser_3 : decode cX11_isUser 3 = .ok (.getfield 12, 3) := by decide +kernel
theorem dX11_isUser_6 : decode cX11_isUser 6 = .ok (.getfield 75, 3) := by decide +kernel
theorem dX11_isUser_9 : decode cX11_isUser 9 = .ok (.getfield 79, 3) := by decide +kernel
theorem dX11_isUser_12 : decode cX11_isUser 12 = .ok (.iconst 1, 1) := by decide +kernel
theorem dX11_isUser_13 : decode cX11_isUser 13 = .ok (.isub, 1) := by decide +kernel
theorem dX11_isUser_14 : decode cX11_isUser 14 = .ok (.invokestatic 92, 3) := by decide +kernel
theorem dX11_isUser_17 : decode cX11_isUser 17 = .ok (.ireturn, 1) := by decide +kernel
theorem dX11_isSuit_0 : decode cX11_isSuit 0 = .ok (.iload_n 1, 1) := by decide +kernel
theorem dX11_isSuit_1 : decode cX11_isSuit 1 = .ok (.iconst 0, 1) := by decide +kernel
theorem dX11_isSuit_2 : decode cX11_isSuit 2 = .ok (.aload_n 0, 1) := by decide +kernel
theorem dX11_isSuit_3 : decode cX11_isSuit 3 = .ok (.getfield 12, 3) := by decide +kernel
theorem dX11_isSuit_6 : decode cX11_isSuit 6 = .ok (.getfield 154, 3) := by decide +kernel
theorem dX11_isSuit_9 : decode cX11_isSuit 9 = .ok (.getfield 79, 3) := by decide +kernel
theorem dX11_isSuit_12 : decode cX11_isSuit 12 = .ok (.iconst 1, 1) := by decide +kernel
theorem dX11_isSuit_13 : decode cX11_isSuit 13 = .ok (.isub, 1) := by decide +kernel
theorem dX11_isSuit_14 : decode cX11_isSuit 14 = .ok (.invokestatic 92, 3) := by decide +kernel
theorem dX11_isSuit_17 : decode cX11_isSuit 17 = .ok (.ireturn, 1) := by decide +kernel
theorem dX11_isKind_0 : decode cX11_isKind 0 = .ok (.iload_n 0, 1) := by decide +kernel
theorem dX11_isKind_1 : decode cX11_isKind 1 = .ok (.iconst 0, 1) := by decide +kernel
theorem dX11_isKind_2 : decode cX11_isKind 2 = .ok (.iconst 5, 1) := by decide +kernel
theorem dX11_isKind_3 : decode cX11_isKind 3 = .ok (.invokestatic 92, 3) := by decide +kernel
theorem dX11_isKind_6 : decode cX11_isKind 6 = .ok (.ireturn, 1) := by decide +kernel
theorem dX11_isCell_0 : decode cX11_isCell 0 = .ok (.iload_n 0, 1) := by decide +kernel
theorem dX11_isCell_1 : decode cX11_isCell 1 = .ok (.iconst 0, 1) := by decide +kernel
theorem dX11_isCell_2 : decode cX11_isCell 2 = .ok (.bipush 11, 2) := by decide +kernel
theorem dX11_isCell_4 : decode cX11_isCell 4 = .ok (.invokestatic 92, 3) := by decide +kernel
theorem dX11_isCell_7 : decode cX11_isCell 7 = .ok (.ireturn, 1) := by decide +kernel
theorem dX11_isHeight_0 : decode cX11_isHeight 0 = .ok (.iload_n 0, 1) := by decide +kernel
theorem dX11_isHeight_1 : decode cX11_isHeight 1 = .ok (.iconst 1, 1) := by decide +kernel
theorem dX11_isHeight_2 : decode cX11_isHeight 2 = .ok (.iconst 4, 1) := by decide +kernel
theorem dX11_isHeight_3 : decode cX11_isHeight 3 = .ok (.invokestatic 92, 3) := by decide +kernel
theorem dX11_isHeight_6 : decode cX11_isHeight 6 = .ok (.ireturn, 1) := by decide +kernel
theorem dX11_isHourOfDay_0 : decode cX11_isHourOfDay 0 = .ok (.iload_n 0, 1) := by decide +kernel
theorem dX11_isHourOfDay_1 : decode cX11_isHourOfDay 1 = .ok (.iconst 0, 1) := by decide +kernel
theorem dX11_isHourOfDay_2 : decode cX11_isHourOfDay 2 = .ok (.bipush 7, 2) := by decide +kernel
theorem dX11_isHourOfDay_4 : decode cX11_isHourOfDay 4 = .ok (.invokestatic 92, 3) := by decide +kernel
theorem dX11_isHourOfDay_7 : decode cX11_isHourOfDay 7 = .ok (.ireturn, 1) := by decide +kernel
theorem dX11_within_0 : decode cX11_within 0 = .ok (.iload_n 0, 1) := by decide +kernel
theorem dX11_within_1 : decode cX11_within 1 = .ok (.iload_n 1, 1) := by decide +kernel
theorem dX11_within_2 : decode cX11_within 2 = .ok (.if_icmp .lt 12, 3) := by decide +kernel
theorem dX11_within_5 : decode cX11_within 5 = .ok (.iload_n 0, 1) := by decide +kernel
theorem dX11_within_6 : decode cX11_within 6 = .ok (.iload_n 2, 1) := by decide +kernel
theorem dX11_within_7 : decode cX11_within 7 = .ok (.if_icmp .gt 7, 3) := by decide +kernel
theorem dX11_within_10 : decode cX11_within 10 = .ok (.iconst 1, 1) := by decide +kernel
theorem dX11_within_11 : decode cX11_within 11 = .ok (.goto 4, 3) := by decide +kernel
theorem dX11_within_14 : decode cX11_within 14 = .ok (.iconst 0, 1) := by decide +kernel
theorem dX11_within_15 : decode cX11_within 15 = .ok (.ireturn, 1) := by decide +kernel
theorem dX11_factorial_0 : decode cX11_factorial 0 = .ok (.iload_n 0, 1) := by decide +kernel
theorem dX11_factorial_1 : decode cX11_factorial 1 = .ok (.iconst 0, 1) := by decide +kernel
theorem dX11_factorial_2 : decode cX11_factorial 2 = .ok (.getstatic 345, 3) := by decide +kernel
theorem dX11_factorial_5 : decode cX11_factorial 5 = .ok (.arraylength, 1) := by decide +kernel
theorem dX11_factorial_6 : decode cX11_factorial 6 = .ok (.iconst 1, 1) := by decide +kernel
theorem dX11_factorial_7 : decode cX11_factorial 7 = .ok (.isub, 1) := by decide +kernel
theorem dX11_factorial_8 : decode cX11_factorial 8 = .ok (.invokestatic 92, 3) := by decide +kernel
theorem dX11_factorial_11 : decode cX11_factorial 11 = .ok (.ifCond .eq 11, 3) := by decide +kernel
theorem dX11_factorial_14 : decode cX11_factorial 14 = .ok (.getstatic 345, 3) := by decide +kernel
theorem dX11_factorial_17 : decode cX11_factorial 17 = .ok (.iload_n 0, 1) := by decide +kernel
theorem dX11_factorial_18 : decode cX11_factorial 18 = .ok (.iaload, 1) := by decide +kernel
theorem dX11_factorial_19 : decode cX11_factorial 19 = .ok (.goto 4, 3) := by decide +kernel
theorem dX11_factorial_22 : decode cX11_factorial 22 = .ok (.iconst 1, 1) := by decide +kernel
theorem dX11_factorial_23 : decode cX11_factorial 23 = .ok (.ireturn, 1) := by decide +kernel
theorem dX12_init_0 : decode cX12_init 0 = .ok (.aload_n 0, 1) := by decide +kernel
theorem dX12_init_1 : decode cX12_init 1 = .ok (.invokespecial 1, 3) := by decide +kernel
theorem dX12_init_4 : decode cX12_init 4 = .ok (.aload_n 0, 1) := by decide +kernel
theorem dX12_init_5 : decode cX12_init 5 = .ok (.sipush 378, 3) := by decide +kernel
theorem dX12_init_8 : decode cX12_init 8 = .ok (.newarray .int, 2) := by decide +kernel
theorem dX12_init_10 : decode cX12_init 10 = .ok (.putfield 7, 3) := by decide +kernel
theorem dX12_init_13 : decode cX12_init 13 = .ok (.aload_n 0, 1) := by decide +kernel
theorem dX12_init_14 : decode cX12_init 14 = .ok (.sipush 378, 3) := by decide +kernel
theorem dX12_init_17 : decode cX12_init 17 = .ok (.newarray .int, 2) := by decide +kernel
theorem dX12_init_19 : decode cX12_init 19 = .ok (.putfield 13, 3) := by decide +kernel
theorem dX12_init_22 : decode cX12_init 22 = .ok (.aload_n 0, 1) := by decide +kernel
theorem dX12_init_23 : decode cX12_init 23 = .ok (.sipush 756, 3) := by decide +kernel
theorem dX12_init_26 : decode cX12_init 26 = .ok (.newarray .int, 2) := by decide +kernel
theorem dX12_init_28 : decode cX12_init 28 = .ok (.putfield 16, 3) := by decide +kernel
theorem dX12_init_31 : decode cX12_init 31 = .ok (.aload_n 0, 1) := by decide +kernel
theorem dX12_init_32 : decode cX12_init 32 = .ok (.iconst 2, 1) := by decide +kernel
theorem dX12_init_33 : decode cX12_init 33 = .ok (.newarray .boolean, 2) := by decide +kernel
theorem dX12_init_35 : decode cX12_init 35 = .ok (.putfield 19, 3) := by decide +kernel
theorem dX12_init_38 : decode cX12_init 38 = .ok (.aload_n 0, 1) := by decide +kernel
theorem dX12_init_39 : decode cX12_init 39 = .ok (.lconst 1, 1) := by decide +kernel
theorem dX12_init_40 : decode cX12_init 40 = .ok (.putfield 23, 3) := by decide +kernel
theorem dX12_init_43 : decode cX12_init 43 = .ok (.aload_n 0, 1) := by decide +kernel
theorem dX12_init_44 : decode cX12_init 44 = .ok (.iconst 3, 1) := by decide +kernel
theorem dX12_init_45 : decode cX12_init 45 = .ok (.newarray .int, 2) := by decide +kernel
theorem dX12_init_47 : decode cX12_init 47 = .ok (.putfield 27, 3) := by decide +kernel
theorem dX12_init_50 : decode cX12_init 50 = .ok (.aload_n 0, 1) := by decide +kernel
theorem dX12_init_51 : decode cX12_init 51 = .ok (.bipush 7, 2) := by decide +kernel
theorem dX12_init_53 : decode cX12_init 53 = .ok (.newarray .int, 2) := by decide +kernel
theorem dX12_init_55 : decode cX12_init 55 = .ok (.putfield 30, 3) := by decide +kernel
theorem dX12_init_58 : decode cX12_init 58 = .ok (.aload_n 0, 1) := by decide +kernel
theorem dX12_init_59 : decode cX12_init 59 = .ok (.bipush 12, 2) := by decide +kernel
theorem dX12_init_61 : decode cX12_init 61 = .ok (.newarray .int, 2) := by decide +kernel
theorem dX12_init_63 : decode cX12_init 63 = .ok (.putfield 33, 3) := by decide +kernel
theorem dX12_init_66 : decode cX12_init 66 = .ok (.aload_n 0, 1) := by decide +kernel
theorem dX12_init_67 : decode cX12_init 67 = .ok (.bipush 12, 2) := by decide +kernel
theorem dX12_init_69 : decode cX12_init 69 = .ok (.newarray .int, 2) := by decide +kernel
theorem dX12_init_71 : decode cX12_init 71 = .ok (.putfield 36, 3) := by decide +kernel
theorem dX12_init_74 : decode cX12_init 74 = .ok (.aload_n 0, 1) := by decide +kernel
theorem dX12_init_75 : decode cX12_init 75 = .ok (.sipush 150, 3) := by decide +kernel
theorem dX12_init_78 : decode cX12_init 78 = .ok (.newarray .int, 2) := by decide +kernel
theorem dX12_init_80 : decode cX12_init 80 = .ok (.putfield 39, 3) := by decide +kernel
theorem dX12_init_83 : decode cX12_init 83 = .ok (.aload_n 0, 1) := by decide +kernel
theorem dX12_init_84 : decode cX12_init 84 = .ok (.iconst (-1), 1) := by decide +kernel
theorem dX12_init_85 : decode cX12_init 85 = .ok (.putfield 42, 3) := by decide +kernel
theorem dX12_init_88 : decode cX12_init 88 = .ok (.aload_n 0, 1) := by decide +kernel
theorem dX12_init_89 : decode cX12_init 89 = .ok (.iconst 5, 1) := by decide +kernel
theorem dX12_init_90 : decode cX12_init 90 = .ok (.newarray .int, 2) := by decide +kernel
theorem dX12_init_92 : decode cX12_init 92 = .ok (.putfield 46, 3) := by decide +kernel
theorem dX12_init_95 : decode cX12_init 95 = .ok (.aload_n 0, 1) := by decide +kernel
theorem dX12_init_96 : decode cX12_init 96 = .ok (.iconst 5, 1) := by decide +kernel
theorem dX12_init_97 : decode cX12_init 97 = .ok (.newarray .int, 2) := by decide +kernel
theorem dX12_init_99 : decode cX12_init 99 = .ok (.putfield 49, 3) := by decide +kernel
theorem dX12_init_102 : decode cX12_init 102 = .ok (.aload_n 0, 1) := by decide +kernel
theorem dX12_init_103 : decode cX12_init 103 = .ok (.bipush 7, 2) := by decide +kernel
theorem dX12_init_105 : decode cX12_init 105 = .ok (.newarray .int, 2) := by decide +kernel
theorem dX12_init_107 : decode cX12_init 107 = .ok (.putfield 52, 3) := by decide +kernel
theorem dX12_init_110 : decode cX12_init 110 = .ok (.return_, 1) := by decide +kernel
theorem dX12_in_0 : decode cX12_in 0 = .ok (.lload_n 0, 1) := by decide +kernel
theorem dX12_in_1 : decode cX12_in 1 = .ok (.lload_n 2, 1) := by decide +kernel
theorem dX12_in_2 : decode cX12_in 2 = .ok (.lcmp, 1) := by decide +kernel
theorem dX12_in_3 : decode cX12_in 3 = .ok (.ifCond .lt 14, 3) := by decide +kernel
theorem dX12_in_6 : decode cX12_in 6 = .ok (.lload_n 0, 1) := by decide +kernel
theorem dX12_in_7 : decode cX12_in 7 = .ok (.lload 4, 2) := by decide +kernel
theorem dX12_in_9 : decode cX12_in 9 = .ok (.lcmp, 1) := by decide +kernel
theorem dX12_in_10 : decode cX12_in 10 = .ok (.ifCond .gt 7, 3) := by decide +kernel
theorem dX12_in_13 : decode cX12_in 13 = .ok (.iconst 1, 1) := by decide +kernel
theorem dX12_in_14 : decode cX12_in 14 = .ok (.goto 4, 3) := by decide +kernel
theorem dX12_in_17 : decode cX12_in 17 = .ok (.iconst 0, 1) := by decide +kernel
theorem dX12_in_18 : decode cX12_in 18 = .ok (.ireturn, 1) := by decide +kernel
theorem dX12_bad_0 : decode cX12_bad 0 = .ok (.aload_n 0, 1) := by decide +kernel
theorem dX12_bad_1 : decode cX12_bad 1 = .ok (.getfield 27, 3) := by decide +kernel
theorem dX12_bad_4 : decode cX12_bad 4 = .ok (.iconst 0, 1) := by decide +kernel
theorem dX12_bad_5 : decode cX12_bad 5 = .ok (.dup2, 1) := by decide +kernel
theorem dX12_bad_6 : decode cX12_bad 6 = .ok (.iaload, 1) := by decide +kernel
theorem dX12_bad_7 : decode cX12_bad 7 = .ok (.iconst 1, 1) := by decide +kernel
theorem dX12_bad_8 : decode cX12_bad 8 = .ok (.iadd, 1) := by decide +kernel
theorem dX12_bad_9 : decode cX12_bad 9 = .ok (.iastore, 1) := by decide +kernel
theorem dX12_bad_10 : decode cX12_bad 10 = .ok (.bipush (-2), 2) := by decide +kernel
theorem dX12_bad_12 : decode cX12_bad 12 = .ok (.ireturn, 1) := by decide +kernel
theorem dX12_no_0 : decode cX12_no 0 = .ok (.aload_n 0, 1) := by decide +kernel
theorem dX12_no_1 : decode cX12_no 1 = .ok (.getfield 27, 3) := by decide +kernel
theorem dX12_no_4 : decode cX12_no 4 = .ok (.iconst 1, 1) := by decide +kernel
theorem dX12_no_5 : decode cX12_no 5 = .ok (.dup2, 1) := by decide +kernel
theorem dX12_no_6 : decode cX12_no 6 = .ok (.iaload, 1) := by decide +kernel
theorem dX12_no_7 : decode cX12_no 7 = .ok (.iconst 1, 1) := by decide +kernel
theorem dX12_no_8 : decode cX12_no 8 = .ok (.iadd, 1) := by decide +kernel
theorem dX12_no_9 : decode cX12_no 9 = .ok (.iastore, 1) := by decide +kernel
theorem dX12_no_10 : decode cX12_no 10 = .ok (.bipush (-3), 2) := by decide +kernel
theorem dX12_no_12 : decode cX12_no 12 = .ok (.ireturn, 1) := by decide +kernel
theorem dX12_full_0 : decode cX12_full 0 = .ok (.aload_n 0, 1) := by decide +kernel
theorem dX12_full_1 : decode cX12_full 1 = .ok (.getfield 27, 3) := by decide +kernel
theorem dX12_full_4 : decode cX12_full 4 = .ok (.iconst 2, 1) := by decide +kernel
theorem dX12_full_5 : decode cX12_full 5 = .ok (.dup2, 1) := by decide +kernel
theorem dX12_full_6 : decode cX12_full 6 = .ok (.iaload, 1) := by decide +kernel
theorem dX12_full_7 : decode cX12_full 7 = .ok (.iconst 1, 1) := by decide +kernel
theorem dX12_full_8 : decode cX12_full 8 = .ok (.iadd, 1) := by decide +kernel
theorem dX12_full_9 : decode cX12_full 9 = .ok (.iastore, 1) := by decide +kernel
theorem dX12_full_10 : decode cX12_full 10 = .ok (.bipush (-4), 2) := by decide +kernel
theorem dX12_full_12 : decode cX12_full 12 = .ok (.ireturn, 1) := by decide +kernel
theorem dX12_isUser_0 : decode cX12_isUser 0 = .ok (.iload_n 1, 1) := by decide +kernel
theorem dX12_isUser_1 : decode cX12_isUser 1 = .ok (.i2l, 1) := by decide +kernel
theorem dX12_isUser_2 : decode cX12_isUser 2 = .ok (.lconst 0, 1) := by decide +kernel
theorem dX12_isUser_3 : decode cX12_isUser 3 = .ok (.aload_n 0, 1) := by decide +kernel
theorem dX12_isUser_4 : decode cX12_isUser 4 = .ok (.getfield 7, 3) := by decide +kernel
theorem dX12_isUser_7 : decode cX12_isUser 7 = .ok (.bipush 16, 2) := by decide +kernel
theorem dX12_isUser_9 : decode cX12_isUser 9 = .ok (.iaload, 1) := by decide +kernel
theorem dX12_isUser_10 : decode cX12_isUser 10 = .ok (.iconst 1, 1) := by decide +kernel
theorem dX12_isUser_11 : decode cX12_isUser 11 = .ok (.isub, 1) := by decide +kernel
theorem dX12_isUser_12 : decode cX12_isUser 12 = .ok (.i2l, 1) := by decide +kernel
theorem dX12_isUser_13 : decode cX12_isUser 13 = .ok (.invokestatic 55, 3) := by decide +kernel
theorem dX12_isUser_16 : decode cX12_isUser 16 = .ok (.ireturn, 1) := by decide +kernel
theorem dX12_isSuit_0 : decode cX12_isSuit 0 = .ok (.iload_n 1, 1) := by decide +kernel
theorem dX12_isSuit_1 : decode cX12_isSuit 1 = .ok (.i2l, 1) := by decide +kernel
theorem dX12_isSuit_2 : decode cX12_isSuit 2 = .ok (.lconst 0, 1) := by decide +kernel
theorem dX12_isSuit_3 : decode cX12_isSuit 3 = .ok (.aload_n 0, 1) := by decide +kernel
theorem dX12_isSuit_4 : decode cX12_isSuit 4 = .ok (.getfield 7, 3) := by decide +kernel
theorem dX12_isSuit_7 : decode cX12_isSuit 7 = .ok (.bipush 45, 2) := by decide +kernel
theorem dX12_isSuit_9 : decode cX12_isSuit 9 = .ok (.iaload, 1) := by decide +kernel
theorem dX12_isSuit_10 : decode cX12_isSuit 10 = .ok (.iconst 1, 1) := by decide +kernel
theorem dX12_isSuit_11 : decode cX12_isSuit 11 = .ok (.isub, 1) := by decide +kernel
theorem dX12_isSuit_12 : decode cX12_isSuit 12 = .ok (.i2l, 1) := by decide +kernel
theorem dX12_isSuit_13 : decode cX12_isSuit 13 = .ok (.invokestatic 55, 3) := by decide +kernel
theorem dX12_isSuit_16 : decode cX12_isSuit 16 = .ok (.ireturn, 1) := by decide +kernel
theorem dX12_userOf_0 : decode cX12_userOf 0 = .ok (.aload_n 0, 1) := by decide +kernel
theorem dX12_userOf_1 : decode cX12_userOf 1 = .ok (.bipush 17, 2) := by decide +kernel
theorem dX12_userOf_3 : decode cX12_userOf 3 = .ok (.iconst 4, 1) := by decide +kernel
theorem dX12_userOf_4 : decode cX12_userOf 4 = .ok (.iload_n 1, 1) := by decide +kernel
theorem dX12_userOf_5 : decode cX12_userOf 5 = .ok (.imul, 1) := by decide +kernel
theorem dX12_userOf_6 : decode cX12_userOf 6 = .ok (.iadd, 1) := by decide +kernel
theorem dX12_userOf_7 : decode cX12_userOf 7 = .ok (.iload_n 2, 1) := by decide +kernel
theorem dX12_userOf_8 : decode cX12_userOf 8 = .ok (.iadd, 1) := by decide +kernel
theorem dX12_userOf_9 : decode cX12_userOf 9 = .ok (.iaload, 1) := by decide +kernel
theorem dX12_userOf_10 : decode cX12_userOf 10 = .ok (.ireturn, 1) := by decide +kernel
theorem dX12_suitOf_0 : decode cX12_suitOf 0 = .ok (.aload_n 0, 1) := by decide +kernel
theorem dX12_suitOf_1 : decode cX12_suitOf 1 = .ok (.bipush 46, 2) := by decide +kernel
theorem dX12_suitOf_3 : decode cX12_suitOf 3 = .ok (.iconst 4, 1) := by decide +kernel
theorem dX12_suitOf_4 : decode cX12_suitOf 4 = .ok (.iload_n 1, 1) := by decide +kernel
theorem dX12_suitOf_5 : decode cX12_suitOf 5 = .ok (.imul, 1) := by decide +kernel
theorem dX12_suitOf_6 : decode cX12_suitOf 6 = .ok (.iadd, 1) := by decide +kernel
theorem dX12_suitOf_7 : decode cX12_suitOf 7 = .ok (.iload_n 2, 1) := by decide +kernel
theorem dX12_suitOf_8 : decode cX12_suitOf 8 = .ok (.iadd, 1) := by decide +kernel
theorem dX12_suitOf_9 : decode cX12_suitOf 9 = .ok (.iaload, 1) := by decide +kernel
theorem dX12_suitOf_10 : decode cX12_suitOf 10 = .ok (.ireturn, 1) := by decide +kernel
theorem dX12_has_0 : decode cX12_has 0 = .ok (.iload_n 0, 1) := by decide +kernel
theorem dX12_has_1 : decode cX12_has 1 = .ok (.iload_n 1, 1) := by decide +kernel
theorem dX12_has_2 : decode cX12_has 2 = .ok (.ishr, 1) := by decide +kernel
theorem dX12_has_3 : decode cX12_has 3 = .ok (.iconst 1, 1) := by decide +kernel
theorem dX12_has_4 : decode cX12_has 4 = .ok (.iand, 1) := by decide +kernel
theorem dX12_has_5 : decode cX12_has 5 = .ok (.iconst 1, 1) := by decide +kernel
theorem dX12_has_6 : decode cX12_has 6 = .ok (.if_icmp .ne 7, 3) := by decide +kernel
theorem dX12_has_9 : decode cX12_has 9 = .ok (.iconst 1, 1) := by decide +kernel
theorem dX12_has_10 : decode cX12_has 10 = .ok (.goto 4, 3) := by decide +kernel
theorem dX12_has_13 : decode cX12_has 13 = .ok (.iconst 0, 1) := by decide +kernel
theorem dX12_has_14 : decode cX12_has 14 = .ok (.ireturn, 1) := by decide +kernel
theorem dX12_bits_0 : decode cX12_bits 0 = .ok (.iconst 0, 1) := by decide +kernel
theorem dX12_bits_1 : decode cX12_bits 1 = .ok (.istore_n 1, 1) := by decide +kernel
theorem dX12_bits_2 : decode cX12_bits 2 = .ok (.iconst 0, 1) := by decide +kernel
theorem dX12_bits_3 : decode cX12_bits 3 = .ok (.istore_n 2, 1) := by decide +kernel
theorem dX12_bits_4 : decode cX12_bits 4 = .ok (.iload_n 2, 1) := by decide +kernel
theorem dX12_bits_5 : decode cX12_bits 5 = .ok (.bipush 7, 2) := by decide +kernel
theorem dX12_bits_7 : decode cX12_bits 7 = .ok (.if_icmp .ge 17, 3) := by decide +kernel
theorem dX12_bits_10 : decode cX12_bits 10 = .ok (.iload_n 1, 1) := by decide +kernel
theorem dX12_bits_11 : decode cX12_bits 11 = .ok (.iload_n 0, 1) := by decide +kernel
theorem dX12_bits_12 : decode cX12_bits 12 = .ok (.iload_n 2, 1) := by decide +kernel
theorem dX12_bits_13 : decode cX12_bits 13 = .ok (.ishr, 1) := by decide +kernel
theorem dX12_bits_14 : decode cX12_bits 14 = .ok (.iconst 1, 1) := by decide +kernel
theorem dX12_bits_15 : decode cX12_bits 15 = .ok (.iand, 1) := by decide +kernel
theorem dX12_bits_16 : decode cX12_bits 16 = .ok (.iadd, 1) := by decide +kernel
theorem dX12_bits_17 : decode cX12_bits 17 = .ok (.istore_n 1, 1) := by decide +kernel
theorem dX12_bits_18 : decode cX12_bits 18 = .ok (.iinc 2 1, 3) := by decide +kernel
theorem dX12_bits_21 : decode cX12_bits 21 = .ok (.goto (-17), 3) := by decide +kernel
theorem dX12_bits_24 : decode cX12_bits 24 = .ok (.iload_n 1, 1) := by decide +kernel
theorem dX12_bits_25 : decode cX12_bits 25 = .ok (.ireturn, 1) := by decide +kernel
theorem dX12_fraction_0 : decode cX12_fraction 0 = .ok (.lload_n 1, 1) := by decide +kernel
theorem dX12_fraction_1 : decode cX12_fraction 1 = .ok (.lconst 0, 1) := by decide +kernel
theorem dX12_fraction_2 : decode cX12_fraction 2 = .ok (.lcmp, 1) := by decide +kernel
theorem dX12_fraction_3 : decode cX12_fraction 3 = .ok (.ifCond .ge 8, 3) := by decide +kernel
theorem dX12_fraction_6 : decode cX12_fraction 6 = .ok (.lload_n 1, 1) := by decide +kernel
theorem dX12_fraction_7 : decode cX12_fraction 7 = .ok (.lneg, 1) := by decide +kernel
theorem dX12_fraction_8 : decode cX12_fraction 8 = .ok (.goto 4, 3) := by decide +kernel
theorem dX12_fraction_11 : decode cX12_fraction 11 = .ok (.lload_n 1, 1) := by decide +kernel
theorem dX12_fraction_12 : decode cX12_fraction 12 = .ok (.lstore 5, 2) := by decide +kernel
theorem dX12_fraction_14 : decode cX12_fraction 14 = .ok (.lload_n 3, 1) := by decide +kernel
theorem dX12_fraction_15 : decode cX12_fraction 15 = .ok (.lstore 7, 2) := by decide +kernel
theorem dX12_fraction_17 : decode cX12_fraction 17 = .ok (.lload 7, 2) := by decide +kernel
theorem dX12_fraction_19 : decode cX12_fraction 19 = .ok (.lconst 0, 1) := by decide +kernel
theorem dX12_fraction_20 : decode cX12_fraction 20 = .ok (.lcmp, 1) := by decide +kernel
theorem dX12_fraction_21 : decode cX12_fraction 21 = .ok (.ifCond .eq 21, 3) := by decide +kernel
theorem dX12_fraction_24 : decode cX12_fraction 24 = .ok (.lload 5, 2) := by decide +kernel
theorem dX12_fraction_26 : decode cX12_fraction 26 = .ok (.lload 7, 2) := by decide +kernel
theorem dX12_fraction_28 : decode cX12_fraction 28 = .ok (.lrem, 1) := by decide +kernel
theorem dX12_fraction_29 : decode cX12_fraction 29 = .ok (.lstore 9, 2) := by decide +kernel
theorem dX12_fraction_31 : decode cX12_fraction 31 = .ok (.lload 7, 2) := by decide +kernel
theorem dX12_fraction_33 : decode cX12_fraction 33 = .ok (.lstore 5, 2) := by decide +kernel
theorem dX12_fraction_35 : decode cX12_fraction 35 = .ok (.lload 9, 2) := by decide +kernel
theorem dX12_fraction_37 : decode cX12_fraction 37 = .ok (.lstore 7, 2) := by decide +kernel
theorem dX12_fraction_39 : decode cX12_fraction 39 = .ok (.goto (-22), 3) := by decide +kernel
theorem dX12_fraction_42 : decode cX12_fraction 42 = .ok (.aload_n 0, 1) := by decide +kernel
theorem dX12_fraction_43 : decode cX12_fraction 43 = .ok (.lload_n 1, 1) := by decide +kernel
theorem dX12_fraction_44 : decode cX12_fraction 44 = .ok (.lload 5, 2) := by decide +kernel
theorem dX12_fraction_46 : decode cX12_fraction 46 = .ok (.ldiv, 1) := by decide +kernel
theorem dX12_fraction_47 : decode cX12_fraction 47 = .ok (.putfield 59, 3) := by decide +kernel
theorem dX12_fraction_50 : decode cX12_fraction 50 = .ok (.aload_n 0, 1) := by decide +kernel
theorem dX12_fraction_51 : decode cX12_fraction 51 = .ok (.lload_n 3, 1) := by decide +kernel
theorem dX12_fraction_52 : decode cX12_fraction 52 = .ok (.lload 5, 2) := by decide +kernel
theorem dX12_fraction_54 : decode cX12_fraction 54 = .ok (.ldiv, 1) := by decide +kernel
theorem dX12_fraction_55 : decode cX12_fraction 55 = .ok (.putfield 23, 3) := by decide +kernel
theorem dX12_fraction_58 : decode cX12_fraction 58 = .ok (.iconst 1, 1) := by decide +kernel
theorem dX12_fraction_59 : decode cX12_fraction 59 = .ok (.ireturn, 1) := by decide +kernel
theorem dX12_taken_0 : decode cX12_taken 0 = .ok (.iload_n 2, 1) := by decide +kernel
theorem dX12_taken_1 : decode cX12_taken 1 = .ok (.iconst 2, 1) := by decide +kernel
theorem dX12_taken_2 : decode cX12_taken 2 = .ok (.iadd, 1) := by decide +kernel
theorem dX12_taken_3 : decode cX12_taken 3 = .ok (.iconst 3, 1) := by decide +kernel
theorem dX12_taken_4 : decode cX12_taken 4 = .ok (.idiv, 1) := by decide +kernel
theorem dX12_taken_5 : decode cX12_taken 5 = .ok (.istore_n 3, 1) := by decide +kernel
theorem dX12_taken_6 : decode cX12_taken 6 = .ok (.iload_n 3, 1) := by decide +kernel
theorem dX12_taken_7 : decode cX12_taken 7 = .ok (.iload_n 1, 1) := by decide +kernel
theorem dX12_taken_8 : decode cX12_taken 8 = .ok (.if_icmp .ge 7, 3) := by decide +kernel
theorem dX12_taken_11 : decode cX12_taken 11 = .ok (.iload_n 3, 1) := by decide +kernel
theorem dX12_taken_12 : decode cX12_taken 12 = .ok (.goto 4, 3) := by decide +kernel
theorem dX12_taken_15 : decode cX12_taken 15 = .ok (.iload_n 1, 1) := by decide +kernel
theorem dX12_taken_16 : decode cX12_taken 16 = .ok (.istore 4, 2) := by decide +kernel
theorem dX12_taken_18 : decode cX12_taken 18 = .ok (.iload_n 0, 1) := by decide +kernel
theorem dX12_taken_19 : decode cX12_taken 19 = .ok (.tableswitch 71 0 4 #[33, 35, 39, 42, 52], 33) := by decide +kernel
theorem dX12_taken_52 : decode cX12_taken 52 = .ok (.iload_n 3, 1) := by decide +kernel
theorem dX12_taken_53 : decode cX12_taken 53 = .ok (.ireturn, 1) := by decide +kernel
theorem dX12_taken_54 : decode cX12_taken 54 = .ok (.iload_n 3, 1) := by decide +kernel
theorem dX12_taken_55 : decode cX12_taken 55 = .ok (.iconst 2, 1) := by decide +kernel
theorem dX12_taken_56 : decode cX12_taken 56 = .ok (.idiv, 1) := by decide +kernel
theorem dX12_taken_57 : decode cX12_taken 57 = .ok (.ireturn, 1) := by decide +kernel
theorem dX12_taken_58 : decode cX12_taken 58 = .ok (.iload 4, 2) := by decide +kernel
theorem dX12_taken_60 : decode cX12_taken 60 = .ok (.ireturn, 1) := by decide +kernel
theorem dX12_taken_61 : decode cX12_taken 61 = .ok (.iload_n 2, 1) := by decide +kernel
theorem dX12_taken_62 : decode cX12_taken 62 = .ok (.ifCond .le 7, 3) := by decide +kernel
theorem dX12_taken_65 : decode cX12_taken 65 = .ok (.iconst 1, 1) := by decide +kernel
theorem dX12_taken_66 : decode cX12_taken 66 = .ok (.goto 4, 3) := by decide +kernel
theorem dX12_taken_69 : decode cX12_taken 69 = .ok (.iconst 0, 1) := by decide +kernel
theorem dX12_taken_70 : decode cX12_taken 70 = .ok (.ireturn, 1) := by decide +kernel
theorem dX12_taken_71 : decode cX12_taken 71 = .ok (.iload_n 3, 1) := by decide +kernel
theorem dX12_taken_72 : decode cX12_taken 72 = .ok (.iconst 2, 1) := by decide +kernel
theorem dX12_taken_73 : decode cX12_taken 73 = .ok (.idiv, 1) := by decide +kernel
theorem dX12_taken_74 : decode cX12_taken 74 = .ok (.iload_n 1, 1) := by decide +kernel
theorem dX12_taken_75 : decode cX12_taken 75 = .ok (.iadd, 1) := by decide +kernel
theorem dX12_taken_76 : decode cX12_taken 76 = .ok (.iload_n 2, 1) := by decide +kernel
theorem dX12_taken_77 : decode cX12_taken 77 = .ok (.if_icmp .ge 11, 3) := by decide +kernel
theorem dX12_taken_80 : decode cX12_taken 80 = .ok (.iload_n 3, 1) := by decide +kernel
theorem dX12_taken_81 : decode cX12_taken 81 = .ok (.iconst 2, 1) := by decide +kernel
theorem dX12_taken_82 : decode cX12_taken 82 = .ok (.idiv, 1) := by decide +kernel
theorem dX12_taken_83 : decode cX12_taken 83 = .ok (.iload_n 1, 1) := by decide +kernel
theorem dX12_taken_84 : decode cX12_taken 84 = .ok (.iadd, 1) := by decide +kernel
theorem dX12_taken_85 : decode cX12_taken 85 = .ok (.goto 4, 3) := by decide +kernel
theorem dX12_taken_88 : decode cX12_taken 88 = .ok (.iload_n 2, 1) := by decide +kernel
theorem dX12_taken_89 : decode cX12_taken 89 = .ok (.ireturn, 1) := by decide +kernel
theorem dX12_taken_90 : decode cX12_taken 90 = .ok (.iconst 2, 1) := by decide +kernel
theorem dX12_taken_91 : decode cX12_taken 91 = .ok (.iload 4, 2) := by decide +kernel
theorem dX12_taken_93 : decode cX12_taken 93 = .ok (.imul, 1) := by decide +kernel
theorem dX12_taken_94 : decode cX12_taken 94 = .ok (.iload_n 2, 1) := by decide +kernel
theorem dX12_taken_95 : decode cX12_taken 95 = .ok (.if_icmp .ge 10, 3) := by decide +kernel
theorem dX12_taken_98 : decode cX12_taken 98 = .ok (.iconst 2, 1) := by decide +kernel
theorem dX12_taken_99 : decode cX12_taken 99 = .ok (.iload 4, 2) := by decide +kernel
theorem dX12_taken_101 : decode cX12_taken 101 = .ok (.imul, 1) := by decide +kernel
theorem dX12_taken_102 : decode cX12_taken 102 = .ok (.goto 4, 3) := by decide +kernel
theorem dX12_taken_105 : decode cX12_taken 105 = .ok (.iload_n 2, 1) := by decide +kernel
theorem dX12_taken_106 : decode cX12_taken 106 = .ok (.ireturn, 1) := by decide +kernel
theorem dX12_rentOf_0 : decode cX12_rentOf 0 = .ok (.iload_n 0, 1) := by decide +kernel
theorem dX12_rentOf_1 : decode cX12_rentOf 1 = .ok (.tableswitch 46 0 4 #[35, 35, 46, 39, 41], 35) := by decide +kernel
theorem dX12_rentOf_36 : decode cX12_rentOf 36 = .ok (.iconst 3, 1) := by decide +kernel
theorem dX12_rentOf_37 : decode cX12_rentOf 37 = .ok (.iload_n 1, 1) := by decide +kernel
theorem dX12_rentOf_38 : decode cX12_rentOf 38 = .ok (.imul, 1) := by decide +kernel
theorem dX12_rentOf_39 : decode cX12_rentOf 39 = .ok (.ireturn, 1) := by decide +kernel
theorem dX12_rentOf_40 : decode cX12_rentOf 40 = .ok (.iconst 0, 1) := by decide +kernel
theorem dX12_rentOf_41 : decode cX12_rentOf 41 = .ok (.ireturn, 1) := by decide +kernel
theorem dX12_rentOf_42 : decode cX12_rentOf 42 = .ok (.bipush 6, 2) := by decide +kernel
theorem dX12_rentOf_44 : decode cX12_rentOf 44 = .ok (.iload_n 1, 1) := by decide +kernel
theorem dX12_rentOf_45 : decode cX12_rentOf 45 = .ok (.imul, 1) := by decide +kernel
theorem dX12_rentOf_46 : decode cX12_rentOf 46 = .ok (.ireturn, 1) := by decide +kernel
theorem dX12_rentOf_47 : decode cX12_rentOf 47 = .ok (.iload_n 1, 1) := by decide +kernel
theorem dX12_rentOf_48 : decode cX12_rentOf 48 = .ok (.ifCond .le 11, 3) := by decide +kernel
theorem dX12_rentOf_51 : decode cX12_rentOf 51 = .ok (.iconst 3, 1) := by decide +kernel
theorem dX12_rentOf_52 : decode cX12_rentOf 52 = .ok (.iload_n 1, 1) := by decide +kernel
theorem dX12_rentOf_53 : decode cX12_rentOf 53 = .ok (.imul, 1) := by decide +kernel
theorem dX12_rentOf_54 : decode cX12_rentOf 54 = .ok (.iconst 1, 1) := by decide +kernel
theorem dX12_rentOf_55 : decode cX12_rentOf 55 = .ok (.iadd, 1) := by decide +kernel
theorem dX12_rentOf_56 : decode cX12_rentOf 56 = .ok (.goto 4, 3) := by decide +kernel
theorem dX12_rentOf_59 : decode cX12_rentOf 59 = .ok (.iconst 0, 1) := by decide +kernel
theorem dX12_rentOf_60 : decode cX12_rentOf 60 = .ok (.ireturn, 1) := by decide +kernel
theorem dX12_awardOf_0 : decode cX12_awardOf 0 = .ok (.iload_n 0, 1) := by decide +kernel
theorem dX12_awardOf_1 : decode cX12_awardOf 1 = .ok (.tableswitch 67 0 4 #[35, 37, 41, 45, 51], 35) := by decide +kernel
theorem dX12_awardOf_36 : decode cX12_awardOf 36 = .ok (.iload_n 1, 1) := by decide +kernel
theorem dX12_awardOf_37 : decode cX12_awardOf 37 = .ok (.ireturn, 1) := by decide +kernel
theorem dX12_awardOf_38 : decode cX12_awardOf 38 = .ok (.iconst 2, 1) := by decide +kernel
theorem dX12_awardOf_39 : decode cX12_awardOf 39 = .ok (.iload_n 1, 1) := by decide +kernel
theorem dX12_awardOf_40 : decode cX12_awardOf 40 = .ok (.imul, 1) := by decide +kernel
theorem dX12_awardOf_41 : decode cX12_awardOf 41 = .ok (.ireturn, 1) := by decide +kernel
theorem dX12_awardOf_42 : decode cX12_awardOf 42 = .ok (.iload_n 1, 1) := by decide +kernel
theorem dX12_awardOf_43 : decode cX12_awardOf 43 = .ok (.iload_n 2, 1) := by decide +kernel
theorem dX12_awardOf_44 : decode cX12_awardOf 44 = .ok (.iadd, 1) := by decide +kernel
theorem dX12_awardOf_45 : decode cX12_awardOf 45 = .ok (.ireturn, 1) := by decide +kernel
theorem dX12_awardOf_46 : decode cX12_awardOf 46 = .ok (.iload_n 1, 1) := by decide +kernel
theorem dX12_awardOf_47 : decode cX12_awardOf 47 = .ok (.iconst 1, 1) := by decide +kernel
theorem dX12_awardOf_48 : decode cX12_awardOf 48 = .ok (.iadd, 1) := by decide +kernel
theorem dX12_awardOf_49 : decode cX12_awardOf 49 = .ok (.iconst 2, 1) := by decide +kernel
theorem dX12_awardOf_50 : decode cX12_awardOf 50 = .ok (.idiv, 1) := by decide +kernel
theorem dX12_awardOf_51 : decode cX12_awardOf 51 = .ok (.ireturn, 1) := by decide +kernel
theorem dX12_awardOf_52 : decode cX12_awardOf 52 = .ok (.iload_n 2, 1) := by decide +kernel
theorem dX12_awardOf_53 : decode cX12_awardOf 53 = .ok (.bipush 8, 2) := by decide +kernel
theorem dX12_awardOf_55 : decode cX12_awardOf 55 = .ok (.if_icmp .ge 7, 3) := by decide +kernel
theorem dX12_awardOf_58 : decode cX12_awardOf 58 = .ok (.iconst 0, 1) := by decide +kernel
theorem dX12_awardOf_59 : decode cX12_awardOf 59 = .ok (.goto 8, 3) := by decide +kernel
theorem dX12_awardOf_62 : decode cX12_awardOf 62 = .ok (.iconst 2, 1) := by decide +kernel
theorem dX12_awardOf_63 : decode cX12_awardOf 63 = .ok (.iload_n 1, 1) := by decide +kernel
theorem dX12_awardOf_64 : decode cX12_awardOf 64 = .ok (.iload_n 2, 1) := by decide +kernel
theorem dX12_awardOf_65 : decode cX12_awardOf 65 = .ok (.iadd, 1) := by decide +kernel
theorem dX12_awardOf_66 : decode cX12_awardOf 66 = .ok (.imul, 1) := by decide +kernel
theorem dX12_awardOf_67 : decode cX12_awardOf 67 = .ok (.ireturn, 1) := by decide +kernel
theorem dX12_awardOf_68 : decode cX12_awardOf 68 = .ok (.iconst 2, 1) := by decide +kernel
theorem dX12_awardOf_69 : decode cX12_awardOf 69 = .ok (.iload_n 1, 1) := by decide +kernel
theorem dX12_awardOf_70 : decode cX12_awardOf 70 = .ok (.imul, 1) := by decide +kernel
theorem dX12_awardOf_71 : decode cX12_awardOf 71 = .ok (.bipush 40, 2) := by decide +kernel
theorem dX12_awardOf_73 : decode cX12_awardOf 73 = .ok (.if_icmp .ge 9, 3) := by decide +kernel
theorem dX12_awardOf_76 : decode cX12_awardOf 76 = .ok (.iconst 2, 1) := by decide +kernel
theorem dX12_awardOf_77 : decode cX12_awardOf 77 = .ok (.iload_n 1, 1) := by decide +kernel
theorem dX12_awardOf_78 : decode cX12_awardOf 78 = .ok (.imul, 1) := by decide +kernel
theorem dX12_awardOf_79 : decode cX12_awardOf 79 = .ok (.goto 5, 3) := by decide +kernel
theorem dX12_awardOf_82 : decode cX12_awardOf 82 = .ok (.bipush 40, 2) := by decide +kernel
theorem dX12_awardOf_84 : decode cX12_awardOf 84 = .ok (.ireturn, 1) := by decide +kernel
theorem dX12_blow_0 : decode cX12_blow 0 = .ok (.iload_n 2, 1) := by decide +kernel
theorem dX12_blow_1 : decode cX12_blow 1 = .ok (.istore 5, 2) := by decide +kernel
theorem dX12_blow_3 : decode cX12_blow 3 = .ok (.iconst 0, 1) := by decide +kernel
theorem dX12_blow_4 : decode cX12_blow 4 = .ok (.istore 6, 2) := by decide +kernel
theorem dX12_blow_6 : decode cX12_blow 6 = .ok (.iload 6, 2) := by decide +kernel
theorem dX12_blow_8 : decode cX12_blow 8 = .ok (.bipush 12, 2) := by decide +kernel
theorem dX12_blow_10 : decode cX12_blow 10 = .ok (.if_icmp .ge 137, 3) := by decide +kernel
theorem dX12_blow_13 : decode cX12_blow 13 = .ok (.iload_n 3, 1) := by decide +kernel
theorem dX12_blow_14 : decode cX12_blow 14 = .ok (.ifCond .ne 8, 3) := by decide +kernel
theorem dX12_blow_17 : decode cX12_blow 17 = .ok (.iload 6, 2) := by decide +kernel
theorem dX12_blow_19 : decode cX12_blow 19 = .ok (.goto 8, 3) := by decide +kernel
theorem dX12_blow_22 : decode cX12_blow 22 = .ok (.bipush 11, 2) := by decide +kernel
theorem dX12_blow_24 : decode cX12_blow 24 = .ok (.iload 6, 2) := by decide +kernel
theorem dX12_blow_26 : decode cX12_blow 26 = .ok (.isub, 1) := by decide +kernel
theorem dX12_blow_27 : decode cX12_blow 27 = .ok (.istore 7, 2) := by decide +kernel
theorem dX12_blow_29 : decode cX12_blow 29 = .ok (.aload_n 0, 1) := by decide +kernel
theorem dX12_blow_30 : decode cX12_blow 30 = .ok (.getfield 33, 3) := by decide +kernel
theorem dX12_blow_33 : decode cX12_blow 33 = .ok (.iload 7, 2) := by decide +kernel
theorem dX12_blow_35 : decode cX12_blow 35 = .ok (.iload 5, 2) := by decide +kernel
theorem dX12_blow_37 : decode cX12_blow 37 = .ok (.iastore, 1) := by decide +kernel
theorem dX12_blow_38 : decode cX12_blow 38 = .ok (.iconst 0, 1) := by decide +kernel
theorem dX12_blow_39 : decode cX12_blow 39 = .ok (.istore 8, 2) := by decide +kernel
theorem dX12_blow_41 : decode cX12_blow 41 = .ok (.iload 8, 2) := by decide +kernel
theorem dX12_blow_43 : decode cX12_blow 43 = .ok (.aload_n 1, 1) := by decide +kernel
theorem dX12_blow_44 : decode cX12_blow 44 = .ok (.bipush 16, 2) := by decide +kernel
theorem dX12_blow_46 : decode cX12_blow 46 = .ok (.iaload, 1) := by decide +kernel
theorem dX12_blow_47 : decode cX12_blow 47 = .ok (.if_icmp .ge 69, 3) := by decide +kernel
theorem dX12_blow_50 : decode cX12_blow 50 = .ok (.iload 4, 2) := by decide +kernel
theorem dX12_blow_52 : decode cX12_blow 52 = .ok (.iload 8, 2) := by decide +kernel
theorem dX12_blow_54 : decode cX12_blow 54 = .ok (.invokestatic 62, 3) := by decide +kernel
theorem dX12_blow_57 : decode cX12_blow 57 = .ok (.ifCond .eq 53, 3) := by decide +kernel
theorem dX12_blow_60 : decode cX12_blow 60 = .ok (.aload_n 1, 1) := by decide +kernel
theorem dX12_blow_61 : decode cX12_blow 61 = .ok (.iload 8, 2) := by decide +kernel
theorem dX12_blow_63 : decode cX12_blow 63 = .ok (.iconst 1, 1) := by decide +kernel
theorem dX12_blow_64 : decode cX12_blow 64 = .ok (.invokestatic 66, 3) := by decide +kernel
theorem dX12_blow_67 : decode cX12_blow 67 = .ok (.iload 7, 2) := by decide +kernel
theorem dX12_blow_69 : decode cX12_blow 69 = .ok (.if_icmp .ne 41, 3) := by decide +kernel
theorem dX12_blow_72 : decode cX12_blow 72 = .ok (.aload_n 0, 1) := by decide +kernel
theorem dX12_blow_73 : decode cX12_blow 73 = .ok (.getfield 30, 3) := by decide +kernel
theorem dX12_blow_76 : decode cX12_blow 76 = .ok (.iload 8, 2) := by decide +kernel
theorem dX12_blow_78 : decode cX12_blow 78 = .ok (.aload_n 1, 1) := by decide +kernel
theorem dX12_blow_79 : decode cX12_blow 79 = .ok (.iload 8, 2) := by decide +kernel
theorem dX12_blow_81 : decode cX12_blow 81 = .ok (.iconst 0, 1) := by decide +kernel
theorem dX12_blow_82 : decode cX12_blow 82 = .ok (.invokestatic 66, 3) := by decide +kernel
theorem dX12_blow_85 : decode cX12_blow 85 = .ok (.aload_n 1, 1) := by decide +kernel
theorem dX12_blow_86 : decode cX12_blow 86 = .ok (.iload 8, 2) := by decide +kernel
theorem dX12_blow_88 : decode cX12_blow 88 = .ok (.iconst 2, 1) := by decide +kernel
theorem dX12_blow_89 : decode cX12_blow 89 = .ok (.invokestatic 66, 3) := by decide +kernel
theorem dX12_blow_92 : decode cX12_blow 92 = .ok (.iload 5, 2) := by decide +kernel
theorem dX12_blow_94 : decode cX12_blow 94 = .ok (.invokestatic 70, 3) := by decide +kernel
theorem dX12_blow_97 : decode cX12_blow 97 = .ok (.iastore, 1) := by decide +kernel
theorem dX12_blow_98 : decode cX12_blow 98 = .ok (.iload 5, 2) := by decide +kernel
theorem dX12_blow_100 : decode cX12_blow 100 = .ok (.aload_n 0, 1) := by decide +kernel
theorem dX12_blow_101 : decode cX12_blow 101 = .ok (.getfield 30, 3) := by decide +kernel
theorem dX12_blow_104 : decode cX12_blow 104 = .ok (.iload 8, 2) := by decide +kernel
theorem dX12_blow_106 : decode cX12_blow 106 = .ok (.iaload, 1) := by decide +kernel
theorem dX12_blow_107 : decode cX12_blow 107 = .ok (.isub, 1) := by decide +kernel
theorem dX12_blow_108 : decode cX12_blow 108 = .ok (.istore 5, 2) := by decide +kernel
theorem dX12_blow_110 : decode cX12_blow 110 = .ok (.iinc 8 1, 3) := by decide +kernel
theorem dX12_blow_113 : decode cX12_blow 113 = .ok (.goto (-72), 3) := by decide +kernel
theorem dX12_blow_116 : decode cX12_blow 116 = .ok (.aload_n 0, 1) := by decide +kernel
theorem dX12_blow_117 : decode cX12_blow 117 = .ok (.getfield 36, 3) := by decide +kernel
theorem dX12_blow_120 : decode cX12_blow 120 = .ok (.iload 7, 2) := by decide +kernel
theorem dX12_blow_122 : decode cX12_blow 122 = .ok (.iload 5, 2) := by decide +kernel
theorem dX12_blow_124 : decode cX12_blow 124 = .ok (.iastore, 1) := by decide +kernel
theorem dX12_blow_125 : decode cX12_blow 125 = .ok (.iload 5, 2) := by decide +kernel
theorem dX12_blow_127 : decode cX12_blow 127 = .ok (.iload_n 2, 1) := by decide +kernel
theorem dX12_blow_128 : decode cX12_blow 128 = .ok (.if_icmp .ge 10, 3) := by decide +kernel
theorem dX12_blow_131 : decode cX12_blow 131 = .ok (.iload 5, 2) := by decide +kernel
theorem dX12_blow_133 : decode cX12_blow 133 = .ok (.iconst 1, 1) := by decide +kernel
theorem dX12_blow_134 : decode cX12_blow 134 = .ok (.iadd, 1) := by decide +kernel
theorem dX12_blow_135 : decode cX12_blow 135 = .ok (.goto 4, 3) := by decide +kernel
theorem dX12_blow_138 : decode cX12_blow 138 = .ok (.iload_n 2, 1) := by decide +kernel
theorem dX12_blow_139 : decode cX12_blow 139 = .ok (.istore 5, 2) := by decide +kernel
theorem dX12_blow_141 : decode cX12_blow 141 = .ok (.iinc 6 1, 3) := by decide +kernel
theorem dX12_blow_144 : decode cX12_blow 144 = .ok (.goto (-138), 3) := by decide +kernel
theorem dX12_blow_147 : decode cX12_blow 147 = .ok (.return_, 1) := by decide +kernel
theorem dX12_blowOf_0 : decode cX12_blowOf 0 = .ok (.aload_n 0, 1) := by decide +kernel
theorem dX12_blowOf_1 : decode cX12_blowOf 1 = .ok (.aload_n 1, 1) := by decide +kernel
theorem dX12_blowOf_2 : decode cX12_blowOf 2 = .ok (.aload_n 1, 1) := by decide +kernel
theorem dX12_blowOf_3 : decode cX12_blowOf 3 = .ok (.iconst 2, 1) := by decide +kernel
theorem dX12_blowOf_4 : decode cX12_blowOf 4 = .ok (.iload_n 2, 1) := by decide +kernel
theorem dX12_blowOf_5 : decode cX12_blowOf 5 = .ok (.bipush 8, 2) := by decide +kernel
theorem dX12_blowOf_7 : decode cX12_blowOf 7 = .ok (.irem, 1) := by decide +kernel
theorem dX12_blowOf_8 : decode cX12_blowOf 8 = .ok (.imul, 1) := by decide +kernel
theorem dX12_blowOf_9 : decode cX12_blowOf 9 = .ok (.iaload, 1) := by decide +kernel
theorem dX12_blowOf_10 : decode cX12_blowOf 10 = .ok (.aload_n 1, 1) := by decide +kernel
theorem dX12_blowOf_11 : decode cX12_blowOf 11 = .ok (.iconst 2, 1) := by decide +kernel
theorem dX12_blowOf_12 : decode cX12_blowOf 12 = .ok (.iload_n 2, 1) := by decide +kernel
theorem dX12_blowOf_13 : decode cX12_blowOf 13 = .ok (.bipush 8, 2) := by decide +kernel
theorem dX12_blowOf_15 : decode cX12_blowOf 15 = .ok (.irem, 1) := by decide +kernel
theorem dX12_blowOf_16 : decode cX12_blowOf 16 = .ok (.imul, 1) := by decide +kernel
theorem dX12_blowOf_17 : decode cX12_blowOf 17 = .ok (.iconst 1, 1) := by decide +kernel
theorem dX12_blowOf_18 : decode cX12_blowOf 18 = .ok (.iadd, 1) := by decide +kernel
theorem dX12_blowOf_19 : decode cX12_blowOf 19 = .ok (.iaload, 1) := by decide +kernel
theorem dX12_blowOf_20 : decode cX12_blowOf 20 = .ok (.iload_n 3, 1) := by decide +kernel
theorem dX12_blowOf_21 : decode cX12_blowOf 21 = .ok (.invokevirtual 74, 3) := by decide +kernel
theorem dX12_blowOf_24 : decode cX12_blowOf 24 = .ok (.return_, 1) := by decide +kernel
theorem dX12_everyone_0 : decode cX12_everyone 0 = .ok (.iconst 1, 1) := by decide +kernel
theorem dX12_everyone_1 : decode cX12_everyone 1 = .ok (.aload_n 0, 1) := by decide +kernel
theorem dX12_everyone_2 : decode cX12_everyone 2 = .ok (.bipush 16, 2) := by decide +kernel
theorem dX12_everyone_4 : decode cX12_everyone 4 = .ok (.iaload, 1) := by decide +kernel
theorem dX12_everyone_5 : decode cX12_everyone 5 = .ok (.ishl, 1) := by decide +kernel
theorem dX12_everyone_6 : decode cX12_everyone 6 = .ok (.iconst 1, 1) := by decide +kernel
theorem dX12_everyone_7 : decode cX12_everyone 7 = .ok (.isub, 1) := by decide +kernel
theorem dX12_everyone_8 : decode cX12_everyone 8 = .ok (.ireturn, 1) := by decide +kernel
theorem dX12_dayOf_0 : decode cX12_dayOf 0 = .ok (.iconst 0, 1) := by decide +kernel
theorem dX12_dayOf_1 : decode cX12_dayOf 1 = .ok (.istore 4, 2) := by decide +kernel
theorem dX12_dayOf_3 : decode cX12_dayOf 3 = .ok (.iconst 0, 1) := by decide +kernel
theorem dX12_dayOf_4 : decode cX12_dayOf 4 = .ok (.istore 5, 2) := by decide +kernel
theorem dX12_dayOf_6 : decode cX12_dayOf 6 = .ok (.iload 5, 2) := by decide +kernel
theorem dX12_dayOf_8 : decode cX12_dayOf 8 = .ok (.bipush 8, 2) := by decide +kernel
theorem dX12_dayOf_10 : decode cX12_dayOf 10 = .ok (.if_icmp .ge 60, 3) := by decide +kernel
theorem dX12_dayOf_13 : decode cX12_dayOf 13 = .ok (.aload_n 0, 1) := by decide +kernel
theorem dX12_dayOf_14 : decode cX12_dayOf 14 = .ok (.aload_n 1, 1) := by decide +kernel
theorem dX12_dayOf_15 : decode cX12_dayOf 15 = .ok (.iload 5, 2) := by decide +kernel
theorem dX12_dayOf_17 : decode cX12_dayOf 17 = .ok (.iload_n 2, 1) := by decide +kernel
theorem dX12_dayOf_18 : decode cX12_dayOf 18 = .ok (.invokevirtual 78, 3) := by decide +kernel
theorem dX12_dayOf_21 : decode cX12_dayOf 21 = .ok (.iconst 0, 1) := by decide +kernel
theorem dX12_dayOf_22 : decode cX12_dayOf 22 = .ok (.istore 6, 2) := by decide +kernel
theorem dX12_dayOf_24 : decode cX12_dayOf 24 = .ok (.iload 6, 2) := by decide +kernel
theorem dX12_dayOf_26 : decode cX12_dayOf 26 = .ok (.aload_n 1, 1) := by decide +kernel
theorem dX12_dayOf_27 : decode cX12_dayOf 27 = .ok (.bipush 16, 2) := by decide +kernel
theorem dX12_dayOf_29 : decode cX12_dayOf 29 = .ok (.iaload, 1) := by decide +kernel
theorem dX12_dayOf_30 : decode cX12_dayOf 30 = .ok (.if_icmp .ge 34, 3) := by decide +kernel
theorem dX12_dayOf_33 : decode cX12_dayOf 33 = .ok (.iload 4, 2) := by decide +kernel
theorem dX12_dayOf_35 : decode cX12_dayOf 35 = .ok (.iload_n 3, 1) := by decide +kernel
theorem dX12_dayOf_36 : decode cX12_dayOf 36 = .ok (.iload 6, 2) := by decide +kernel
theorem dX12_dayOf_38 : decode cX12_dayOf 38 = .ok (.invokestatic 62, 3) := by decide +kernel
theorem dX12_dayOf_41 : decode cX12_dayOf 41 = .ok (.ifCond .eq 13, 3) := by decide +kernel
theorem dX12_dayOf_44 : decode cX12_dayOf 44 = .ok (.aload_n 0, 1) := by decide +kernel
theorem dX12_dayOf_45 : decode cX12_dayOf 45 = .ok (.getfield 30, 3) := by decide +kernel
theorem dX12_dayOf_48 : decode cX12_dayOf 48 = .ok (.iload 6, 2) := by decide +kernel
theorem dX12_dayOf_50 : decode cX12_dayOf 50 = .ok (.iaload, 1) := by decide +kernel
theorem dX12_dayOf_51 : decode cX12_dayOf 51 = .ok (.goto 4, 3) := by decide +kernel
theorem dX12_dayOf_54 : decode cX12_dayOf 54 = .ok (.iconst 0, 1) := by decide +kernel
theorem dX12_dayOf_55 : decode cX12_dayOf 55 = .ok (.iadd, 1) := by decide +kernel
theorem dX12_dayOf_56 : decode cX12_dayOf 56 = .ok (.istore 4, 2) := by decide +kernel
theorem dX12_dayOf_58 : decode cX12_dayOf 58 = .ok (.iinc 6 1, 3) := by decide +kernel
theorem dX12_dayOf_61 : decode cX12_dayOf 61 = .ok (.goto (-37), 3) := by decide +kernel
theorem dX12_dayOf_64 : decode cX12_dayOf 64 = .ok (.iinc 5 1, 3) := by decide +kernel
theorem dX12_dayOf_67 : decode cX12_dayOf 67 = .ok (.goto (-61), 3) := by decide +kernel
theorem dX12_dayOf_70 : decode cX12_dayOf 70 = .ok (.iload 4, 2) := by decide +kernel
theorem dX12_dayOf_72 : decode cX12_dayOf 72 = .ok (.ireturn, 1) := by decide +kernel
theorem dX12_goOn_0 : decode cX12_goOn 0 = .ok (.iconst 0, 1) := by decide +kernel
theorem dX12_goOn_1 : decode cX12_goOn 1 = .ok (.istore_n 2, 1) := by decide +kernel
theorem dX12_goOn_2 : decode cX12_goOn 2 = .ok (.aload_n 0, 1) := by decide +kernel
theorem dX12_goOn_3 : decode cX12_goOn 3 = .ok (.aload_n 1, 1) := by decide +kernel
theorem dX12_goOn_4 : decode cX12_goOn 4 = .ok (.aload_n 1, 1) := by decide +kernel
theorem dX12_goOn_5 : decode cX12_goOn 5 = .ok (.bipush 66, 2) := by decide +kernel
theorem dX12_goOn_7 : decode cX12_goOn 7 = .ok (.iaload, 1) := by decide +kernel
theorem dX12_goOn_8 : decode cX12_goOn 8 = .ok (.aload_n 1, 1) := by decide +kernel
theorem dX12_goOn_9 : decode cX12_goOn 9 = .ok (.invokestatic 82, 3) := by decide +kernel
theorem dX12_goOn_12 : decode cX12_goOn 12 = .ok (.invokevirtual 78, 3) := by decide +kernel
theorem dX12_goOn_15 : decode cX12_goOn 15 = .ok (.iconst 0, 1) := by decide +kernel
theorem dX12_goOn_16 : decode cX12_goOn 16 = .ok (.istore_n 3, 1) := by decide +kernel
theorem dX12_goOn_17 : decode cX12_goOn 17 = .ok (.iload_n 3, 1) := by decide +kernel
theorem dX12_goOn_18 : decode cX12_goOn 18 = .ok (.aload_n 1, 1) := by decide +kernel
theorem dX12_goOn_19 : decode cX12_goOn 19 = .ok (.bipush 16, 2) := by decide +kernel
theorem dX12_goOn_21 : decode cX12_goOn 21 = .ok (.iaload, 1) := by decide +kernel
theorem dX12_goOn_22 : decode cX12_goOn 22 = .ok (.if_icmp .ge 44, 3) := by decide +kernel
theorem dX12_goOn_25 : decode cX12_goOn 25 = .ok (.aload_n 1, 1) := by decide +kernel
theorem dX12_goOn_26 : decode cX12_goOn 26 = .ok (.iload_n 3, 1) := by decide +kernel
theorem dX12_goOn_27 : decode cX12_goOn 27 = .ok (.iconst 0, 1) := by decide +kernel
theorem dX12_goOn_28 : decode cX12_goOn 28 = .ok (.invokestatic 66, 3) := by decide +kernel
theorem dX12_goOn_31 : decode cX12_goOn 31 = .ok (.aload_n 0, 1) := by decide +kernel
theorem dX12_goOn_32 : decode cX12_goOn 32 = .ok (.getfield 30, 3) := by decide +kernel
theorem dX12_goOn_35 : decode cX12_goOn 35 = .ok (.iload_n 3, 1) := by decide +kernel
theorem dX12_goOn_36 : decode cX12_goOn 36 = .ok (.iaload, 1) := by decide +kernel
theorem dX12_goOn_37 : decode cX12_goOn 37 = .ok (.invokestatic 86, 3) := by decide +kernel
theorem dX12_goOn_40 : decode cX12_goOn 40 = .ok (.istore 4, 2) := by decide +kernel
theorem dX12_goOn_42 : decode cX12_goOn 42 = .ok (.aload_n 1, 1) := by decide +kernel
theorem dX12_goOn_43 : decode cX12_goOn 43 = .ok (.bipush 20, 2) := by decide +kernel
theorem dX12_goOn_45 : decode cX12_goOn 45 = .ok (.iconst 4, 1) := by decide +kernel
theorem dX12_goOn_46 : decode cX12_goOn 46 = .ok (.iload_n 3, 1) := by decide +kernel
theorem dX12_goOn_47 : decode cX12_goOn 47 = .ok (.imul, 1) := by decide +kernel
theorem dX12_goOn_48 : decode cX12_goOn 48 = .ok (.iadd, 1) := by decide +kernel
theorem dX12_goOn_49 : decode cX12_goOn 49 = .ok (.dup2, 1) := by decide +kernel
theorem dX12_goOn_50 : decode cX12_goOn 50 = .ok (.iaload, 1) := by decide +kernel
theorem dX12_goOn_51 : decode cX12_goOn 51 = .ok (.iload 4, 2) := by decide +kernel
theorem dX12_goOn_53 : decode cX12_goOn 53 = .ok (.iadd, 1) := by decide +kernel
theorem dX12_goOn_54 : decode cX12_goOn 54 = .ok (.iastore, 1) := by decide +kernel
theorem dX12_goOn_55 : decode cX12_goOn 55 = .ok (.iload_n 2, 1) := by decide +kernel
theorem dX12_goOn_56 : decode cX12_goOn 56 = .ok (.iload 4, 2) := by decide +kernel
theorem dX12_goOn_58 : decode cX12_goOn 58 = .ok (.iadd, 1) := by decide +kernel
theorem dX12_goOn_59 : decode cX12_goOn 59 = .ok (.istore_n 2, 1) := by decide +kernel
theorem dX12_goOn_60 : decode cX12_goOn 60 = .ok (.iinc 3 1, 3) := by decide +kernel
theorem dX12_goOn_63 : decode cX12_goOn 63 = .ok (.goto (-46), 3) := by decide +kernel
theorem dX12_goOn_66 : decode cX12_goOn 66 = .ok (.aload_n 1, 1) := by decide +kernel
theorem dX12_goOn_67 : decode cX12_goOn 67 = .ok (.bipush 66, 2) := by decide +kernel
theorem dX12_goOn_69 : decode cX12_goOn 69 = .ok (.dup2, 1) := by decide +kernel
theorem dX12_goOn_70 : decode cX12_goOn 70 = .ok (.iaload, 1) := by decide +kernel
theorem dX12_goOn_71 : decode cX12_goOn 71 = .ok (.iconst 1, 1) := by decide +kernel
theorem dX12_goOn_72 : decode cX12_goOn 72 = .ok (.iadd, 1) := by decide +kernel
theorem dX12_goOn_73 : decode cX12_goOn 73 = .ok (.iastore, 1) := by decide +kernel
theorem dX12_goOn_74 : decode cX12_goOn 74 = .ok (.iload_n 2, 1) := by decide +kernel
theorem dX12_goOn_75 : decode cX12_goOn 75 = .ok (.ireturn, 1) := by decide +kernel
theorem dX12_hoursOf_0 : decode cX12_hoursOf 0 = .ok (.iconst 0, 1) := by decide +kernel
theorem dX12_hoursOf_1 : decode cX12_hoursOf 1 = .ok (.istore_n 3, 1) := by decide +kernel
theorem dX12_hoursOf_2 : decode cX12_hoursOf 2 = .ok (.iconst 0, 1) := by decide +kernel
theorem dX12_hoursOf_3 : decode cX12_hoursOf 3 = .ok (.istore 4, 2) := by decide +kernel
theorem dX12_hoursOf_5 : decode cX12_hoursOf 5 = .ok (.iload 4, 2) := by decide +kernel
theorem dX12_hoursOf_7 : decode cX12_hoursOf 7 = .ok (.iload_n 2, 1) := by decide +kernel
theorem dX12_hoursOf_8 : decode cX12_hoursOf 8 = .ok (.if_icmp .ge 27, 3) := by decide +kernel
theorem dX12_hoursOf_11 : decode cX12_hoursOf 11 = .ok (.aload_n 1, 1) := by decide +kernel
theorem dX12_hoursOf_12 : decode cX12_hoursOf 12 = .ok (.bipush 66, 2) := by decide +kernel
theorem dX12_hoursOf_14 : decode cX12_hoursOf 14 = .ok (.iaload, 1) := by decide +kernel
theorem dX12_hoursOf_15 : decode cX12_hoursOf 15 = .ok (.sipush 9999, 3) := by decide +kernel
theorem dX12_hoursOf_18 : decode cX12_hoursOf 18 = .ok (.if_icmp .ge 17, 3) := by decide +kernel
theorem dX12_hoursOf_21 : decode cX12_hoursOf 21 = .ok (.iload_n 3, 1) := by decide +kernel
theorem dX12_hoursOf_22 : decode cX12_hoursOf 22 = .ok (.aload_n 0, 1) := by decide +kernel
theorem dX12_hoursOf_23 : decode cX12_hoursOf 23 = .ok (.aload_n 1, 1) := by decide +kernel
theorem dX12_hoursOf_24 : decode cX12_hoursOf 24 = .ok (.invokevirtual 90, 3) := by decide +kernel
theorem dX12_hoursOf_27 : decode cX12_hoursOf 27 = .ok (.iadd, 1) := by decide +kernel
theorem dX12_hoursOf_28 : decode cX12_hoursOf 28 = .ok (.istore_n 3, 1) := by decide +kernel
theorem dX12_hoursOf_29 : decode cX12_hoursOf 29 = .ok (.iinc 4 1, 3) := by decide +kernel
theorem dX12_hoursOf_32 : decode cX12_hoursOf 32 = .ok (.goto (-27), 3) := by decide +kernel
theorem dX12_hoursOf_35 : decode cX12_hoursOf 35 = .ok (.iload_n 3, 1) := by decide +kernel
theorem dX12_hoursOf_36 : decode cX12_hoursOf 36 = .ok (.ireturn, 1) := by decide +kernel
theorem dX12_empty_0 : decode cX12_empty 0 = .ok (.iconst 0, 1) := by decide +kernel
theorem dX12_empty_1 : decode cX12_empty 1 = .ok (.istore_n 1, 1) := by decide +kernel
theorem dX12_empty_2 : decode cX12_empty 2 = .ok (.iload_n 1, 1) := by decide +kernel
theorem dX12_empty_3 : decode cX12_empty 3 = .ok (.sipush 378, 3) := by decide +kernel
theorem dX12_empty_6 : decode cX12_empty 6 = .ok (.if_icmp .ge 13, 3) := by decide +kernel
theorem dX12_empty_9 : decode cX12_empty 9 = .ok (.aload_n 0, 1) := by decide +kernel
theorem dX12_empty_10 : decode cX12_empty 10 = .ok (.iload_n 1, 1) := by decide +kernel
theorem dX12_empty_11 : decode cX12_empty 11 = .ok (.iconst 0, 1) := by decide +kernel
theorem dX12_empty_12 : decode cX12_empty 12 = .ok (.iastore, 1) := by decide +kernel
theorem dX12_empty_13 : decode cX12_empty 13 = .ok (.iinc 1 1, 3) := by decide +kernel
theorem dX12_empty_16 : decode cX12_empty 16 = .ok (.goto (-14), 3) := by decide +kernel
theorem dX12_empty_19 : decode cX12_empty 19 = .ok (.return_, 1) := by decide +kernel
theorem dX12_layFresh_0 : decode cX12_layFresh 0 = .ok (.iconst 0, 1) := by decide +kernel
theorem dX12_layFresh_1 : decode cX12_layFresh 1 = .ok (.istore_n 1, 1) := by decide +kernel
theorem dX12_layFresh_2 : decode cX12_layFresh 2 = .ok (.iload_n 1, 1) := by decide +kernel
theorem dX12_layFresh_3 : decode cX12_layFresh 3 = .ok (.sipush 378, 3) := by decide +kernel
theorem dX12_layFresh_6 : decode cX12_layFresh 6 = .ok (.if_icmp .ge 21, 3) := by decide +kernel
theorem dX12_layFresh_9 : decode cX12_layFresh 9 = .ok (.aload_n 0, 1) := by decide +kernel
theorem dX12_layFresh_10 : decode cX12_layFresh 10 = .ok (.getfield 13, 3) := by decide +kernel
theorem dX12_layFresh_13 : decode cX12_layFresh 13 = .ok (.iload_n 1, 1) := by decide +kernel
theorem dX12_layFresh_14 : decode cX12_layFresh 14 = .ok (.aload_n 0, 1) := by decide +kernel
theorem dX12_layFresh_15 : decode cX12_layFresh 15 = .ok (.getfield 7, 3) := by decide +kernel
theorem dX12_layFresh_18 : decode cX12_layFresh 18 = .ok (.iload_n 1, 1) := by decide +kernel
theorem dX12_layFresh_19 : decode cX12_layFresh 19 = .ok (.iaload, 1) := by decide +kernel
theorem dX12_layFresh_20 : decode cX12_layFresh 20 = .ok (.iastore, 1) := by decide +kernel
theorem dX12_layFresh_21 : decode cX12_layFresh 21 = .ok (.iinc 1 1, 3) := by decide +kernel
theorem dX12_layFresh_24 : decode cX12_layFresh 24 = .ok (.goto (-22), 3) := by decide +kernel
theorem dX12_layFresh_27 : decode cX12_layFresh 27 = .ok (.return_, 1) := by decide +kernel
theorem dX12_island_0 : decode cX12_island 0 = .ok (.aload_n 0, 1) := by decide +kernel
theorem dX12_island_1 : decode cX12_island 1 = .ok (.getfield 7, 3) := by decide +kernel
theorem dX12_island_4 : decode cX12_island 4 = .ok (.bipush 16, 2) := by decide +kernel
theorem dX12_island_6 : decode cX12_island 6 = .ok (.iaload, 1) := by decide +kernel
theorem dX12_island_7 : decode cX12_island 7 = .ok (.istore_n 1, 1) := by decide +kernel
theorem dX12_island_8 : decode cX12_island 8 = .ok (.aload_n 0, 1) := by decide +kernel
theorem dX12_island_9 : decode cX12_island 9 = .ok (.getfield 7, 3) := by decide +kernel
theorem dX12_island_12 : decode cX12_island 12 = .ok (.invokestatic 93, 3) := by decide +kernel
theorem dX12_island_15 : decode cX12_island 15 = .ok (.iload_n 1, 1) := by decide +kernel
theorem dX12_island_16 : decode cX12_island 16 = .ok (.ireturn, 1) := by decide +kernel
theorem dX12_wind_0 : decode cX12_wind 0 = .ok (.iload_n 1, 1) := by decide +kernel
theorem dX12_wind_1 : decode cX12_wind 1 = .ok (.i2l, 1) := by decide +kernel
theorem dX12_wind_2 : decode cX12_wind 2 = .ok (.lconst 0, 1) := by decide +kernel
theorem dX12_wind_3 : decode cX12_wind 3 = .ok (.ldc2_w 97, 3) := by decide +kernel
theorem dX12_wind_6 : decode cX12_wind 6 = .ok (.invokestatic 55, 3) := by decide +kernel
theorem dX12_wind_9 : decode cX12_wind 9 = .ok (.ifCond .eq 25, 3) := by decide +kernel
theorem dX12_wind_12 : decode cX12_wind 12 = .ok (.iload_n 2, 1) := by decide +kernel
theorem dX12_wind_13 : decode cX12_wind 13 = .ok (.i2l, 1) := by decide +kernel
theorem dX12_wind_14 : decode cX12_wind 14 = .ok (.lconst 0, 1) := by decide +kernel
theorem dX12_wind_15 : decode cX12_wind 15 = .ok (.ldc2_w 99, 3) := by decide +kernel
theorem dX12_wind_18 : decode cX12_wind 18 = .ok (.invokestatic 55, 3) := by decide +kernel
theorem dX12_wind_21 : decode cX12_wind 21 = .ok (.ifCond .eq 13, 3) := by decide +kernel
theorem dX12_wind_24 : decode cX12_wind 24 = .ok (.iload_n 3, 1) := by decide +kernel
theorem dX12_wind_25 : decode cX12_wind 25 = .ok (.i2l, 1) := by decide +kernel
theorem dX12_wind_26 : decode cX12_wind 26 = .ok (.lconst 0, 1) := by decide +kernel
theorem dX12_wind_27 : decode cX12_wind 27 = .ok (.lconst 1, 1) := by decide +kernel
theorem dX12_wind_28 : decode cX12_wind 28 = .ok (.invokestatic 55, 3) := by decide +kernel
theorem dX12_wind_31 : decode cX12_wind 31 = .ok (.ifCond .ne 8, 3) := by decide +kernel
theorem dX12_wind_34 : decode cX12_wind 34 = .ok (.aload_n 0, 1) := by decide +kernel
theorem dX12_wind_35 : decode cX12_wind 35 = .ok (.invokevirtual 101, 3) := by decide +kernel
theorem dX12_wind_38 : decode cX12_wind 38 = .ok (.ireturn, 1) := by decide +kernel
theorem dX12_wind_39 : decode cX12_wind 39 = .ok (.bipush 10, 2) := by decide +kernel
theorem dX12_wind_41 : decode cX12_wind 41 = .ok (.aload_n 0, 1) := by decide +kernel
theorem dX12_wind_42 : decode cX12_wind 42 = .ok (.getfield 7, 3) := by decide +kernel
theorem dX12_wind_45 : decode cX12_wind 45 = .ok (.iconst 2, 1) := by decide +kernel
theorem dX12_wind_46 : decode cX12_wind 46 = .ok (.iload_n 1, 1) := by decide +kernel
theorem dX12_wind_47 : decode cX12_wind 47 = .ok (.imul, 1) := by decide +kernel
theorem dX12_wind_48 : decode cX12_wind 48 = .ok (.iaload, 1) := by decide +kernel
theorem dX12_wind_49 : decode cX12_wind 49 = .ok (.imul, 1) := by decide +kernel
theorem dX12_wind_50 : decode cX12_wind 50 = .ok (.aload_n 0, 1) := by decide +kernel
theorem dX12_wind_51 : decode cX12_wind 51 = .ok (.getfield 7, 3) := by decide +kernel
theorem dX12_wind_54 : decode cX12_wind 54 = .ok (.iconst 2, 1) := by decide +kernel
theorem dX12_wind_55 : decode cX12_wind 55 = .ok (.iload_n 1, 1) := by decide +kernel
theorem dX12_wind_56 : decode cX12_wind 56 = .ok (.imul, 1) := by decide +kernel
theorem dX12_wind_57 : decode cX12_wind 57 = .ok (.iconst 1, 1) := by decide +kernel
theorem dX12_wind_58 : decode cX12_wind 58 = .ok (.iadd, 1) := by decide +kernel
theorem dX12_wind_59 : decode cX12_wind 59 = .ok (.iaload, 1) := by decide +kernel
theorem dX12_wind_60 : decode cX12_wind 60 = .ok (.iadd, 1) := by decide +kernel
theorem dX12_wind_61 : decode cX12_wind 61 = .ok (.istore 4, 2) := by decide +kernel
theorem dX12_wind_63 : decode cX12_wind 63 = .ok (.aload_n 0, 1) := by decide +kernel
theorem dX12_wind_64 : decode cX12_wind 64 = .ok (.getfield 7, 3) := by decide +kernel
theorem dX12_wind_67 : decode cX12_wind 67 = .ok (.iconst 2, 1) := by decide +kernel
theorem dX12_wind_68 : decode cX12_wind 68 = .ok (.iload_n 1, 1) := by decide +kernel
theorem dX12_wind_69 : decode cX12_wind 69 = .ok (.imul, 1) := by decide +kernel
theorem dX12_wind_70 : decode cX12_wind 70 = .ok (.iload_n 2, 1) := by decide +kernel
theorem dX12_wind_71 : decode cX12_wind 71 = .ok (.iastore, 1) := by decide +kernel
theorem dX12_wind_72 : decode cX12_wind 72 = .ok (.aload_n 0, 1) := by decide +kernel
theorem dX12_wind_73 : decode cX12_wind 73 = .ok (.getfield 7, 3) := by decide +kernel
theorem dX12_wind_76 : decode cX12_wind 76 = .ok (.iconst 2, 1) := by decide +kernel
theorem dX12_wind_77 : decode cX12_wind 77 = .ok (.iload_n 1, 1) := by decide +kernel
theorem dX12_wind_78 : decode cX12_wind 78 = .ok (.imul, 1) := by decide +kernel
theorem dX12_wind_79 : decode cX12_wind 79 = .ok (.iconst 1, 1) := by decide +kernel
theorem dX12_wind_80 : decode cX12_wind 80 = .ok (.iadd, 1) := by decide +kernel
theorem dX12_wind_81 : decode cX12_wind 81 = .ok (.iload_n 3, 1) := by decide +kernel
theorem dX12_wind_82 : decode cX12_wind 82 = .ok (.iastore, 1) := by decide +kernel
theorem dX12_wind_83 : decode cX12_wind 83 = .ok (.aload_n 0, 1) := by decide +kernel
theorem dX12_wind_84 : decode cX12_wind 84 = .ok (.getfield 7, 3) := by decide +kernel
theorem dX12_wind_87 : decode cX12_wind 87 = .ok (.sipush 137, 3) := by decide +kernel
theorem dX12_wind_90 : decode cX12_wind 90 = .ok (.iconst 0, 1) := by decide +kernel
theorem dX12_wind_91 : decode cX12_wind 91 = .ok (.iastore, 1) := by decide +kernel
theorem dX12_wind_92 : decode cX12_wind 92 = .ok (.iload 4, 2) := by decide +kernel
theorem dX12_wind_94 : decode cX12_wind 94 = .ok (.ireturn, 1) := by decide +kernel
theorem dX12_comes_0 : decode cX12_comes 0 = .ok (.bipush 17, 2) := by decide +kernel
theorem dX12_comes_2 : decode cX12_comes 2 = .ok (.iconst 4, 1) := by decide +kernel
theorem dX12_comes_3 : decode cX12_comes 3 = .ok (.aload_n 0, 1) := by decide +kernel
theorem dX12_comes_4 : decode cX12_comes 4 = .ok (.bipush 16, 2) := by decide +kernel
theorem dX12_comes_6 : decode cX12_comes 6 = .ok (.iaload, 1) := by decide +kernel
theorem dX12_comes_7 : decode cX12_comes 7 = .ok (.imul, 1) := by decide +kernel
theorem dX12_comes_8 : decode cX12_comes 8 = .ok (.iadd, 1) := by decide +kernel
theorem dX12_comes_9 : decode cX12_comes 9 = .ok (.istore 4, 2) := by decide +kernel
theorem dX12_comes_11 : decode cX12_comes 11 = .ok (.aload_n 0, 1) := by decide +kernel
theorem dX12_comes_12 : decode cX12_comes 12 = .ok (.iload 4, 2) := by decide +kernel
theorem dX12_comes_14 : decode cX12_comes 14 = .ok (.iload_n 1, 1) := by decide +kernel
theorem dX12_comes_15 : decode cX12_comes 15 = .ok (.iastore, 1) := by decide +kernel
theorem dX12_comes_16 : decode cX12_comes 16 = .ok (.aload_n 0, 1) := by decide +kernel
theorem dX12_comes_17 : decode cX12_comes 17 = .ok (.iload 4, 2) := by decide +kernel
theorem dX12_comes_19 : decode cX12_comes 19 = .ok (.iconst 1, 1) := by decide +kernel
theorem dX12_comes_20 : decode cX12_comes 20 = .ok (.iadd, 1) := by decide +kernel
theorem dX12_comes_21 : decode cX12_comes 21 = .ok (.iload_n 2, 1) := by decide +kernel
theorem dX12_comes_22 : decode cX12_comes 22 = .ok (.iastore, 1) := by decide +kernel
theorem dX12_comes_23 : decode cX12_comes 23 = .ok (.aload_n 0, 1) := by decide +kernel
theorem dX12_comes_24 : decode cX12_comes 24 = .ok (.iload 4, 2) := by decide +kernel
theorem dX12_comes_26 : decode cX12_comes 26 = .ok (.iconst 2, 1) := by decide +kernel
theorem dX12_comes_27 : decode cX12_comes 27 = .ok (.iadd, 1) := by decide +kernel
theorem dX12_comes_28 : decode cX12_comes 28 = .ok (.iload_n 3, 1) := by decide +kernel
theorem dX12_comes_29 : decode cX12_comes 29 = .ok (.iastore, 1) := by decide +kernel
theorem dX12_comes_30 : decode cX12_comes 30 = .ok (.aload_n 0, 1) := by decide +kernel
theorem dX12_comes_31 : decode cX12_comes 31 = .ok (.iload 4, 2) := by decide +kernel
theorem dX12_comes_33 : decode cX12_comes 33 = .ok (.iconst 3, 1) := by decide +kernel
theorem dX12_comes_34 : decode cX12_comes 34 = .ok (.iadd, 1) := by decide +kernel
theorem dX12_comes_35 : decode cX12_comes 35 = .ok (.iconst 0, 1) := by decide +kernel
theorem dX12_comes_36 : decode cX12_comes 36 = .ok (.iastore, 1) := by decide +kernel
theorem dX12_comes_37 : decode cX12_comes 37 = .ok (.aload_n 0, 1) := by decide +kernel
theorem dX12_comes_38 : decode cX12_comes 38 = .ok (.bipush 16, 2) := by decide +kernel
theorem dX12_comes_40 : decode cX12_comes 40 = .ok (.dup2, 1) := by decide +kernel
theorem dX12_comes_41 : decode cX12_comes 41 = .ok (.iaload, 1) := by decide +kernel
theorem dX12_comes_42 : decode cX12_comes 42 = .ok (.iconst 1, 1) := by decide +kernel
theorem dX12_comes_43 : decode cX12_comes 43 = .ok (.iadd, 1) := by decide +kernel
theorem dX12_comes_44 : decode cX12_comes 44 = .ok (.iastore, 1) := by decide +kernel
theorem dX12_comes_45 : decode cX12_comes 45 = .ok (.return_, 1) := by decide +kernel
theorem dX12_user_0 : decode cX12_user 0 = .ok (.iload_n 1, 1) := by decide +kernel
theorem dX12_user_1 : decode cX12_user 1 = .ok (.i2l, 1) := by decide +kernel
theorem dX12_user_2 : decode cX12_user 2 = .ok (.lconst 0, 1) := by decide +kernel
theorem dX12_user_3 : decode cX12_user 3 = .ok (.ldc2_w 105, 3) := by decide +kernel
theorem dX12_user_6 : decode cX12_user 6 = .ok (.invokestatic 55, 3) := by decide +kernel
theorem dX12_user_9 : decode cX12_user 9 = .ok (.ifCond .eq 27, 3) := by decide +kernel
theorem dX12_user_12 : decode cX12_user 12 = .ok (.iload_n 2, 1) := by decide +kernel
theorem dX12_user_13 : decode cX12_user 13 = .ok (.i2l, 1) := by decide +kernel
theorem dX12_user_14 : decode cX12_user 14 = .ok (.lconst 0, 1) := by decide +kernel
theorem dX12_user_15 : decode cX12_user 15 = .ok (.ldc2_w 107, 3) := by decide +kernel
theorem dX12_user_18 : decode cX12_user 18 = .ok (.invokestatic 55, 3) := by decide +kernel
theorem dX12_user_21 : decode cX12_user 21 = .ok (.ifCond .eq 15, 3) := by decide +kernel
theorem dX12_user_24 : decode cX12_user 24 = .ok (.iload_n 3, 1) := by decide +kernel
theorem dX12_user_25 : decode cX12_user 25 = .ok (.i2l, 1) := by decide +kernel
theorem dX12_user_26 : decode cX12_user 26 = .ok (.lconst 1, 1) := by decide +kernel
theorem dX12_user_27 : decode cX12_user 27 = .ok (.ldc2_w 109, 3) := by decide +kernel
theorem dX12_user_30 : decode cX12_user 30 = .ok (.invokestatic 55, 3) := by decide +kernel
theorem dX12_user_33 : decode cX12_user 33 = .ok (.ifCond .ne 8, 3) := by decide +kernel
theorem dX12_user_36 : decode cX12_user 36 = .ok (.aload_n 0, 1) := by decide +kernel
theorem dX12_user_37 : decode cX12_user 37 = .ok (.invokevirtual 101, 3) := by decide +kernel
theorem dX12_user_40 : decode cX12_user 40 = .ok (.ireturn, 1) := by decide +kernel
theorem dX12_user_41 : decode cX12_user 41 = .ok (.aload_n 0, 1) := by decide +kernel
theorem dX12_user_42 : decode cX12_user 42 = .ok (.getfield 7, 3) := by decide +kernel
theorem dX12_user_45 : decode cX12_user 45 = .ok (.bipush 16, 2) := by decide +kernel
theorem dX12_user_47 : decode cX12_user 47 = .ok (.iaload, 1) := by decide +kernel
theorem dX12_user_48 : decode cX12_user 48 = .ok (.bipush 7, 2) := by decide +kernel
theorem dX12_user_50 : decode cX12_user 50 = .ok (.if_icmp .ne 8, 3) := by decide +kernel
theorem dX12_user_53 : decode cX12_user 53 = .ok (.aload_n 0, 1) := by decide +kernel
theorem dX12_user_54 : decode cX12_user 54 = .ok (.invokevirtual 111, 3) := by decide +kernel
theorem dX12_user_57 : decode cX12_user 57 = .ok (.ireturn, 1) := by decide +kernel
theorem dX12_user_58 : decode cX12_user 58 = .ok (.aload_n 0, 1) := by decide +kernel
theorem dX12_user_59 : decode cX12_user 59 = .ok (.getfield 7, 3) := by decide +kernel
theorem dX12_user_62 : decode cX12_user 62 = .ok (.iload_n 1, 1) := by decide +kernel
theorem dX12_user_63 : decode cX12_user 63 = .ok (.iload_n 2, 1) := by decide +kernel
theorem dX12_user_64 : decode cX12_user 64 = .ok (.iload_n 3, 1) := by decide +kernel
theorem dX12_user_65 : decode cX12_user 65 = .ok (.invokestatic 114, 3) := by decide +kernel
theorem dX12_user_68 : decode cX12_user 68 = .ok (.aload_n 0, 1) := by decide +kernel
theorem dX12_user_69 : decode cX12_user 69 = .ok (.getfield 7, 3) := by decide +kernel
theorem dX12_user_72 : decode cX12_user 72 = .ok (.sipush 137, 3) := by decide +kernel
theorem dX12_user_75 : decode cX12_user 75 = .ok (.iconst 0, 1) := by decide +kernel
theorem dX12_user_76 : decode cX12_user 76 = .ok (.iastore, 1) := by decide +kernel
theorem dX12_user_77 : decode cX12_user 77 = .ok (.aload_n 0, 1) := by decide +kernel
theorem dX12_user_78 : decode cX12_user 78 = .ok (.getfield 7, 3) := by decide +kernel
theorem dX12_user_81 : decode cX12_user 81 = .ok (.bipush 16, 2) := by decide +kernel
theorem dX12_user_83 : decode cX12_user 83 = .ok (.iaload, 1) := by decide +kernel
theorem dX12_user_84 : decode cX12_user 84 = .ok (.iconst 1, 1) := by decide +kernel
theorem dX12_user_85 : decode cX12_user 85 = .ok (.isub, 1) := by decide +kernel
theorem dX12_user_86 : decode cX12_user 86 = .ok (.ireturn, 1) := by decide +kernel
theorem dX12_type_0 : decode cX12_type 0 = .ok (.iload_n 1, 1) := by decide +kernel
theorem dX12_type_1 : decode cX12_type 1 = .ok (.i2l, 1) := by decide +kernel
theorem dX12_type_2 : decode cX12_type 2 = .ok (.lconst 0, 1) := by decide +kernel
theorem dX12_type_3 : decode cX12_type 3 = .ok (.ldc2_w 117, 3) := by decide +kernel
theorem dX12_type_6 : decode cX12_type 6 = .ok (.invokestatic 55, 3) := by decide +kernel
theorem dX12_type_9 : decode cX12_type 9 = .ok (.ifCond .ne 8, 3) := by decide +kernel
theorem dX12_type_12 : decode cX12_type 12 = .ok (.aload_n 0, 1) := by decide +kernel
theorem dX12_type_13 : decode cX12_type 13 = .ok (.invokevirtual 101, 3) := by decide +kernel
theorem dX12_type_16 : decode cX12_type 16 = .ok (.ireturn, 1) := by decide +kernel
theorem dX12_type_17 : decode cX12_type 17 = .ok (.aload_n 0, 1) := by decide +kernel
theorem dX12_type_18 : decode cX12_type 18 = .ok (.getfield 119, 3) := by decide +kernel
theorem dX12_type_21 : decode cX12_type 21 = .ok (.sipush 150, 3) := by decide +kernel
theorem dX12_type_24 : decode cX12_type 24 = .ok (.if_icmp .ne 8, 3) := by decide +kernel
theorem dX12_type_27 : decode cX12_type 27 = .ok (.aload_n 0, 1) := by decide +kernel
theorem dX12_type_28 : decode cX12_type 28 = .ok (.invokevirtual 111, 3) := by decide +kernel
theorem dX12_type_31 : decode cX12_type 31 = .ok (.ireturn, 1) := by decide +kernel
theorem dX12_type_32 : decode cX12_type 32 = .ok (.aload_n 0, 1) := by decide +kernel
theorem dX12_type_33 : decode cX12_type 33 = .ok (.getfield 39, 3) := by decide +kernel
theorem dX12_type_36 : decode cX12_type 36 = .ok (.aload_n 0, 1) := by decide +kernel
theorem dX12_type_37 : decode cX12_type 37 = .ok (.getfield 119, 3) := by decide +kernel
theorem dX12_type_40 : decode cX12_type 40 = .ok (.iload_n 1, 1) := by decide +kernel
theorem dX12_type_41 : decode cX12_type 41 = .ok (.iastore, 1) := by decide +kernel
theorem dX12_type_42 : decode cX12_type 42 = .ok (.aload_n 0, 1) := by decide +kernel
theorem dX12_type_43 : decode cX12_type 43 = .ok (.dup, 1) := by decide +kernel
theorem dX12_type_44 : decode cX12_type 44 = .ok (.getfield 119, 3) := by decide +kernel
theorem dX12_type_47 : decode cX12_type 47 = .ok (.iconst 1, 1) := by decide +kernel
theorem dX12_type_48 : decode cX12_type 48 = .ok (.iadd, 1) := by decide +kernel
theorem dX12_type_49 : decode cX12_type 49 = .ok (.putfield 119, 3) := by decide +kernel
theorem dX12_type_52 : decode cX12_type 52 = .ok (.aload_n 0, 1) := by decide +kernel
theorem dX12_type_53 : decode cX12_type 53 = .ok (.getfield 119, 3) := by decide +kernel
theorem dX12_type_56 : decode cX12_type 56 = .ok (.ireturn, 1) := by decide +kernel
theorem dX12_clear_0 : decode cX12_clear 0 = .ok (.aload_n 0, 1) := by decide +kernel
theorem dX12_clear_1 : decode cX12_clear 1 = .ok (.getfield 119, 3) := by decide +kernel
theorem dX12_clear_4 : decode cX12_clear 4 = .ok (.istore_n 1, 1) := by decide +kernel
theorem dX12_clear_5 : decode cX12_clear 5 = .ok (.aload_n 0, 1) := by decide +kernel
theorem dX12_clear_6 : decode cX12_clear 6 = .ok (.iconst 0, 1) := by decide +kernel
theorem dX12_clear_7 : decode cX12_clear 7 = .ok (.putfield 119, 3) := by decide +kernel
theorem dX12_clear_10 : decode cX12_clear 10 = .ok (.iload_n 1, 1) := by decide +kernel
theorem dX12_clear_11 : decode cX12_clear 11 = .ok (.ireturn, 1) := by decide +kernel
theorem dX12_isFigure_0 : decode cX12_isFigure 0 = .ok (.iload_n 0, 1) := by decide +kernel
theorem dX12_isFigure_1 : decode cX12_isFigure 1 = .ok (.bipush 48, 2) := by decide +kernel
theorem dX12_isFigure_3 : decode cX12_isFigure 3 = .ok (.if_icmp .lt 13, 3) := by decide +kernel
theorem dX12_isFigure_6 : decode cX12_isFigure 6 = .ok (.iload_n 0, 1) := by decide +kernel
theorem dX12_isFigure_7 : decode cX12_isFigure 7 = .ok (.bipush 57, 2) := by decide +kernel
theorem dX12_isFigure_9 : decode cX12_isFigure 9 = .ok (.if_icmp .gt 7, 3) := by decide +kernel
theorem dX12_isFigure_12 : decode cX12_isFigure 12 = .ok (.iconst 1, 1) := by decide +kernel
theorem dX12_isFigure_13 : decode cX12_isFigure 13 = .ok (.goto 4, 3) := by decide +kernel
theorem dX12_isFigure_16 : decode cX12_isFigure 16 = .ok (.iconst 0, 1) := by decide +kernel
theorem dX12_isFigure_17 : decode cX12_isFigure 17 = .ok (.ireturn, 1) := by decide +kernel
theorem dX12_isLetter_0 : decode cX12_isLetter 0 = .ok (.iload_n 0, 1) := by decide +kernel
theorem dX12_isLetter_1 : decode cX12_isLetter 1 = .ok (.bipush 97, 2) := by decide +kernel
theorem dX12_isLetter_3 : decode cX12_isLetter 3 = .ok (.if_icmp .lt 13, 3) := by decide +kernel
theorem dX12_isLetter_6 : decode cX12_isLetter 6 = .ok (.iload_n 0, 1) := by decide +kernel
theorem dX12_isLetter_7 : decode cX12_isLetter 7 = .ok (.bipush 122, 2) := by decide +kernel
theorem dX12_isLetter_9 : decode cX12_isLetter 9 = .ok (.if_icmp .gt 7, 3) := by decide +kernel
theorem dX12_isLetter_12 : decode cX12_isLetter 12 = .ok (.iconst 1, 1) := by decide +kernel
theorem dX12_isLetter_13 : decode cX12_isLetter 13 = .ok (.goto 4, 3) := by decide +kernel
theorem dX12_isLetter_16 : decode cX12_isLetter 16 = .ok (.iconst 0, 1) := by decide +kernel
theorem dX12_isLetter_17 : decode cX12_isLetter 17 = .ok (.ireturn, 1) := by decide +kernel
theorem dX12_wordBy_0 : decode cX12_wordBy 0 = .ok (.iconst 0, 1) := by decide +kernel
theorem dX12_wordBy_1 : decode cX12_wordBy 1 = .ok (.istore_n 2, 1) := by decide +kernel
theorem dX12_wordBy_2 : decode cX12_wordBy 2 = .ok (.aload_n 0, 1) := by decide +kernel
theorem dX12_wordBy_3 : decode cX12_wordBy 3 = .ok (.getfield 122, 3) := by decide +kernel
theorem dX12_wordBy_6 : decode cX12_wordBy 6 = .ok (.istore_n 3, 1) := by decide +kernel
theorem dX12_wordBy_7 : decode cX12_wordBy 7 = .ok (.iload_n 3, 1) := by decide +kernel
theorem dX12_wordBy_8 : decode cX12_wordBy 8 = .ok (.iload_n 1, 1) := by decide +kernel
theorem dX12_wordBy_9 : decode cX12_wordBy 9 = .ok (.if_icmp .ge 35, 3) := by decide +kernel
theorem dX12_wordBy_12 : decode cX12_wordBy 12 = .ok (.iload_n 3, 1) := by decide +kernel
theorem dX12_wordBy_13 : decode cX12_wordBy 13 = .ok (.aload_n 0, 1) := by decide +kernel
theorem dX12_wordBy_14 : decode cX12_wordBy 14 = .ok (.getfield 122, 3) := by decide +kernel
theorem dX12_wordBy_17 : decode cX12_wordBy 17 = .ok (.bipush 6, 2) := by decide +kernel
theorem dX12_wordBy_19 : decode cX12_wordBy 19 = .ok (.iadd, 1) := by decide +kernel
theorem dX12_wordBy_20 : decode cX12_wordBy 20 = .ok (.if_icmp .ge 24, 3) := by decide +kernel
theorem dX12_wordBy_23 : decode cX12_wordBy 23 = .ok (.bipush 32, 2) := by decide +kernel
theorem dX12_wordBy_25 : decode cX12_wordBy 25 = .ok (.iload_n 2, 1) := by decide +kernel
theorem dX12_wordBy_26 : decode cX12_wordBy 26 = .ok (.imul, 1) := by decide +kernel
theorem dX12_wordBy_27 : decode cX12_wordBy 27 = .ok (.aload_n 0, 1) := by decide +kernel
theorem dX12_wordBy_28 : decode cX12_wordBy 28 = .ok (.getfield 39, 3) := by decide +kernel
theorem dX12_wordBy_31 : decode cX12_wordBy 31 = .ok (.iload_n 3, 1) := by decide +kernel
theorem dX12_wordBy_32 : decode cX12_wordBy 32 = .ok (.iaload, 1) := by decide +kernel
theorem dX12_wordBy_33 : decode cX12_wordBy 33 = .ok (.iadd, 1) := by decide +kernel
theorem dX12_wordBy_34 : decode cX12_wordBy 34 = .ok (.bipush 96, 2) := by decide +kernel
theorem dX12_wordBy_36 : decode cX12_wordBy 36 = .ok (.isub, 1) := by decide +kernel
theorem dX12_wordBy_37 : decode cX12_wordBy 37 = .ok (.istore_n 2, 1) := by decide +kernel
theorem dX12_wordBy_38 : decode cX12_wordBy 38 = .ok (.iinc 3 1, 3) := by decide +kernel
theorem dX12_wordBy_41 : decode cX12_wordBy 41 = .ok (.goto (-34), 3) := by decide +kernel
theorem dX12_wordBy_44 : decode cX12_wordBy 44 = .ok (.iload_n 1, 1) := by decide +kernel
theorem dX12_wordBy_45 : decode cX12_wordBy 45 = .ok (.aload_n 0, 1) := by decide +kernel
theorem dX12_wordBy_46 : decode cX12_wordBy 46 = .ok (.getfield 122, 3) := by decide +kernel
theorem dX12_wordBy_49 : decode cX12_wordBy 49 = .ok (.isub, 1) := by decide +kernel
theorem dX12_wordBy_50 : decode cX12_wordBy 50 = .ok (.bipush 6, 2) := by decide +kernel
theorem dX12_wordBy_52 : decode cX12_wordBy 52 = .ok (.if_icmp .le 7, 3) := by decide +kernel
theorem dX12_wordBy_55 : decode cX12_wordBy 55 = .ok (.sipush 300, 3) := by decide +kernel
theorem dX12_wordBy_58 : decode cX12_wordBy 58 = .ok (.ireturn, 1) := by decide +kernel
theorem dX12_wordBy_59 : decode cX12_wordBy 59 = .ok (.iload_n 2, 1) := by decide +kernel
theorem dX12_wordBy_60 : decode cX12_wordBy 60 = .ok (.lookupswitch 67 #[(644404, 61), (707762, 58), (8902227, 64), (24426643, 55), (322307524, 52)], 52) := by decide +kernel
theorem dX12_wordBy_112 : decode cX12_wordBy 112 = .ok (.bipush 100, 2) := by decide +kernel
theorem dX12_wordBy_114 : decode cX12_wordBy 114 = .ok (.ireturn, 1) := by decide +kernel
theorem dX12_wordBy_115 : decode cX12_wordBy 115 = .ok (.bipush 101, 2) := by decide +kernel
theorem dX12_wordBy_117 : decode cX12_wordBy 117 = .ok (.ireturn, 1) := by decide +kernel
theorem dX12_wordBy_118 : decode cX12_wordBy 118 = .ok (.bipush 102, 2) := by decide +kernel
theorem dX12_wordBy_120 : decode cX12_wordBy 120 = .ok (.ireturn, 1) := by decide +kernel
theorem dX12_wordBy_121 : decode cX12_wordBy 121 = .ok (.bipush 103, 2) := by decide +kernel
theorem dX12_wordBy_123 : decode cX12_wordBy 123 = .ok (.ireturn, 1) := by decide +kernel
theorem dX12_wordBy_124 : decode cX12_wordBy 124 = .ok (.bipush 104, 2) := by decide +kernel
theorem dX12_wordBy_126 : decode cX12_wordBy 126 = .ok (.ireturn, 1) := by decide +kernel
theorem dX12_wordBy_127 : decode cX12_wordBy 127 = .ok (.sipush 300, 3) := by decide +kernel
theorem dX12_wordBy_130 : decode cX12_wordBy 130 = .ok (.ireturn, 1) := by decide +kernel
theorem dX12_next_0 : decode cX12_next 0 = .ok (.aload_n 0, 1) := by decide +kernel
theorem dX12_next_1 : decode cX12_next 1 = .ok (.getfield 125, 3) := by decide +kernel
theorem dX12_next_4 : decode cX12_next 4 = .ok (.aload_n 0, 1) := by decide +kernel
theorem dX12_next_5 : decode cX12_next 5 = .ok (.getfield 119, 3) := by decide +kernel
theorem dX12_next_8 : decode cX12_next 8 = .ok (.if_icmp .ge 30, 3) := by decide +kernel
theorem dX12_next_11 : decode cX12_next 11 = .ok (.aload_n 0, 1) := by decide +kernel
theorem dX12_next_12 : decode cX12_next 12 = .ok (.getfield 39, 3) := by decide +kernel
theorem dX12_next_15 : decode cX12_next 15 = .ok (.aload_n 0, 1) := by decide +kernel
theorem dX12_next_16 : decode cX12_next 16 = .ok (.getfield 125, 3) := by decide +kernel
theorem dX12_next_19 : decode cX12_next 19 = .ok (.iaload, 1) := by decide +kernel
theorem dX12_next_20 : decode cX12_next 20 = .ok (.bipush 32, 2) := by decide +kernel
theorem dX12_next_22 : decode cX12_next 22 = .ok (.if_icmp .ne 16, 3) := by decide +kernel
theorem dX12_next_25 : decode cX12_next 25 = .ok (.aload_n 0, 1) := by decide +kernel
theorem dX12_next_26 : decode cX12_next 26 = .ok (.dup, 1) := by decide +kernel
theorem dX12_next_27 : decode cX12_next 27 = .ok (.getfield 125, 3) := by decide +kernel
theorem dX12_next_30 : decode cX12_next 30 = .ok (.iconst 1, 1) := by decide +kernel
theorem dX12_next_31 : decode cX12_next 31 = .ok (.iadd, 1) := by decide +kernel
theorem dX12_next_32 : decode cX12_next 32 = .ok (.putfield 125, 3) := by decide +kernel
theorem dX12_next_35 : decode cX12_next 35 = .ok (.goto (-35), 3) := by decide +kernel
theorem dX12_next_38 : decode cX12_next 38 = .ok (.aload_n 0, 1) := by decide +kernel
theorem dX12_next_39 : decode cX12_next 39 = .ok (.aload_n 0, 1) := by decide +kernel
theorem dX12_next_40 : decode cX12_next 40 = .ok (.getfield 125, 3) := by decide +kernel
theorem dX12_next_43 : decode cX12_next 43 = .ok (.putfield 122, 3) := by decide +kernel
theorem dX12_next_46 : decode cX12_next 46 = .ok (.aload_n 0, 1) := by decide +kernel
theorem dX12_next_47 : decode cX12_next 47 = .ok (.getfield 125, 3) := by decide +kernel
theorem dX12_next_50 : decode cX12_next 50 = .ok (.aload_n 0, 1) := by decide +kernel
theorem dX12_next_51 : decode cX12_next 51 = .ok (.getfield 119, 3) := by decide +kernel
theorem dX12_next_54 : decode cX12_next 54 = .ok (.if_icmp .ne 9, 3) := by decide +kernel
theorem dX12_next_57 : decode cX12_next 57 = .ok (.aload_n 0, 1) := by decide +kernel
theorem dX12_next_58 : decode cX12_next 58 = .ok (.iconst (-1), 1) := by decide +kernel
theorem dX12_next_59 : decode cX12_next 59 = .ok (.putfield 128, 3) := by decide +kernel
theorem dX12_next_62 : decode cX12_next 62 = .ok (.return_, 1) := by decide +kernel
theorem dX12_next_63 : decode cX12_next 63 = .ok (.aload_n 0, 1) := by decide +kernel
theorem dX12_next_64 : decode cX12_next 64 = .ok (.getfield 39, 3) := by decide +kernel
theorem dX12_next_67 : decode cX12_next 67 = .ok (.aload_n 0, 1) := by decide +kernel
theorem dX12_next_68 : decode cX12_next 68 = .ok (.getfield 125, 3) := by decide +kernel
theorem dX12_next_71 : decode cX12_next 71 = .ok (.iaload, 1) := by decide +kernel
theorem dX12_next_72 : decode cX12_next 72 = .ok (.istore_n 1, 1) := by decide +kernel
theorem dX12_next_73 : decode cX12_next 73 = .ok (.aload_n 0, 1) := by decide +kernel
theorem dX12_next_74 : decode cX12_next 74 = .ok (.dup, 1) := by decide +kernel
theorem dX12_next_75 : decode cX12_next 75 = .ok (.getfield 125, 3) := by decide +kernel
theorem dX12_next_78 : decode cX12_next 78 = .ok (.iconst 1, 1) := by decide +kernel
theorem dX12_next_79 : decode cX12_next 79 = .ok (.iadd, 1) := by decide +kernel
theorem dX12_next_80 : decode cX12_next 80 = .ok (.putfield 125, 3) := by decide +kernel
theorem dX12_next_83 : decode cX12_next 83 = .ok (.iload_n 1, 1) := by decide +kernel
theorem dX12_next_84 : decode cX12_next 84 = .ok (.invokestatic 131, 3) := by decide +kernel
theorem dX12_next_87 : decode cX12_next 87 = .ok (.ifCond .eq 93, 3) := by decide +kernel
theorem dX12_next_90 : decode cX12_next 90 = .ok (.aload_n 0, 1) := by decide +kernel
theorem dX12_next_91 : decode cX12_next 91 = .ok (.iload_n 1, 1) := by decide +kernel
theorem dX12_next_92 : decode cX12_next 92 = .ok (.bipush 48, 2) := by decide +kernel
theorem dX12_next_94 : decode cX12_next 94 = .ok (.isub, 1) := by decide +kernel
theorem dX12_next_95 : decode cX12_next 95 = .ok (.putfield 128, 3) := by decide +kernel
theorem dX12_next_98 : decode cX12_next 98 = .ok (.aload_n 0, 1) := by decide +kernel
theorem dX12_next_99 : decode cX12_next 99 = .ok (.getfield 125, 3) := by decide +kernel
theorem dX12_next_102 : decode cX12_next 102 = .ok (.aload_n 0, 1) := by decide +kernel
theorem dX12_next_103 : decode cX12_next 103 = .ok (.getfield 119, 3) := by decide +kernel
theorem dX12_next_106 : decode cX12_next 106 = .ok (.if_icmp .ge 154, 3) := by decide +kernel
theorem dX12_next_109 : decode cX12_next 109 = .ok (.aload_n 0, 1) := by decide +kernel
theorem dX12_next_110 : decode cX12_next 110 = .ok (.getfield 39, 3) := by decide +kernel
theorem dX12_next_113 : decode cX12_next 113 = .ok (.aload_n 0, 1) := by decide +kernel
theorem dX12_next_114 : decode cX12_next 114 = .ok (.getfield 125, 3) := by decide +kernel
theorem dX12_next_117 : decode cX12_next 117 = .ok (.iaload, 1) := by decide +kernel
theorem dX12_next_118 : decode cX12_next 118 = .ok (.invokestatic 131, 3) := by decide +kernel
theorem dX12_next_121 : decode cX12_next 121 = .ok (.ifCond .eq 139, 3) := by decide +kernel
theorem dX12_next_124 : decode cX12_next 124 = .ok (.aload_n 0, 1) := by decide +kernel
theorem dX12_next_125 : decode cX12_next 125 = .ok (.aload_n 0, 1) := by decide +kernel
theorem dX12_next_126 : decode cX12_next 126 = .ok (.getfield 125, 3) := by decide +kernel
theorem dX12_next_129 : decode cX12_next 129 = .ok (.aload_n 0, 1) := by decide +kernel
theorem dX12_next_130 : decode cX12_next 130 = .ok (.getfield 122, 3) := by decide +kernel
theorem dX12_next_133 : decode cX12_next 133 = .ok (.iconst 1, 1) := by decide +kernel
theorem dX12_next_134 : decode cX12_next 134 = .ok (.iadd, 1) := by decide +kernel
theorem dX12_next_135 : decode cX12_next 135 = .ok (.if_icmp .ne 26, 3) := by decide +kernel
theorem dX12_next_138 : decode cX12_next 138 = .ok (.bipush 10, 2) := by decide +kernel
theorem dX12_next_140 : decode cX12_next 140 = .ok (.aload_n 0, 1) := by decide +kernel
theorem dX12_next_141 : decode cX12_next 141 = .ok (.getfield 128, 3) := by decide +kernel
theorem dX12_next_144 : decode cX12_next 144 = .ok (.imul, 1) := by decide +kernel
theorem dX12_next_145 : decode cX12_next 145 = .ok (.aload_n 0, 1) := by decide +kernel
theorem dX12_next_146 : decode cX12_next 146 = .ok (.getfield 39, 3) := by decide +kernel
theorem dX12_next_149 : decode cX12_next 149 = .ok (.aload_n 0, 1) := by decide +kernel
theorem dX12_next_150 : decode cX12_next 150 = .ok (.getfield 125, 3) := by decide +kernel
theorem dX12_next_153 : decode cX12_next 153 = .ok (.iaload, 1) := by decide +kernel
theorem dX12_next_154 : decode cX12_next 154 = .ok (.iadd, 1) := by decide +kernel
theorem dX12_next_155 : decode cX12_next 155 = .ok (.bipush 48, 2) := by decide +kernel
theorem dX12_next_157 : decode cX12_next 157 = .ok (.isub, 1) := by decide +kernel
theorem dX12_next_158 : decode cX12_next 158 = .ok (.goto 6, 3) := by decide +kernel
theorem dX12_next_161 : decode cX12_next 161 = .ok (.sipush 300, 3) := by decide +kernel
theorem dX12_next_164 : decode cX12_next 164 = .ok (.putfield 128, 3) := by decide +kernel
theorem dX12_next_167 : decode cX12_next 167 = .ok (.aload_n 0, 1) := by decide +kernel
theorem dX12_next_168 : decode cX12_next 168 = .ok (.dup, 1) := by decide +kernel
theorem dX12_next_169 : decode cX12_next 169 = .ok (.getfield 125, 3) := by decide +kernel
theorem dX12_next_172 : decode cX12_next 172 = .ok (.iconst 1, 1) := by decide +kernel
theorem dX12_next_173 : decode cX12_next 173 = .ok (.iadd, 1) := by decide +kernel
theorem dX12_next_174 : decode cX12_next 174 = .ok (.putfield 125, 3) := by decide +kernel
theorem dX12_next_177 : decode cX12_next 177 = .ok (.goto (-79), 3) := by decide +kernel
theorem dX12_next_180 : decode cX12_next 180 = .ok (.iload_n 1, 1) := by decide +kernel
theorem dX12_next_181 : decode cX12_next 181 = .ok (.invokestatic 135, 3) := by decide +kernel
theorem dX12_next_184 : decode cX12_next 184 = .ok (.ifCond .eq 57, 3) := by decide +kernel
theorem dX12_next_187 : decode cX12_next 187 = .ok (.aload_n 0, 1) := by decide +kernel
theorem dX12_next_188 : decode cX12_next 188 = .ok (.getfield 125, 3) := by decide +kernel
theorem dX12_next_191 : decode cX12_next 191 = .ok (.aload_n 0, 1) := by decide +kernel
theorem dX12_next_192 : decode cX12_next 192 = .ok (.getfield 119, 3) := by decide +kernel
theorem dX12_next_195 : decode cX12_next 195 = .ok (.if_icmp .ge 31, 3) := by decide +kernel
theorem dX12_next_198 : decode cX12_next 198 = .ok (.aload_n 0, 1) := by decide +kernel
theorem dX12_next_199 : decode cX12_next 199 = .ok (.getfield 39, 3) := by decide +kernel
theorem dX12_next_202 : decode cX12_next 202 = .ok (.aload_n 0, 1) := by decide +kernel
theorem dX12_next_203 : decode cX12_next 203 = .ok (.getfield 125, 3) := by decide +kernel
theorem dX12_next_206 : decode cX12_next 206 = .ok (.iaload, 1) := by decide +kernel
theorem dX12_next_207 : decode cX12_next 207 = .ok (.invokestatic 135, 3) := by decide +kernel
theorem dX12_next_210 : decode cX12_next 210 = .ok (.ifCond .eq 16, 3) := by decide +kernel
theorem dX12_next_213 : decode cX12_next 213 = .ok (.aload_n 0, 1) := by decide +kernel
theorem dX12_next_214 : decode cX12_next 214 = .ok (.dup, 1) := by decide +kernel
theorem dX12_next_215 : decode cX12_next 215 = .ok (.getfield 125, 3) := by decide +kernel
theorem dX12_next_218 : decode cX12_next 218 = .ok (.iconst 1, 1) := by decide +kernel
theorem dX12_next_219 : decode cX12_next 219 = .ok (.iadd, 1) := by decide +kernel
theorem dX12_next_220 : decode cX12_next 220 = .ok (.putfield 125, 3) := by decide +kernel
theorem dX12_next_223 : decode cX12_next 223 = .ok (.goto (-36), 3) := by decide +kernel
theorem dX12_next_226 : decode cX12_next 226 = .ok (.aload_n 0, 1) := by decide +kernel
theorem dX12_next_227 : decode cX12_next 227 = .ok (.aload_n 0, 1) := by decide +kernel
theorem dX12_next_228 : decode cX12_next 228 = .ok (.aload_n 0, 1) := by decide +kernel
theorem dX12_next_229 : decode cX12_next 229 = .ok (.getfield 125, 3) := by decide +kernel
theorem dX12_next_232 : decode cX12_next 232 = .ok (.invokevirtual 138, 3) := by decide +kernel
theorem dX12_next_235 : decode cX12_next 235 = .ok (.putfield 128, 3) := by decide +kernel
theorem dX12_next_238 : decode cX12_next 238 = .ok (.goto 22, 3) := by decide +kernel
theorem dX12_next_241 : decode cX12_next 241 = .ok (.aload_n 0, 1) := by decide +kernel
theorem dX12_next_242 : decode cX12_next 242 = .ok (.iload_n 1, 1) := by decide +kernel
theorem dX12_next_243 : decode cX12_next 243 = .ok (.bipush 59, 2) := by decide +kernel
theorem dX12_next_245 : decode cX12_next 245 = .ok (.if_icmp .ne 9, 3) := by decide +kernel
theorem dX12_next_248 : decode cX12_next 248 = .ok (.sipush 200, 3) := by decide +kernel
theorem dX12_next_251 : decode cX12_next 251 = .ok (.goto 6, 3) := by decide +kernel
theorem dX12_next_254 : decode cX12_next 254 = .ok (.sipush 300, 3) := by decide +kernel
theorem dX12_next_257 : decode cX12_next 257 = .ok (.putfield 128, 3) := by decide +kernel
theorem dX12_next_260 : decode cX12_next 260 = .ok (.return_, 1) := by decide +kernel
theorem dX12_must_0 : decode cX12_must 0 = .ok (.iload_n 1, 1) := by decide +kernel
theorem dX12_must_1 : decode cX12_must 1 = .ok (.ifCond .ne 19, 3) := by decide +kernel
theorem dX12_must_4 : decode cX12_must 4 = .ok (.aload_n 0, 1) := by decide +kernel
theorem dX12_must_5 : decode cX12_must 5 = .ok (.getfield 42, 3) := by decide +kernel
theorem dX12_must_8 : decode cX12_must 8 = .ok (.iconst (-1), 1) := by decide +kernel
theorem dX12_must_9 : decode cX12_must 9 = .ok (.if_icmp .ne 11, 3) := by decide +kernel
theorem dX12_must_12 : decode cX12_must 12 = .ok (.aload_n 0, 1) := by decide +kernel
theorem dX12_must_13 : decode cX12_must 13 = .ok (.aload_n 0, 1) := by decide +kernel
theorem dX12_must_14 : decode cX12_must 14 = .ok (.getfield 122, 3) := by decide +kernel
theorem dX12_must_17 : decode cX12_must 17 = .ok (.putfield 42, 3) := by decide +kernel
theorem dX12_must_20 : decode cX12_must 20 = .ok (.return_, 1) := by decide +kernel
theorem dX12_goOnReading_0 : decode cX12_goOnReading 0 = .ok (.aload_n 0, 1) := by decide +kernel
theorem dX12_goOnReading_1 : decode cX12_goOnReading 1 = .ok (.getfield 42, 3) := by decide +kernel
theorem dX12_goOnReading_4 : decode cX12_goOnReading 4 = .ok (.iconst (-1), 1) := by decide +kernel
theorem dX12_goOnReading_5 : decode cX12_goOnReading 5 = .ok (.if_icmp .ne 7, 3) := by decide +kernel
theorem dX12_goOnReading_8 : decode cX12_goOnReading 8 = .ok (.aload_n 0, 1) := by decide +kernel
theorem dX12_goOnReading_9 : decode cX12_goOnReading 9 = .ok (.invokevirtual 142, 3) := by decide +kernel
theorem dX12_goOnReading_12 : decode cX12_goOnReading 12 = .ok (.return_, 1) := by decide +kernel
theorem dX12_number_0 : decode cX12_number 0 = .ok (.aload_n 0, 1) := by decide +kernel
theorem dX12_number_1 : decode cX12_number 1 = .ok (.aload_n 0, 1) := by decide +kernel
theorem dX12_number_2 : decode cX12_number 2 = .ok (.getfield 42, 3) := by decide +kernel
theorem dX12_number_5 : decode cX12_number 5 = .ok (.iconst (-1), 1) := by decide +kernel
theorem dX12_number_6 : decode cX12_number 6 = .ok (.if_icmp .ne 18, 3) := by decide +kernel
theorem dX12_number_9 : decode cX12_number 9 = .ok (.aload_n 0, 1) := by decide +kernel
theorem dX12_number_10 : decode cX12_number 10 = .ok (.getfield 128, 3) := by decide +kernel
theorem dX12_number_13 : decode cX12_number 13 = .ok (.i2l, 1) := by decide +kernel
theorem dX12_number_14 : decode cX12_number 14 = .ok (.iload_n 1, 1) := by decide +kernel
theorem dX12_number_15 : decode cX12_number 15 = .ok (.i2l, 1) := by decide +kernel
theorem dX12_number_16 : decode cX12_number 16 = .ok (.iload_n 2, 1) := by decide +kernel
theorem dX12_number_17 : decode cX12_number 17 = .ok (.i2l, 1) := by decide +kernel
theorem dX12_number_18 : decode cX12_number 18 = .ok (.invokestatic 55, 3) := by decide +kernel
theorem dX12_number_21 : decode cX12_number 21 = .ok (.ifCond .eq 7, 3) := by decide +kernel
theorem dX12_number_24 : decode cX12_number 24 = .ok (.iconst 1, 1) := by decide +kernel
theorem dX12_number_25 : decode cX12_number 25 = .ok (.goto 4, 3) := by decide +kernel
theorem dX12_number_28 : decode cX12_number 28 = .ok (.iconst 0, 1) := by decide +kernel
theorem dX12_number_29 : decode cX12_number 29 = .ok (.invokevirtual 145, 3) := by decide +kernel
theorem dX12_number_32 : decode cX12_number 32 = .ok (.aload_n 0, 1) := by decide +kernel
theorem dX12_number_33 : decode cX12_number 33 = .ok (.getfield 128, 3) := by decide +kernel
theorem dX12_number_36 : decode cX12_number 36 = .ok (.istore_n 3, 1) := by decide +kernel
theorem dX12_number_37 : decode cX12_number 37 = .ok (.aload_n 0, 1) := by decide +kernel
theorem dX12_number_38 : decode cX12_number 38 = .ok (.invokevirtual 149, 3) := by decide +kernel
theorem dX12_number_41 : decode cX12_number 41 = .ok (.iload_n 3, 1) := by decide +kernel
theorem dX12_number_42 : decode cX12_number 42 = .ok (.ireturn, 1) := by decide +kernel
theorem dX12_end_0 : decode cX12_end 0 = .ok (.aload_n 0, 1) := by decide +kernel
theorem dX12_end_1 : decode cX12_end 1 = .ok (.aload_n 0, 1) := by decide +kernel
theorem dX12_end_2 : decode cX12_end 2 = .ok (.getfield 42, 3) := by decide +kernel
theorem dX12_end_5 : decode cX12_end 5 = .ok (.iconst (-1), 1) := by decide +kernel
theorem dX12_end_6 : decode cX12_end 6 = .ok (.if_icmp .ne 13, 3) := by decide +kernel
theorem dX12_end_9 : decode cX12_end 9 = .ok (.aload_n 0, 1) := by decide +kernel
theorem dX12_end_10 : decode cX12_end 10 = .ok (.getfield 128, 3) := by decide +kernel
theorem dX12_end_13 : decode cX12_end 13 = .ok (.sipush 200, 3) := by decide +kernel
theorem dX12_end_16 : decode cX12_end 16 = .ok (.if_icmp .ne 7, 3) := by decide +kernel
theorem dX12_end_19 : decode cX12_end 19 = .ok (.iconst 1, 1) := by decide +kernel
theorem dX12_end_20 : decode cX12_end 20 = .ok (.goto 4, 3) := by decide +kernel
theorem dX12_end_23 : decode cX12_end 23 = .ok (.iconst 0, 1) := by decide +kernel
theorem dX12_end_24 : decode cX12_end 24 = .ok (.invokevirtual 145, 3) := by decide +kernel
theorem dX12_end_27 : decode cX12_end 27 = .ok (.aload_n 0, 1) := by decide +kernel
theorem dX12_end_28 : decode cX12_end 28 = .ok (.invokevirtual 149, 3) := by decide +kernel
theorem dX12_end_31 : decode cX12_end 31 = .ok (.return_, 1) := by decide +kernel
theorem dX12_readWinds_0 : decode cX12_readWinds 0 = .ok (.aload_n 0, 1) := by decide +kernel
theorem dX12_readWinds_1 : decode cX12_readWinds 1 = .ok (.invokevirtual 142, 3) := by decide +kernel
theorem dX12_readWinds_4 : decode cX12_readWinds 4 = .ok (.iconst 0, 1) := by decide +kernel
theorem dX12_readWinds_5 : decode cX12_readWinds 5 = .ok (.istore_n 1, 1) := by decide +kernel
theorem dX12_readWinds_6 : decode cX12_readWinds 6 = .ok (.iconst 1, 1) := by decide +kernel
theorem dX12_readWinds_7 : decode cX12_readWinds 7 = .ok (.istore_n 2, 1) := by decide +kernel
theorem dX12_readWinds_8 : decode cX12_readWinds 8 = .ok (.iload_n 2, 1) := by decide +kernel
theorem dX12_readWinds_9 : decode cX12_readWinds 9 = .ok (.ifCond .eq 93, 3) := by decide +kernel
theorem dX12_readWinds_12 : decode cX12_readWinds 12 = .ok (.aload_n 0, 1) := by decide +kernel
theorem dX12_readWinds_13 : decode cX12_readWinds 13 = .ok (.iload_n 1, 1) := by decide +kernel
theorem dX12_readWinds_14 : decode cX12_readWinds 14 = .ok (.bipush 8, 2) := by decide +kernel
theorem dX12_readWinds_16 : decode cX12_readWinds 16 = .ok (.if_icmp .ge 7, 3) := by decide +kernel
theorem dX12_readWinds_19 : decode cX12_readWinds 19 = .ok (.iconst 1, 1) := by decide +kernel
theorem dX12_readWinds_20 : decode cX12_readWinds 20 = .ok (.goto 4, 3) := by decide +kernel
theorem dX12_readWinds_23 : decode cX12_readWinds 23 = .ok (.iconst 0, 1) := by decide +kernel
theorem dX12_readWinds_24 : decode cX12_readWinds 24 = .ok (.invokevirtual 145, 3) := by decide +kernel
theorem dX12_readWinds_27 : decode cX12_readWinds 27 = .ok (.aload_n 0, 1) := by decide +kernel
theorem dX12_readWinds_28 : decode cX12_readWinds 28 = .ok (.iconst 0, 1) := by decide +kernel
theorem dX12_readWinds_29 : decode cX12_readWinds 29 = .ok (.bipush 20, 2) := by decide +kernel
theorem dX12_readWinds_31 : decode cX12_readWinds 31 = .ok (.invokevirtual 152, 3) := by decide +kernel
theorem dX12_readWinds_34 : decode cX12_readWinds 34 = .ok (.istore_n 3, 1) := by decide +kernel
theorem dX12_readWinds_35 : decode cX12_readWinds 35 = .ok (.aload_n 0, 1) := by decide +kernel
theorem dX12_readWinds_36 : decode cX12_readWinds 36 = .ok (.iconst 0, 1) := by decide +kernel
theorem dX12_readWinds_37 : decode cX12_readWinds 37 = .ok (.iconst 1, 1) := by decide +kernel
theorem dX12_readWinds_38 : decode cX12_readWinds 38 = .ok (.invokevirtual 152, 3) := by decide +kernel
theorem dX12_readWinds_41 : decode cX12_readWinds 41 = .ok (.istore 4, 2) := by decide +kernel
theorem dX12_readWinds_43 : decode cX12_readWinds 43 = .ok (.aload_n 0, 1) := by decide +kernel
theorem dX12_readWinds_44 : decode cX12_readWinds 44 = .ok (.getfield 42, 3) := by decide +kernel
theorem dX12_readWinds_47 : decode cX12_readWinds 47 = .ok (.iconst (-1), 1) := by decide +kernel
theorem dX12_readWinds_48 : decode cX12_readWinds 48 = .ok (.if_icmp .ne 27, 3) := by decide +kernel
theorem dX12_readWinds_51 : decode cX12_readWinds 51 = .ok (.aload_n 0, 1) := by decide +kernel
theorem dX12_readWinds_52 : decode cX12_readWinds 52 = .ok (.getfield 13, 3) := by decide +kernel
theorem dX12_readWinds_55 : decode cX12_readWinds 55 = .ok (.iconst 2, 1) := by decide +kernel
theorem dX12_readWinds_56 : decode cX12_readWinds 56 = .ok (.iload_n 1, 1) := by decide +kernel
theorem dX12_readWinds_57 : decode cX12_readWinds 57 = .ok (.imul, 1) := by decide +kernel
theorem dX12_readWinds_58 : decode cX12_readWinds 58 = .ok (.iload_n 3, 1) := by decide +kernel
theorem dX12_readWinds_59 : decode cX12_readWinds 59 = .ok (.iastore, 1) := by decide +kernel
theorem dX12_readWinds_60 : decode cX12_readWinds 60 = .ok (.aload_n 0, 1) := by decide +kernel
theorem dX12_readWinds_61 : decode cX12_readWinds 61 = .ok (.getfield 13, 3) := by decide +kernel
theorem dX12_readWinds_64 : decode cX12_readWinds 64 = .ok (.iconst 2, 1) := by decide +kernel
theorem dX12_readWinds_65 : decode cX12_readWinds 65 = .ok (.iload_n 1, 1) := by decide +kernel
theorem dX12_readWinds_66 : decode cX12_readWinds 66 = .ok (.imul, 1) := by decide +kernel
theorem dX12_readWinds_67 : decode cX12_readWinds 67 = .ok (.iconst 1, 1) := by decide +kernel
theorem dX12_readWinds_68 : decode cX12_readWinds 68 = .ok (.iadd, 1) := by decide +kernel
theorem dX12_readWinds_69 : decode cX12_readWinds 69 = .ok (.iload 4, 2) := by decide +kernel
theorem dX12_readWinds_71 : decode cX12_readWinds 71 = .ok (.iastore, 1) := by decide +kernel
theorem dX12_readWinds_72 : decode cX12_readWinds 72 = .ok (.iinc 1 1, 3) := by decide +kernel
theorem dX12_readWinds_75 : decode cX12_readWinds 75 = .ok (.aload_n 0, 1) := by decide +kernel
theorem dX12_readWinds_76 : decode cX12_readWinds 76 = .ok (.getfield 42, 3) := by decide +kernel
theorem dX12_readWinds_79 : decode cX12_readWinds 79 = .ok (.iconst (-1), 1) := by decide +kernel
theorem dX12_readWinds_80 : decode cX12_readWinds 80 = .ok (.if_icmp .ne 17, 3) := by decide +kernel
theorem dX12_readWinds_83 : decode cX12_readWinds 83 = .ok (.aload_n 0, 1) := by decide +kernel
theorem dX12_readWinds_84 : decode cX12_readWinds 84 = .ok (.getfield 128, 3) := by decide +kernel
theorem dX12_readWinds_87 : decode cX12_readWinds 87 = .ok (.sipush 200, 3) := by decide +kernel
theorem dX12_readWinds_90 : decode cX12_readWinds 90 = .ok (.if_icmp .eq 7, 3) := by decide +kernel
theorem dX12_readWinds_93 : decode cX12_readWinds 93 = .ok (.iconst 1, 1) := by decide +kernel
theorem dX12_readWinds_94 : decode cX12_readWinds 94 = .ok (.goto 4, 3) := by decide +kernel
theorem dX12_readWinds_97 : decode cX12_readWinds 97 = .ok (.iconst 0, 1) := by decide +kernel
theorem dX12_readWinds_98 : decode cX12_readWinds 98 = .ok (.istore_n 2, 1) := by decide +kernel
theorem dX12_readWinds_99 : decode cX12_readWinds 99 = .ok (.goto (-91), 3) := by decide +kernel
theorem dX12_readWinds_102 : decode cX12_readWinds 102 = .ok (.aload_n 0, 1) := by decide +kernel
theorem dX12_readWinds_103 : decode cX12_readWinds 103 = .ok (.invokevirtual 155, 3) := by decide +kernel
theorem dX12_readWinds_106 : decode cX12_readWinds 106 = .ok (.return_, 1) := by decide +kernel
theorem dX12_readUser_0 : decode cX12_readUser 0 = .ok (.aload_n 0, 1) := by decide +kernel
theorem dX12_readUser_1 : decode cX12_readUser 1 = .ok (.aload_n 0, 1) := by decide +kernel
theorem dX12_readUser_2 : decode cX12_readUser 2 = .ok (.getfield 13, 3) := by decide +kernel
theorem dX12_readUser_5 : decode cX12_readUser 5 = .ok (.bipush 16, 2) := by decide +kernel
theorem dX12_readUser_7 : decode cX12_readUser 7 = .ok (.iaload, 1) := by decide +kernel
theorem dX12_readUser_8 : decode cX12_readUser 8 = .ok (.bipush 7, 2) := by decide +kernel
theorem dX12_readUser_10 : decode cX12_readUser 10 = .ok (.if_icmp .ge 7, 3) := by decide +kernel
theorem dX12_readUser_13 : decode cX12_readUser 13 = .ok (.iconst 1, 1) := by decide +kernel
theorem dX12_readUser_14 : decode cX12_readUser 14 = .ok (.goto 4, 3) := by decide +kernel
theorem dX12_readUser_17 : decode cX12_readUser 17 = .ok (.iconst 0, 1) := by decide +kernel
theorem dX12_readUser_18 : decode cX12_readUser 18 = .ok (.invokevirtual 145, 3) := by decide +kernel
theorem dX12_readUser_21 : decode cX12_readUser 21 = .ok (.aload_n 0, 1) := by decide +kernel
theorem dX12_readUser_22 : decode cX12_readUser 22 = .ok (.invokevirtual 149, 3) := by decide +kernel
theorem dX12_readUser_25 : decode cX12_readUser 25 = .ok (.aload_n 0, 1) := by decide +kernel
theorem dX12_readUser_26 : decode cX12_readUser 26 = .ok (.iconst 0, 1) := by decide +kernel
theorem dX12_readUser_27 : decode cX12_readUser 27 = .ok (.iconst 5, 1) := by decide +kernel
theorem dX12_readUser_28 : decode cX12_readUser 28 = .ok (.invokevirtual 152, 3) := by decide +kernel
theorem dX12_readUser_31 : decode cX12_readUser 31 = .ok (.istore_n 1, 1) := by decide +kernel
theorem dX12_readUser_32 : decode cX12_readUser 32 = .ok (.aload_n 0, 1) := by decide +kernel
theorem dX12_readUser_33 : decode cX12_readUser 33 = .ok (.iconst 0, 1) := by decide +kernel
theorem dX12_readUser_34 : decode cX12_readUser 34 = .ok (.bipush 11, 2) := by decide +kernel
theorem dX12_readUser_36 : decode cX12_readUser 36 = .ok (.invokevirtual 152, 3) := by decide +kernel
theorem dX12_readUser_39 : decode cX12_readUser 39 = .ok (.istore_n 2, 1) := by decide +kernel
theorem dX12_readUser_40 : decode cX12_readUser 40 = .ok (.aload_n 0, 1) := by decide +kernel
theorem dX12_readUser_41 : decode cX12_readUser 41 = .ok (.iconst 1, 1) := by decide +kernel
theorem dX12_readUser_42 : decode cX12_readUser 42 = .ok (.iconst 4, 1) := by decide +kernel
theorem dX12_readUser_43 : decode cX12_readUser 43 = .ok (.invokevirtual 152, 3) := by decide +kernel
theorem dX12_readUser_46 : decode cX12_readUser 46 = .ok (.istore_n 3, 1) := by decide +kernel
theorem dX12_readUser_47 : decode cX12_readUser 47 = .ok (.aload_n 0, 1) := by decide +kernel
theorem dX12_readUser_48 : decode cX12_readUser 48 = .ok (.invokevirtual 155, 3) := by decide +kernel
theorem dX12_readUser_51 : decode cX12_readUser 51 = .ok (.aload_n 0, 1) := by decide +kernel
theorem dX12_readUser_52 : decode cX12_readUser 52 = .ok (.getfield 42, 3) := by decide +kernel
theorem dX12_readUser_55 : decode cX12_readUser 55 = .ok (.iconst (-1), 1) := by decide +kernel
theorem dX12_readUser_56 : decode cX12_readUser 56 = .ok (.if_icmp .ne 13, 3) := by decide +kernel
theorem dX12_readUser_59 : decode cX12_readUser 59 = .ok (.aload_n 0, 1) := by decide +kernel
theorem dX12_readUser_60 : decode cX12_readUser 60 = .ok (.getfield 13, 3) := by decide +kernel
theorem dX12_readUser_63 : decode cX12_readUser 63 = .ok (.iload_n 1, 1) := by decide +kernel
theorem dX12_readUser_64 : decode cX12_readUser 64 = .ok (.iload_n 2, 1) := by decide +kernel
theorem dX12_readUser_65 : decode cX12_readUser 65 = .ok (.iload_n 3, 1) := by decide +kernel
theorem dX12_readUser_66 : decode cX12_readUser 66 = .ok (.invokestatic 114, 3) := by decide +kernel
theorem dX12_readUser_69 : decode cX12_readUser 69 = .ok (.return_, 1) := by decide +kernel
theorem dX12_files_0 : decode cX12_files 0 = .ok (.bipush 46, 2) := by decide +kernel
theorem dX12_files_2 : decode cX12_files 2 = .ok (.iconst 4, 1) := by decide +kernel
theorem dX12_files_3 : decode cX12_files 3 = .ok (.aload_n 0, 1) := by decide +kernel
theorem dX12_files_4 : decode cX12_files 4 = .ok (.bipush 45, 2) := by decide +kernel
theorem dX12_files_6 : decode cX12_files 6 = .ok (.iaload, 1) := by decide +kernel
theorem dX12_files_7 : decode cX12_files 7 = .ok (.imul, 1) := by decide +kernel
theorem dX12_files_8 : decode cX12_files 8 = .ok (.iadd, 1) := by decide +kernel
theorem dX12_files_9 : decode cX12_files 9 = .ok (.istore_n 3, 1) := by decide +kernel
theorem dX12_files_10 : decode cX12_files 10 = .ok (.aload_n 0, 1) := by decide +kernel
theorem dX12_files_11 : decode cX12_files 11 = .ok (.iload_n 3, 1) := by decide +kernel
theorem dX12_files_12 : decode cX12_files 12 = .ok (.iload_n 1, 1) := by decide +kernel
theorem dX12_files_13 : decode cX12_files 13 = .ok (.iastore, 1) := by decide +kernel
theorem dX12_files_14 : decode cX12_files 14 = .ok (.aload_n 0, 1) := by decide +kernel
theorem dX12_files_15 : decode cX12_files 15 = .ok (.iload_n 3, 1) := by decide +kernel
theorem dX12_files_16 : decode cX12_files 16 = .ok (.iconst 1, 1) := by decide +kernel
theorem dX12_files_17 : decode cX12_files 17 = .ok (.iadd, 1) := by decide +kernel
theorem dX12_files_18 : decode cX12_files 18 = .ok (.iload_n 2, 1) := by decide +kernel
theorem dX12_files_19 : decode cX12_files 19 = .ok (.iastore, 1) := by decide +kernel
theorem dX12_files_20 : decode cX12_files 20 = .ok (.aload_n 0, 1) := by decide +kernel
theorem dX12_files_21 : decode cX12_files 21 = .ok (.iload_n 3, 1) := by decide +kernel
theorem dX12_files_22 : decode cX12_files 22 = .ok (.iconst 2, 1) := by decide +kernel
theorem dX12_files_23 : decode cX12_files 23 = .ok (.iadd, 1) := by decide +kernel
theorem dX12_files_24 : decode cX12_files 24 = .ok (.aload_n 0, 1) := by decide +kernel
theorem dX12_files_25 : decode cX12_files 25 = .ok (.bipush 66, 2) := by decide +kernel
theorem dX12_files_27 : decode cX12_files 27 = .ok (.iaload, 1) := by decide +kernel
theorem dX12_files_28 : decode cX12_files 28 = .ok (.iastore, 1) := by decide +kernel
theorem dX12_files_29 : decode cX12_files 29 = .ok (.aload_n 0, 1) := by decide +kernel
theorem dX12_files_30 : decode cX12_files 30 = .ok (.iload_n 3, 1) := by decide +kernel
theorem dX12_files_31 : decode cX12_files 31 = .ok (.iconst 3, 1) := by decide +kernel
theorem dX12_files_32 : decode cX12_files 32 = .ok (.iadd, 1) := by decide +kernel
theorem dX12_files_33 : decode cX12_files 33 = .ok (.iconst 0, 1) := by decide +kernel
theorem dX12_files_34 : decode cX12_files 34 = .ok (.iastore, 1) := by decide +kernel
theorem dX12_files_35 : decode cX12_files 35 = .ok (.aload_n 0, 1) := by decide +kernel
theorem dX12_files_36 : decode cX12_files 36 = .ok (.bipush 45, 2) := by decide +kernel
theorem dX12_files_38 : decode cX12_files 38 = .ok (.dup2, 1) := by decide +kernel
theorem dX12_files_39 : decode cX12_files 39 = .ok (.iaload, 1) := by decide +kernel
theorem dX12_files_40 : decode cX12_files 40 = .ok (.iconst 1, 1) := by decide +kernel
theorem dX12_files_41 : decode cX12_files 41 = .ok (.iadd, 1) := by decide +kernel
theorem dX12_files_42 : decode cX12_files 42 = .ok (.iastore, 1) := by decide +kernel
theorem dX12_files_43 : decode cX12_files 43 = .ok (.return_, 1) := by decide +kernel
theorem dX12_readSuit_0 : decode cX12_readSuit 0 = .ok (.aload_n 0, 1) := by decide +kernel
theorem dX12_readSuit_1 : decode cX12_readSuit 1 = .ok (.aload_n 0, 1) := by decide +kernel
theorem dX12_readSuit_2 : decode cX12_readSuit 2 = .ok (.getfield 13, 3) := by decide +kernel
theorem dX12_readSuit_5 : decode cX12_readSuit 5 = .ok (.bipush 45, 2) := by decide +kernel
theorem dX12_readSuit_7 : decode cX12_readSuit 7 = .ok (.iaload, 1) := by decide +kernel
theorem dX12_readSuit_8 : decode cX12_readSuit 8 = .ok (.iconst 5, 1) := by decide +kernel
theorem dX12_readSuit_9 : decode cX12_readSuit 9 = .ok (.if_icmp .ge 7, 3) := by decide +kernel
theorem dX12_readSuit_12 : decode cX12_readSuit 12 = .ok (.iconst 1, 1) := by decide +kernel
theorem dX12_readSuit_13 : decode cX12_readSuit 13 = .ok (.goto 4, 3) := by decide +kernel
theorem dX12_readSuit_16 : decode cX12_readSuit 16 = .ok (.iconst 0, 1) := by decide +kernel
theorem dX12_readSuit_17 : decode cX12_readSuit 17 = .ok (.invokevirtual 145, 3) := by decide +kernel
theorem dX12_readSuit_20 : decode cX12_readSuit 20 = .ok (.aload_n 0, 1) := by decide +kernel
theorem dX12_readSuit_21 : decode cX12_readSuit 21 = .ok (.invokevirtual 149, 3) := by decide +kernel
theorem dX12_readSuit_24 : decode cX12_readSuit 24 = .ok (.aload_n 0, 1) := by decide +kernel
theorem dX12_readSuit_25 : decode cX12_readSuit 25 = .ok (.iconst 0, 1) := by decide +kernel
theorem dX12_readSuit_26 : decode cX12_readSuit 26 = .ok (.iconst 5, 1) := by decide +kernel
theorem dX12_readSuit_27 : decode cX12_readSuit 27 = .ok (.invokevirtual 152, 3) := by decide +kernel
theorem dX12_readSuit_30 : decode cX12_readSuit 30 = .ok (.istore_n 1, 1) := by decide +kernel
theorem dX12_readSuit_31 : decode cX12_readSuit 31 = .ok (.aload_n 0, 1) := by decide +kernel
theorem dX12_readSuit_32 : decode cX12_readSuit 32 = .ok (.iconst 0, 1) := by decide +kernel
theorem dX12_readSuit_33 : decode cX12_readSuit 33 = .ok (.aload_n 0, 1) := by decide +kernel
theorem dX12_readSuit_34 : decode cX12_readSuit 34 = .ok (.getfield 13, 3) := by decide +kernel
theorem dX12_readSuit_37 : decode cX12_readSuit 37 = .ok (.bipush 16, 2) := by decide +kernel
theorem dX12_readSuit_39 : decode cX12_readSuit 39 = .ok (.iaload, 1) := by decide +kernel
theorem dX12_readSuit_40 : decode cX12_readSuit 40 = .ok (.iconst 1, 1) := by decide +kernel
theorem dX12_readSuit_41 : decode cX12_readSuit 41 = .ok (.isub, 1) := by decide +kernel
theorem dX12_readSuit_42 : decode cX12_readSuit 42 = .ok (.invokevirtual 152, 3) := by decide +kernel
theorem dX12_readSuit_45 : decode cX12_readSuit 45 = .ok (.istore_n 2, 1) := by decide +kernel
theorem dX12_readSuit_46 : decode cX12_readSuit 46 = .ok (.aload_n 0, 1) := by decide +kernel
theorem dX12_readSuit_47 : decode cX12_readSuit 47 = .ok (.invokevirtual 155, 3) := by decide +kernel
theorem dX12_readSuit_50 : decode cX12_readSuit 50 = .ok (.aload_n 0, 1) := by decide +kernel
theorem dX12_readSuit_51 : decode cX12_readSuit 51 = .ok (.getfield 42, 3) := by decide +kernel
theorem dX12_readSuit_54 : decode cX12_readSuit 54 = .ok (.iconst (-1), 1) := by decide +kernel
theorem dX12_readSuit_55 : decode cX12_readSuit 55 = .ok (.if_icmp .ne 12, 3) := by decide +kernel
theorem dX12_readSuit_58 : decode cX12_readSuit 58 = .ok (.aload_n 0, 1) := by decide +kernel
theorem dX12_readSuit_59 : decode cX12_readSuit 59 = .ok (.getfield 13, 3) := by decide +kernel
theorem dX12_readSuit_62 : decode cX12_readSuit 62 = .ok (.iload_n 1, 1) := by decide +kernel
theorem dX12_readSuit_63 : decode cX12_readSuit 63 = .ok (.iload_n 2, 1) := by decide +kernel
theorem dX12_readSuit_64 : decode cX12_readSuit 64 = .ok (.invokestatic 158, 3) := by decide +kernel
theorem dX12_readSuit_67 : decode cX12_readSuit 67 = .ok (.return_, 1) := by decide +kernel
theorem dX12_readHours_0 : decode cX12_readHours 0 = .ok (.aload_n 0, 1) := by decide +kernel
theorem dX12_readHours_1 : decode cX12_readHours 1 = .ok (.invokevirtual 142, 3) := by decide +kernel
theorem dX12_readHours_4 : decode cX12_readHours 4 = .ok (.aload_n 0, 1) := by decide +kernel
theorem dX12_readHours_5 : decode cX12_readHours 5 = .ok (.iconst 1, 1) := by decide +kernel
theorem dX12_readHours_6 : decode cX12_readHours 6 = .ok (.bipush 99, 2) := by decide +kernel
theorem dX12_readHours_8 : decode cX12_readHours 8 = .ok (.invokevirtual 152, 3) := by decide +kernel
theorem dX12_readHours_11 : decode cX12_readHours 11 = .ok (.istore_n 1, 1) := by decide +kernel
theorem dX12_readHours_12 : decode cX12_readHours 12 = .ok (.aload_n 0, 1) := by decide +kernel
theorem dX12_readHours_13 : decode cX12_readHours 13 = .ok (.invokevirtual 155, 3) := by decide +kernel
theorem dX12_readHours_16 : decode cX12_readHours 16 = .ok (.aload_n 0, 1) := by decide +kernel
theorem dX12_readHours_17 : decode cX12_readHours 17 = .ok (.getfield 42, 3) := by decide +kernel
theorem dX12_readHours_20 : decode cX12_readHours 20 = .ok (.iconst (-1), 1) := by decide +kernel
theorem dX12_readHours_21 : decode cX12_readHours 21 = .ok (.if_icmp .ne 13, 3) := by decide +kernel
theorem dX12_readHours_24 : decode cX12_readHours 24 = .ok (.aload_n 0, 1) := by decide +kernel
theorem dX12_readHours_25 : decode cX12_readHours 25 = .ok (.aload_n 0, 1) := by decide +kernel
theorem dX12_readHours_26 : decode cX12_readHours 26 = .ok (.getfield 13, 3) := by decide +kernel
theorem dX12_readHours_29 : decode cX12_readHours 29 = .ok (.iload_n 1, 1) := by decide +kernel
theorem dX12_readHours_30 : decode cX12_readHours 30 = .ok (.invokevirtual 161, 3) := by decide +kernel
theorem dX12_readHours_33 : decode cX12_readHours 33 = .ok (.istore_n 2, 1) := by decide +kernel
theorem dX12_readHours_34 : decode cX12_readHours 34 = .ok (.return_, 1) := by decide +kernel
theorem dX12_read_0 : decode cX12_read 0 = .ok (.aload_n 0, 1) := by decide +kernel
theorem dX12_read_1 : decode cX12_read 1 = .ok (.getfield 13, 3) := by decide +kernel
theorem dX12_read_4 : decode cX12_read 4 = .ok (.invokestatic 93, 3) := by decide +kernel
theorem dX12_read_7 : decode cX12_read 7 = .ok (.aload_n 0, 1) := by decide +kernel
theorem dX12_read_8 : decode cX12_read 8 = .ok (.iconst 0, 1) := by decide +kernel
theorem dX12_read_9 : decode cX12_read 9 = .ok (.putfield 125, 3) := by decide +kernel
theorem dX12_read_12 : decode cX12_read 12 = .ok (.aload_n 0, 1) := by decide +kernel
theorem dX12_read_13 : decode cX12_read 13 = .ok (.iconst (-1), 1) := by decide +kernel
theorem dX12_read_14 : decode cX12_read 14 = .ok (.putfield 42, 3) := by decide +kernel
theorem dX12_read_17 : decode cX12_read 17 = .ok (.aload_n 0, 1) := by decide +kernel
theorem dX12_read_18 : decode cX12_read 18 = .ok (.invokevirtual 142, 3) := by decide +kernel
theorem dX12_read_21 : decode cX12_read 21 = .ok (.aload_n 0, 1) := by decide +kernel
theorem dX12_read_22 : decode cX12_read 22 = .ok (.aload_n 0, 1) := by decide +kernel
theorem dX12_read_23 : decode cX12_read 23 = .ok (.getfield 128, 3) := by decide +kernel
theorem dX12_read_26 : decode cX12_read 26 = .ok (.bipush 100, 2) := by decide +kernel
theorem dX12_read_28 : decode cX12_read 28 = .ok (.if_icmp .ne 7, 3) := by decide +kernel
theorem dX12_read_31 : decode cX12_read 31 = .ok (.iconst 1, 1) := by decide +kernel
theorem dX12_read_32 : decode cX12_read 32 = .ok (.goto 4, 3) := by decide +kernel
theorem dX12_read_35 : decode cX12_read 35 = .ok (.iconst 0, 1) := by decide +kernel
theorem dX12_read_36 : decode cX12_read 36 = .ok (.invokevirtual 145, 3) := by decide +kernel
theorem dX12_read_39 : decode cX12_read 39 = .ok (.aload_n 0, 1) := by decide +kernel
theorem dX12_read_40 : decode cX12_read 40 = .ok (.invokevirtual 149, 3) := by decide +kernel
theorem dX12_read_43 : decode cX12_read 43 = .ok (.aload_n 0, 1) := by decide +kernel
theorem dX12_read_44 : decode cX12_read 44 = .ok (.invokevirtual 155, 3) := by decide +kernel
theorem dX12_read_47 : decode cX12_read 47 = .ok (.iconst 1, 1) := by decide +kernel
theorem dX12_read_48 : decode cX12_read 48 = .ok (.istore_n 1, 1) := by decide +kernel
theorem dX12_read_49 : decode cX12_read 49 = .ok (.aload_n 0, 1) := by decide +kernel
theorem dX12_read_50 : decode cX12_read 50 = .ok (.getfield 42, 3) := by decide +kernel
theorem dX12_read_53 : decode cX12_read 53 = .ok (.iconst (-1), 1) := by decide +kernel
theorem dX12_read_54 : decode cX12_read 54 = .ok (.if_icmp .ne 85, 3) := by decide +kernel
theorem dX12_read_57 : decode cX12_read 57 = .ok (.aload_n 0, 1) := by decide +kernel
theorem dX12_read_58 : decode cX12_read 58 = .ok (.getfield 128, 3) := by decide +kernel
theorem dX12_read_61 : decode cX12_read 61 = .ok (.iconst (-1), 1) := by decide +kernel
theorem dX12_read_62 : decode cX12_read 62 = .ok (.if_icmp .eq 77, 3) := by decide +kernel
theorem dX12_read_65 : decode cX12_read 65 = .ok (.aload_n 0, 1) := by decide +kernel
theorem dX12_read_66 : decode cX12_read 66 = .ok (.getfield 128, 3) := by decide +kernel
theorem dX12_read_69 : decode cX12_read 69 = .ok (.tableswitch 59 101 104 #[31, 38, 45, 52], 31) := by decide +kernel
theorem dX12_read_100 : decode cX12_read 100 = .ok (.aload_n 0, 1) := by decide +kernel
theorem dX12_read_101 : decode cX12_read 101 = .ok (.invokevirtual 165, 3) := by decide +kernel
theorem dX12_read_104 : decode cX12_read 104 = .ok (.goto 29, 3) := by decide +kernel
theorem dX12_read_107 : decode cX12_read 107 = .ok (.aload_n 0, 1) := by decide +kernel
theorem dX12_read_108 : decode cX12_read 108 = .ok (.invokevirtual 168, 3) := by decide +kernel
theorem dX12_read_111 : decode cX12_read 111 = .ok (.goto 22, 3) := by decide +kernel
theorem dX12_read_114 : decode cX12_read 114 = .ok (.aload_n 0, 1) := by decide +kernel
theorem dX12_read_115 : decode cX12_read 115 = .ok (.invokevirtual 171, 3) := by decide +kernel
theorem dX12_read_118 : decode cX12_read 118 = .ok (.goto 15, 3) := by decide +kernel
theorem dX12_read_121 : decode cX12_read 121 = .ok (.aload_n 0, 1) := by decide +kernel
theorem dX12_read_122 : decode cX12_read 122 = .ok (.invokevirtual 174, 3) := by decide +kernel
theorem dX12_read_125 : decode cX12_read 125 = .ok (.goto 8, 3) := by decide +kernel
theorem dX12_read_128 : decode cX12_read 128 = .ok (.aload_n 0, 1) := by decide +kernel
theorem dX12_read_129 : decode cX12_read 129 = .ok (.iconst 0, 1) := by decide +kernel
theorem dX12_read_130 : decode cX12_read 130 = .ok (.invokevirtual 145, 3) := by decide +kernel
theorem dX12_read_133 : decode cX12_read 133 = .ok (.iinc 1 1, 3) := by decide +kernel
theorem dX12_read_136 : decode cX12_read 136 = .ok (.goto (-87), 3) := by decide +kernel
theorem dX12_read_139 : decode cX12_read 139 = .ok (.aload_n 0, 1) := by decide +kernel
theorem dX12_read_140 : decode cX12_read 140 = .ok (.getfield 42, 3) := by decide +kernel
theorem dX12_read_143 : decode cX12_read 143 = .ok (.iconst (-1), 1) := by decide +kernel
theorem dX12_read_144 : decode cX12_read 144 = .ok (.if_icmp .eq 11, 3) := by decide +kernel
theorem dX12_read_147 : decode cX12_read 147 = .ok (.bipush (-10), 2) := by decide +kernel
theorem dX12_read_149 : decode cX12_read 149 = .ok (.aload_n 0, 1) := by decide +kernel
theorem dX12_read_150 : decode cX12_read 150 = .ok (.getfield 42, 3) := by decide +kernel
theorem dX12_read_153 : decode cX12_read 153 = .ok (.isub, 1) := by decide +kernel
theorem dX12_read_154 : decode cX12_read 154 = .ok (.ireturn, 1) := by decide +kernel
theorem dX12_read_155 : decode cX12_read 155 = .ok (.iconst 0, 1) := by decide +kernel
theorem dX12_read_156 : decode cX12_read 156 = .ok (.istore_n 2, 1) := by decide +kernel
theorem dX12_read_157 : decode cX12_read 157 = .ok (.iload_n 2, 1) := by decide +kernel
theorem dX12_read_158 : decode cX12_read 158 = .ok (.sipush 378, 3) := by decide +kernel
theorem dX12_read_161 : decode cX12_read 161 = .ok (.if_icmp .ge 21, 3) := by decide +kernel
theorem dX12_read_164 : decode cX12_read 164 = .ok (.aload_n 0, 1) := by decide +kernel
theorem dX12_read_165 : decode cX12_read 165 = .ok (.getfield 7, 3) := by decide +kernel
theorem dX12_read_168 : decode cX12_read 168 = .ok (.iload_n 2, 1) := by decide +kernel
theorem dX12_read_169 : decode cX12_read 169 = .ok (.aload_n 0, 1) := by decide +kernel
theorem dX12_read_170 : decode cX12_read 170 = .ok (.getfield 13, 3) := by decide +kernel
theorem dX12_read_173 : decode cX12_read 173 = .ok (.iload_n 2, 1) := by decide +kernel
theorem dX12_read_174 : decode cX12_read 174 = .ok (.iaload, 1) := by decide +kernel
theorem dX12_read_175 : decode cX12_read 175 = .ok (.iastore, 1) := by decide +kernel
theorem dX12_read_176 : decode cX12_read 176 = .ok (.iinc 2 1, 3) := by decide +kernel
theorem dX12_read_179 : decode cX12_read 179 = .ok (.goto (-22), 3) := by decide +kernel
theorem dX12_read_182 : decode cX12_read 182 = .ok (.iload_n 1, 1) := by decide +kernel
theorem dX12_read_183 : decode cX12_read 183 = .ok (.ireturn, 1) := by decide +kernel
theorem dX12_keep_0 : decode cX12_keep 0 = .ok (.aload_n 0, 1) := by decide +kernel
theorem dX12_keep_1 : decode cX12_keep 1 = .ok (.getfield 7, 3) := by decide +kernel
theorem dX12_keep_4 : decode cX12_keep 4 = .ok (.sipush 137, 3) := by decide +kernel
theorem dX12_keep_7 : decode cX12_keep 7 = .ok (.iaload, 1) := by decide +kernel
theorem dX12_keep_8 : decode cX12_keep 8 = .ok (.bipush 8, 2) := by decide +kernel
theorem dX12_keep_10 : decode cX12_keep 10 = .ok (.if_icmp .ne 53, 3) := by decide +kernel
theorem dX12_keep_13 : decode cX12_keep 13 = .ok (.iconst 0, 1) := by decide +kernel
theorem dX12_keep_14 : decode cX12_keep 14 = .ok (.istore_n 1, 1) := by decide +kernel
theorem dX12_keep_15 : decode cX12_keep 15 = .ok (.iload_n 1, 1) := by decide +kernel
theorem dX12_keep_16 : decode cX12_keep 16 = .ok (.sipush 210, 3) := by decide +kernel
theorem dX12_keep_19 : decode cX12_keep 19 = .ok (.if_icmp .ge 32, 3) := by decide +kernel
theorem dX12_keep_22 : decode cX12_keep 22 = .ok (.aload_n 0, 1) := by decide +kernel
theorem dX12_keep_23 : decode cX12_keep 23 = .ok (.getfield 7, 3) := by decide +kernel
theorem dX12_keep_26 : decode cX12_keep 26 = .ok (.sipush 138, 3) := by decide +kernel
theorem dX12_keep_29 : decode cX12_keep 29 = .ok (.iload_n 1, 1) := by decide +kernel
theorem dX12_keep_30 : decode cX12_keep 30 = .ok (.iadd, 1) := by decide +kernel
theorem dX12_keep_31 : decode cX12_keep 31 = .ok (.aload_n 0, 1) := by decide +kernel
theorem dX12_keep_32 : decode cX12_keep 32 = .ok (.getfield 7, 3) := by decide +kernel
theorem dX12_keep_35 : decode cX12_keep 35 = .ok (.sipush 138, 3) := by decide +kernel
theorem dX12_keep_38 : decode cX12_keep 38 = .ok (.iload_n 1, 1) := by decide +kernel
theorem dX12_keep_39 : decode cX12_keep 39 = .ok (.iadd, 1) := by decide +kernel
theorem dX12_keep_40 : decode cX12_keep 40 = .ok (.bipush 30, 2) := by decide +kernel
theorem dX12_keep_42 : decode cX12_keep 42 = .ok (.iadd, 1) := by decide +kernel
theorem dX12_keep_43 : decode cX12_keep 43 = .ok (.iaload, 1) := by decide +kernel
theorem dX12_keep_44 : decode cX12_keep 44 = .ok (.iastore, 1) := by decide +kernel
theorem dX12_keep_45 : decode cX12_keep 45 = .ok (.iinc 1 1, 3) := by decide +kernel
theorem dX12_keep_48 : decode cX12_keep 48 = .ok (.goto (-33), 3) := by decide +kernel
theorem dX12_keep_51 : decode cX12_keep 51 = .ok (.aload_n 0, 1) := by decide +kernel
theorem dX12_keep_52 : decode cX12_keep 52 = .ok (.getfield 7, 3) := by decide +kernel
theorem dX12_keep_55 : decode cX12_keep 55 = .ok (.sipush 137, 3) := by decide +kernel
theorem dX12_keep_58 : decode cX12_keep 58 = .ok (.dup2, 1) := by decide +kernel
theorem dX12_keep_59 : decode cX12_keep 59 = .ok (.iaload, 1) := by decide +kernel
theorem dX12_keep_60 : decode cX12_keep 60 = .ok (.iconst 1, 1) := by decide +kernel
theorem dX12_keep_61 : decode cX12_keep 61 = .ok (.isub, 1) := by decide +kernel
theorem dX12_keep_62 : decode cX12_keep 62 = .ok (.iastore, 1) := by decide +kernel
theorem dX12_keep_63 : decode cX12_keep 63 = .ok (.sipush 138, 3) := by decide +kernel
theorem dX12_keep_66 : decode cX12_keep 66 = .ok (.bipush 30, 2) := by decide +kernel
theorem dX12_keep_68 : decode cX12_keep 68 = .ok (.aload_n 0, 1) := by decide +kernel
theorem dX12_keep_69 : decode cX12_keep 69 = .ok (.getfield 7, 3) := by decide +kernel
theorem dX12_keep_72 : decode cX12_keep 72 = .ok (.sipush 137, 3) := by decide +kernel
theorem dX12_keep_75 : decode cX12_keep 75 = .ok (.iaload, 1) := by decide +kernel
theorem dX12_keep_76 : decode cX12_keep 76 = .ok (.imul, 1) := by decide +kernel
theorem dX12_keep_77 : decode cX12_keep 77 = .ok (.iadd, 1) := by decide +kernel
theorem dX12_keep_78 : decode cX12_keep 78 = .ok (.istore_n 1, 1) := by decide +kernel
theorem dX12_keep_79 : decode cX12_keep 79 = .ok (.iconst 0, 1) := by decide +kernel
theorem dX12_keep_80 : decode cX12_keep 80 = .ok (.istore_n 2, 1) := by decide +kernel
theorem dX12_keep_81 : decode cX12_keep 81 = .ok (.iload_n 2, 1) := by decide +kernel
theorem dX12_keep_82 : decode cX12_keep 82 = .ok (.bipush 7, 2) := by decide +kernel
theorem dX12_keep_84 : decode cX12_keep 84 = .ok (.if_icmp .ge 26, 3) := by decide +kernel
theorem dX12_keep_87 : decode cX12_keep 87 = .ok (.aload_n 0, 1) := by decide +kernel
theorem dX12_keep_88 : decode cX12_keep 88 = .ok (.getfield 7, 3) := by decide +kernel
theorem dX12_keep_91 : decode cX12_keep 91 = .ok (.iload_n 1, 1) := by decide +kernel
theorem dX12_keep_92 : decode cX12_keep 92 = .ok (.iload_n 2, 1) := by decide +kernel
theorem dX12_keep_93 : decode cX12_keep 93 = .ok (.iadd, 1) := by decide +kernel
theorem dX12_keep_94 : decode cX12_keep 94 = .ok (.aload_n 0, 1) := by decide +kernel
theorem dX12_keep_95 : decode cX12_keep 95 = .ok (.getfield 7, 3) := by decide +kernel
theorem dX12_keep_98 : decode cX12_keep 98 = .ok (.iload_n 2, 1) := by decide +kernel
theorem dX12_keep_99 : decode cX12_keep 99 = .ok (.iconst 3, 1) := by decide +kernel
theorem dX12_keep_100 : decode cX12_keep 100 = .ok (.invokestatic 66, 3) := by decide +kernel
theorem dX12_keep_103 : decode cX12_keep 103 = .ok (.iastore, 1) := by decide +kernel
theorem dX12_keep_104 : decode cX12_keep 104 = .ok (.iinc 2 1, 3) := by decide +kernel
theorem dX12_keep_107 : decode cX12_keep 107 = .ok (.goto (-26), 3) := by decide +kernel
theorem dX12_keep_110 : decode cX12_keep 110 = .ok (.iconst 0, 1) := by decide +kernel
theorem dX12_keep_111 : decode cX12_keep 111 = .ok (.istore_n 2, 1) := by decide +kernel
theorem dX12_keep_112 : decode cX12_keep 112 = .ok (.iload_n 2, 1) := by decide +kernel
theorem dX12_keep_113 : decode cX12_keep 113 = .ok (.bipush 23, 2) := by decide +kernel
theorem dX12_keep_115 : decode cX12_keep 115 = .ok (.if_icmp .ge 29, 3) := by decide +kernel
theorem dX12_keep_118 : decode cX12_keep 118 = .ok (.aload_n 0, 1) := by decide +kernel
theorem dX12_keep_119 : decode cX12_keep 119 = .ok (.getfield 7, 3) := by decide +kernel
theorem dX12_keep_122 : decode cX12_keep 122 = .ok (.iload_n 1, 1) := by decide +kernel
theorem dX12_keep_123 : decode cX12_keep 123 = .ok (.bipush 7, 2) := by decide +kernel
theorem dX12_keep_125 : decode cX12_keep 125 = .ok (.iadd, 1) := by decide +kernel
theorem dX12_keep_126 : decode cX12_keep 126 = .ok (.iload_n 2, 1) := by decide +kernel
theorem dX12_keep_127 : decode cX12_keep 127 = .ok (.iadd, 1) := by decide +kernel
theorem dX12_keep_128 : decode cX12_keep 128 = .ok (.aload_n 0, 1) := by decide +kernel
theorem dX12_keep_129 : decode cX12_keep 129 = .ok (.getfield 7, 3) := by decide +kernel
theorem dX12_keep_132 : decode cX12_keep 132 = .ok (.bipush 45, 2) := by decide +kernel
theorem dX12_keep_134 : decode cX12_keep 134 = .ok (.iload_n 2, 1) := by decide +kernel
theorem dX12_keep_135 : decode cX12_keep 135 = .ok (.iadd, 1) := by decide +kernel
theorem dX12_keep_136 : decode cX12_keep 136 = .ok (.iaload, 1) := by decide +kernel
theorem dX12_keep_137 : decode cX12_keep 137 = .ok (.iastore, 1) := by decide +kernel
theorem dX12_keep_138 : decode cX12_keep 138 = .ok (.iinc 2 1, 3) := by decide +kernel
theorem dX12_keep_141 : decode cX12_keep 141 = .ok (.goto (-29), 3) := by decide +kernel
theorem dX12_keep_144 : decode cX12_keep 144 = .ok (.aload_n 0, 1) := by decide +kernel
theorem dX12_keep_145 : decode cX12_keep 145 = .ok (.getfield 7, 3) := by decide +kernel
theorem dX12_keep_148 : decode cX12_keep 148 = .ok (.sipush 137, 3) := by decide +kernel
theorem dX12_keep_151 : decode cX12_keep 151 = .ok (.dup2, 1) := by decide +kernel
theorem dX12_keep_152 : decode cX12_keep 152 = .ok (.iaload, 1) := by decide +kernel
theorem dX12_keep_153 : decode cX12_keep 153 = .ok (.iconst 1, 1) := by decide +kernel
theorem dX12_keep_154 : decode cX12_keep 154 = .ok (.iadd, 1) := by decide +kernel
theorem dX12_keep_155 : decode cX12_keep 155 = .ok (.iastore, 1) := by decide +kernel
theorem dX12_keep_156 : decode cX12_keep 156 = .ok (.return_, 1) := by decide +kernel
theorem dX12_undo_0 : decode cX12_undo 0 = .ok (.aload_n 0, 1) := by decide +kernel
theorem dX12_undo_1 : decode cX12_undo 1 = .ok (.getfield 7, 3) := by decide +kernel
theorem dX12_undo_4 : decode cX12_undo 4 = .ok (.sipush 137, 3) := by decide +kernel
theorem dX12_undo_7 : decode cX12_undo 7 = .ok (.iaload, 1) := by decide +kernel
theorem dX12_undo_8 : decode cX12_undo 8 = .ok (.ifCond .ne 8, 3) := by decide +kernel
theorem dX12_undo_11 : decode cX12_undo 11 = .ok (.aload_n 0, 1) := by decide +kernel
theorem dX12_undo_12 : decode cX12_undo 12 = .ok (.invokevirtual 177, 3) := by decide +kernel
theorem dX12_undo_15 : decode cX12_undo 15 = .ok (.ireturn, 1) := by decide +kernel
theorem dX12_undo_16 : decode cX12_undo 16 = .ok (.aload_n 0, 1) := by decide +kernel
theorem dX12_undo_17 : decode cX12_undo 17 = .ok (.getfield 7, 3) := by decide +kernel
theorem dX12_undo_20 : decode cX12_undo 20 = .ok (.sipush 137, 3) := by decide +kernel
theorem dX12_undo_23 : decode cX12_undo 23 = .ok (.dup2, 1) := by decide +kernel
theorem dX12_undo_24 : decode cX12_undo 24 = .ok (.iaload, 1) := by decide +kernel
theorem dX12_undo_25 : decode cX12_undo 25 = .ok (.iconst 1, 1) := by decide +kernel
theorem dX12_undo_26 : decode cX12_undo 26 = .ok (.isub, 1) := by decide +kernel
theorem dX12_undo_27 : decode cX12_undo 27 = .ok (.iastore, 1) := by decide +kernel
theorem dX12_undo_28 : decode cX12_undo 28 = .ok (.sipush 138, 3) := by decide +kernel
theorem dX12_undo_31 : decode cX12_undo 31 = .ok (.bipush 30, 2) := by decide +kernel
theorem dX12_undo_33 : decode cX12_undo 33 = .ok (.aload_n 0, 1) := by decide +kernel
theorem dX12_undo_34 : decode cX12_undo 34 = .ok (.getfield 7, 3) := by decide +kernel
theorem dX12_undo_37 : decode cX12_undo 37 = .ok (.sipush 137, 3) := by decide +kernel
theorem dX12_undo_40 : decode cX12_undo 40 = .ok (.iaload, 1) := by decide +kernel
theorem dX12_undo_41 : decode cX12_undo 41 = .ok (.imul, 1) := by decide +kernel
theorem dX12_undo_42 : decode cX12_undo 42 = .ok (.iadd, 1) := by decide +kernel
theorem dX12_undo_43 : decode cX12_undo 43 = .ok (.istore_n 1, 1) := by decide +kernel
theorem dX12_undo_44 : decode cX12_undo 44 = .ok (.iconst 0, 1) := by decide +kernel
theorem dX12_undo_45 : decode cX12_undo 45 = .ok (.istore_n 2, 1) := by decide +kernel
theorem dX12_undo_46 : decode cX12_undo 46 = .ok (.iload_n 2, 1) := by decide +kernel
theorem dX12_undo_47 : decode cX12_undo 47 = .ok (.bipush 7, 2) := by decide +kernel
theorem dX12_undo_49 : decode cX12_undo 49 = .ok (.if_icmp .ge 28, 3) := by decide +kernel
theorem dX12_undo_52 : decode cX12_undo 52 = .ok (.aload_n 0, 1) := by decide +kernel
theorem dX12_undo_53 : decode cX12_undo 53 = .ok (.getfield 7, 3) := by decide +kernel
theorem dX12_undo_56 : decode cX12_undo 56 = .ok (.bipush 20, 2) := by decide +kernel
theorem dX12_undo_58 : decode cX12_undo 58 = .ok (.iconst 4, 1) := by decide +kernel
theorem dX12_undo_59 : decode cX12_undo 59 = .ok (.iload_n 2, 1) := by decide +kernel
theorem dX12_undo_60 : decode cX12_undo 60 = .ok (.imul, 1) := by decide +kernel
theorem dX12_undo_61 : decode cX12_undo 61 = .ok (.iadd, 1) := by decide +kernel
theorem dX12_undo_62 : decode cX12_undo 62 = .ok (.aload_n 0, 1) := by decide +kernel
theorem dX12_undo_63 : decode cX12_undo 63 = .ok (.getfield 7, 3) := by decide +kernel
theorem dX12_undo_66 : decode cX12_undo 66 = .ok (.iload_n 1, 1) := by decide +kernel
theorem dX12_undo_67 : decode cX12_undo 67 = .ok (.iload_n 2, 1) := by decide +kernel
theorem dX12_undo_68 : decode cX12_undo 68 = .ok (.iadd, 1) := by decide +kernel
theorem dX12_undo_69 : decode cX12_undo 69 = .ok (.iaload, 1) := by decide +kernel
theorem dX12_undo_70 : decode cX12_undo 70 = .ok (.iastore, 1) := by decide +kernel
theorem dX12_undo_71 : decode cX12_undo 71 = .ok (.iinc 2 1, 3) := by decide +kernel
theorem dX12_undo_74 : decode cX12_undo 74 = .ok (.goto (-28), 3) := by decide +kernel
theorem dX12_undo_77 : decode cX12_undo 77 = .ok (.iconst 0, 1) := by decide +kernel
theorem dX12_undo_78 : decode cX12_undo 78 = .ok (.istore_n 2, 1) := by decide +kernel
theorem dX12_undo_79 : decode cX12_undo 79 = .ok (.iload_n 2, 1) := by decide +kernel
theorem dX12_undo_80 : decode cX12_undo 80 = .ok (.bipush 23, 2) := by decide +kernel
theorem dX12_undo_82 : decode cX12_undo 82 = .ok (.if_icmp .ge 29, 3) := by decide +kernel
theorem dX12_undo_85 : decode cX12_undo 85 = .ok (.aload_n 0, 1) := by decide +kernel
theorem dX12_undo_86 : decode cX12_undo 86 = .ok (.getfield 7, 3) := by decide +kernel
theorem dX12_undo_89 : decode cX12_undo 89 = .ok (.bipush 45, 2) := by decide +kernel
theorem dX12_undo_91 : decode cX12_undo 91 = .ok (.iload_n 2, 1) := by decide +kernel
theorem dX12_undo_92 : decode cX12_undo 92 = .ok (.iadd, 1) := by decide +kernel
theorem dX12_undo_93 : decode cX12_undo 93 = .ok (.aload_n 0, 1) := by decide +kernel
theorem dX12_undo_94 : decode cX12_undo 94 = .ok (.getfield 7, 3) := by decide +kernel
theorem dX12_undo_97 : decode cX12_undo 97 = .ok (.iload_n 1, 1) := by decide +kernel
theorem dX12_undo_98 : decode cX12_undo 98 = .ok (.bipush 7, 2) := by decide +kernel
theorem dX12_undo_100 : decode cX12_undo 100 = .ok (.iadd, 1) := by decide +kernel
theorem dX12_undo_101 : decode cX12_undo 101 = .ok (.iload_n 2, 1) := by decide +kernel
theorem dX12_undo_102 : decode cX12_undo 102 = .ok (.iadd, 1) := by decide +kernel
theorem dX12_undo_103 : decode cX12_undo 103 = .ok (.iaload, 1) := by decide +kernel
theorem dX12_undo_104 : decode cX12_undo 104 = .ok (.iastore, 1) := by decide +kernel
theorem dX12_undo_105 : decode cX12_undo 105 = .ok (.iinc 2 1, 3) := by decide +kernel
theorem dX12_undo_108 : decode cX12_undo 108 = .ok (.goto (-29), 3) := by decide +kernel
theorem dX12_undo_111 : decode cX12_undo 111 = .ok (.aload_n 0, 1) := by decide +kernel
theorem dX12_undo_112 : decode cX12_undo 112 = .ok (.getfield 7, 3) := by decide +kernel
theorem dX12_undo_115 : decode cX12_undo 115 = .ok (.bipush 66, 2) := by decide +kernel
theorem dX12_undo_117 : decode cX12_undo 117 = .ok (.iaload, 1) := by decide +kernel
theorem dX12_undo_118 : decode cX12_undo 118 = .ok (.ireturn, 1) := by decide +kernel
theorem dX12_hour_0 : decode cX12_hour 0 = .ok (.iload_n 1, 1) := by decide +kernel
theorem dX12_hour_1 : decode cX12_hour 1 = .ok (.i2l, 1) := by decide +kernel
theorem dX12_hour_2 : decode cX12_hour 2 = .ok (.lconst 1, 1) := by decide +kernel
theorem dX12_hour_3 : decode cX12_hour 3 = .ok (.ldc2_w 180, 3) := by decide +kernel
theorem dX12_hour_6 : decode cX12_hour 6 = .ok (.invokestatic 55, 3) := by decide +kernel
theorem dX12_hour_9 : decode cX12_hour 9 = .ok (.ifCond .ne 8, 3) := by decide +kernel
theorem dX12_hour_12 : decode cX12_hour 12 = .ok (.aload_n 0, 1) := by decide +kernel
theorem dX12_hour_13 : decode cX12_hour 13 = .ok (.invokevirtual 101, 3) := by decide +kernel
theorem dX12_hour_16 : decode cX12_hour 16 = .ok (.ireturn, 1) := by decide +kernel
theorem dX12_hour_17 : decode cX12_hour 17 = .ok (.aload_n 0, 1) := by decide +kernel
theorem dX12_hour_18 : decode cX12_hour 18 = .ok (.invokevirtual 182, 3) := by decide +kernel
theorem dX12_hour_21 : decode cX12_hour 21 = .ok (.aload_n 0, 1) := by decide +kernel
theorem dX12_hour_22 : decode cX12_hour 22 = .ok (.aload_n 0, 1) := by decide +kernel
theorem dX12_hour_23 : decode cX12_hour 23 = .ok (.getfield 7, 3) := by decide +kernel
theorem dX12_hour_26 : decode cX12_hour 26 = .ok (.iload_n 1, 1) := by decide +kernel
theorem dX12_hour_27 : decode cX12_hour 27 = .ok (.invokevirtual 161, 3) := by decide +kernel
theorem dX12_hour_30 : decode cX12_hour 30 = .ok (.ireturn, 1) := by decide +kernel
theorem dX12_suit_0 : decode cX12_suit 0 = .ok (.iload_n 1, 1) := by decide +kernel
theorem dX12_suit_1 : decode cX12_suit 1 = .ok (.i2l, 1) := by decide +kernel
theorem dX12_suit_2 : decode cX12_suit 2 = .ok (.lconst 0, 1) := by decide +kernel
theorem dX12_suit_3 : decode cX12_suit 3 = .ok (.ldc2_w 105, 3) := by decide +kernel
theorem dX12_suit_6 : decode cX12_suit 6 = .ok (.invokestatic 55, 3) := by decide +kernel
theorem dX12_suit_9 : decode cX12_suit 9 = .ok (.ifCond .eq 11, 3) := by decide +kernel
theorem dX12_suit_12 : decode cX12_suit 12 = .ok (.aload_n 0, 1) := by decide +kernel
theorem dX12_suit_13 : decode cX12_suit 13 = .ok (.iload_n 2, 1) := by decide +kernel
theorem dX12_suit_14 : decode cX12_suit 14 = .ok (.invokevirtual 185, 3) := by decide +kernel
theorem dX12_suit_17 : decode cX12_suit 17 = .ok (.ifCond .ne 8, 3) := by decide +kernel
theorem dX12_suit_20 : decode cX12_suit 20 = .ok (.aload_n 0, 1) := by decide +kernel
theorem dX12_suit_21 : decode cX12_suit 21 = .ok (.invokevirtual 101, 3) := by decide +kernel
theorem dX12_suit_24 : decode cX12_suit 24 = .ok (.ireturn, 1) := by decide +kernel
theorem dX12_suit_25 : decode cX12_suit 25 = .ok (.aload_n 0, 1) := by decide +kernel
theorem dX12_suit_26 : decode cX12_suit 26 = .ok (.getfield 7, 3) := by decide +kernel
theorem dX12_suit_29 : decode cX12_suit 29 = .ok (.bipush 45, 2) := by decide +kernel
theorem dX12_suit_31 : decode cX12_suit 31 = .ok (.iaload, 1) := by decide +kernel
theorem dX12_suit_32 : decode cX12_suit 32 = .ok (.iconst 5, 1) := by decide +kernel
theorem dX12_suit_33 : decode cX12_suit 33 = .ok (.if_icmp .ne 8, 3) := by decide +kernel
theorem dX12_suit_36 : decode cX12_suit 36 = .ok (.aload_n 0, 1) := by decide +kernel
theorem dX12_suit_37 : decode cX12_suit 37 = .ok (.invokevirtual 111, 3) := by decide +kernel
theorem dX12_suit_40 : decode cX12_suit 40 = .ok (.ireturn, 1) := by decide +kernel
theorem dX12_suit_41 : decode cX12_suit 41 = .ok (.aload_n 0, 1) := by decide +kernel
theorem dX12_suit_42 : decode cX12_suit 42 = .ok (.invokevirtual 182, 3) := by decide +kernel
theorem dX12_suit_45 : decode cX12_suit 45 = .ok (.aload_n 0, 1) := by decide +kernel
theorem dX12_suit_46 : decode cX12_suit 46 = .ok (.getfield 7, 3) := by decide +kernel
theorem dX12_suit_49 : decode cX12_suit 49 = .ok (.iload_n 1, 1) := by decide +kernel
theorem dX12_suit_50 : decode cX12_suit 50 = .ok (.iload_n 2, 1) := by decide +kernel
theorem dX12_suit_51 : decode cX12_suit 51 = .ok (.invokestatic 158, 3) := by decide +kernel
theorem dX12_suit_54 : decode cX12_suit 54 = .ok (.aload_n 0, 1) := by decide +kernel
theorem dX12_suit_55 : decode cX12_suit 55 = .ok (.getfield 7, 3) := by decide +kernel
theorem dX12_suit_58 : decode cX12_suit 58 = .ok (.bipush 45, 2) := by decide +kernel
theorem dX12_suit_60 : decode cX12_suit 60 = .ok (.iaload, 1) := by decide +kernel
theorem dX12_suit_61 : decode cX12_suit 61 = .ok (.iconst 1, 1) := by decide +kernel
theorem dX12_suit_62 : decode cX12_suit 62 = .ok (.isub, 1) := by decide +kernel
theorem dX12_suit_63 : decode cX12_suit 63 = .ok (.ireturn, 1) := by decide +kernel
theorem dX12_isHeard_0 : decode cX12_isHeard 0 = .ok (.aload_n 0, 1) := by decide +kernel
theorem dX12_isHeard_1 : decode cX12_isHeard 1 = .ok (.getfield 7, 3) := by decide +kernel
theorem dX12_isHeard_4 : decode cX12_isHeard 4 = .ok (.iload_n 1, 1) := by decide +kernel
theorem dX12_isHeard_5 : decode cX12_isHeard 5 = .ok (.iconst 3, 1) := by decide +kernel
theorem dX12_isHeard_6 : decode cX12_isHeard 6 = .ok (.invokestatic 188, 3) := by decide +kernel
theorem dX12_isHeard_9 : decode cX12_isHeard 9 = .ok (.iconst 1, 1) := by decide +kernel
theorem dX12_isHeard_10 : decode cX12_isHeard 10 = .ok (.if_icmp .ne 7, 3) := by decide +kernel
theorem dX12_isHeard_13 : decode cX12_isHeard 13 = .ok (.iconst 1, 1) := by decide +kernel
theorem dX12_isHeard_14 : decode cX12_isHeard 14 = .ok (.goto 4, 3) := by decide +kernel
theorem dX12_isHeard_17 : decode cX12_isHeard 17 = .ok (.iconst 0, 1) := by decide +kernel
theorem dX12_isHeard_18 : decode cX12_isHeard 18 = .ok (.ireturn, 1) := by decide +kernel
theorem dX12_ageOf_0 : decode cX12_ageOf 0 = .ok (.aload_n 0, 1) := by decide +kernel
theorem dX12_ageOf_1 : decode cX12_ageOf 1 = .ok (.getfield 7, 3) := by decide +kernel
theorem dX12_ageOf_4 : decode cX12_ageOf 4 = .ok (.bipush 66, 2) := by decide +kernel
theorem dX12_ageOf_6 : decode cX12_ageOf 6 = .ok (.iaload, 1) := by decide +kernel
theorem dX12_ageOf_7 : decode cX12_ageOf 7 = .ok (.aload_n 0, 1) := by decide +kernel
theorem dX12_ageOf_8 : decode cX12_ageOf 8 = .ok (.getfield 7, 3) := by decide +kernel
theorem dX12_ageOf_11 : decode cX12_ageOf 11 = .ok (.iload_n 1, 1) := by decide +kernel
theorem dX12_ageOf_12 : decode cX12_ageOf 12 = .ok (.iconst 2, 1) := by decide +kernel
theorem dX12_ageOf_13 : decode cX12_ageOf 13 = .ok (.invokestatic 188, 3) := by decide +kernel
theorem dX12_ageOf_16 : decode cX12_ageOf 16 = .ok (.isub, 1) := by decide +kernel
theorem dX12_ageOf_17 : decode cX12_ageOf 17 = .ok (.ireturn, 1) := by decide +kernel
theorem dX12_duesOf_0 : decode cX12_duesOf 0 = .ok (.aload_n 0, 1) := by decide +kernel
theorem dX12_duesOf_1 : decode cX12_duesOf 1 = .ok (.getfield 7, 3) := by decide +kernel
theorem dX12_duesOf_4 : decode cX12_duesOf 4 = .ok (.iload_n 1, 1) := by decide +kernel
theorem dX12_duesOf_5 : decode cX12_duesOf 5 = .ok (.iconst 3, 1) := by decide +kernel
theorem dX12_duesOf_6 : decode cX12_duesOf 6 = .ok (.invokestatic 66, 3) := by decide +kernel
theorem dX12_duesOf_9 : decode cX12_duesOf 9 = .ok (.ireturn, 1) := by decide +kernel
theorem dX12_awardNow_0 : decode cX12_awardNow 0 = .ok (.aload_n 0, 1) := by decide +kernel
theorem dX12_awardNow_1 : decode cX12_awardNow 1 = .ok (.iload_n 1, 1) := by decide +kernel
theorem dX12_awardNow_2 : decode cX12_awardNow 2 = .ok (.invokevirtual 191, 3) := by decide +kernel
theorem dX12_awardNow_5 : decode cX12_awardNow 5 = .ok (.ifCond .eq 7, 3) := by decide +kernel
theorem dX12_awardNow_8 : decode cX12_awardNow 8 = .ok (.iconst 0, 1) := by decide +kernel
theorem dX12_awardNow_9 : decode cX12_awardNow 9 = .ok (.goto 33, 3) := by decide +kernel
theorem dX12_awardNow_12 : decode cX12_awardNow 12 = .ok (.aload_n 0, 1) := by decide +kernel
theorem dX12_awardNow_13 : decode cX12_awardNow 13 = .ok (.getfield 7, 3) := by decide +kernel
theorem dX12_awardNow_16 : decode cX12_awardNow 16 = .ok (.iload_n 1, 1) := by decide +kernel
theorem dX12_awardNow_17 : decode cX12_awardNow 17 = .ok (.iconst 0, 1) := by decide +kernel
theorem dX12_awardNow_18 : decode cX12_awardNow 18 = .ok (.invokestatic 188, 3) := by decide +kernel
theorem dX12_awardNow_21 : decode cX12_awardNow 21 = .ok (.aload_n 0, 1) := by decide +kernel
theorem dX12_awardNow_22 : decode cX12_awardNow 22 = .ok (.aload_n 0, 1) := by decide +kernel
theorem dX12_awardNow_23 : decode cX12_awardNow 23 = .ok (.getfield 7, 3) := by decide +kernel
theorem dX12_awardNow_26 : decode cX12_awardNow 26 = .ok (.iload_n 1, 1) := by decide +kernel
theorem dX12_awardNow_27 : decode cX12_awardNow 27 = .ok (.iconst 1, 1) := by decide +kernel
theorem dX12_awardNow_28 : decode cX12_awardNow 28 = .ok (.invokestatic 188, 3) := by decide +kernel
theorem dX12_awardNow_31 : decode cX12_awardNow 31 = .ok (.invokevirtual 194, 3) := by decide +kernel
theorem dX12_awardNow_34 : decode cX12_awardNow 34 = .ok (.aload_n 0, 1) := by decide +kernel
theorem dX12_awardNow_35 : decode cX12_awardNow 35 = .ok (.iload_n 1, 1) := by decide +kernel
theorem dX12_awardNow_36 : decode cX12_awardNow 36 = .ok (.invokevirtual 197, 3) := by decide +kernel
theorem dX12_awardNow_39 : decode cX12_awardNow 39 = .ok (.invokestatic 200, 3) := by decide +kernel
theorem dX12_awardNow_42 : decode cX12_awardNow 42 = .ok (.ireturn, 1) := by decide +kernel
theorem dX12_hears_0 : decode cX12_hears 0 = .ok (.aload_n 0, 1) := by decide +kernel
theorem dX12_hears_1 : decode cX12_hears 1 = .ok (.iload_n 1, 1) := by decide +kernel
theorem dX12_hears_2 : decode cX12_hears 2 = .ok (.invokevirtual 203, 3) := by decide +kernel
theorem dX12_hears_5 : decode cX12_hears 5 = .ok (.ifCond .ne 8, 3) := by decide +kernel
theorem dX12_hears_8 : decode cX12_hears 8 = .ok (.aload_n 0, 1) := by decide +kernel
theorem dX12_hears_9 : decode cX12_hears 9 = .ok (.invokevirtual 101, 3) := by decide +kernel
theorem dX12_hears_12 : decode cX12_hears 12 = .ok (.ireturn, 1) := by decide +kernel
theorem dX12_hears_13 : decode cX12_hears 13 = .ok (.aload_n 0, 1) := by decide +kernel
theorem dX12_hears_14 : decode cX12_hears 14 = .ok (.iload_n 1, 1) := by decide +kernel
theorem dX12_hears_15 : decode cX12_hears 15 = .ok (.invokevirtual 191, 3) := by decide +kernel
theorem dX12_hears_18 : decode cX12_hears 18 = .ok (.ifCond .eq 8, 3) := by decide +kernel
theorem dX12_hears_21 : decode cX12_hears 21 = .ok (.aload_n 0, 1) := by decide +kernel
theorem dX12_hears_22 : decode cX12_hears 22 = .ok (.invokevirtual 177, 3) := by decide +kernel
theorem dX12_hears_25 : decode cX12_hears 25 = .ok (.ireturn, 1) := by decide +kernel
theorem dX12_hears_26 : decode cX12_hears 26 = .ok (.aload_n 0, 1) := by decide +kernel
theorem dX12_hears_27 : decode cX12_hears 27 = .ok (.invokevirtual 182, 3) := by decide +kernel
theorem dX12_hears_30 : decode cX12_hears 30 = .ok (.aload_n 0, 1) := by decide +kernel
theorem dX12_hears_31 : decode cX12_hears 31 = .ok (.iload_n 1, 1) := by decide +kernel
theorem dX12_hears_32 : decode cX12_hears 32 = .ok (.invokevirtual 206, 3) := by decide +kernel
theorem dX12_hears_35 : decode cX12_hears 35 = .ok (.istore_n 2, 1) := by decide +kernel
theorem dX12_hears_36 : decode cX12_hears 36 = .ok (.aload_n 0, 1) := by decide +kernel
theorem dX12_hears_37 : decode cX12_hears 37 = .ok (.getfield 7, 3) := by decide +kernel
theorem dX12_hears_40 : decode cX12_hears 40 = .ok (.bipush 67, 2) := by decide +kernel
theorem dX12_hears_42 : decode cX12_hears 42 = .ok (.dup2, 1) := by decide +kernel
theorem dX12_hears_43 : decode cX12_hears 43 = .ok (.iaload, 1) := by decide +kernel
theorem dX12_hears_44 : decode cX12_hears 44 = .ok (.iload_n 2, 1) := by decide +kernel
theorem dX12_hears_45 : decode cX12_hears 45 = .ok (.iadd, 1) := by decide +kernel
theorem dX12_hears_46 : decode cX12_hears 46 = .ok (.iastore, 1) := by decide +kernel
theorem dX12_hears_47 : decode cX12_hears 47 = .ok (.aload_n 0, 1) := by decide +kernel
theorem dX12_hears_48 : decode cX12_hears 48 = .ok (.getfield 7, 3) := by decide +kernel
theorem dX12_hears_51 : decode cX12_hears 51 = .ok (.bipush 20, 2) := by decide +kernel
theorem dX12_hears_53 : decode cX12_hears 53 = .ok (.iconst 4, 1) := by decide +kernel
theorem dX12_hears_54 : decode cX12_hears 54 = .ok (.aload_n 0, 1) := by decide +kernel
theorem dX12_hears_55 : decode cX12_hears 55 = .ok (.getfield 7, 3) := by decide +kernel
theorem dX12_hears_58 : decode cX12_hears 58 = .ok (.iload_n 1, 1) := by decide +kernel
theorem dX12_hears_59 : decode cX12_hears 59 = .ok (.iconst 1, 1) := by decide +kernel
theorem dX12_hears_60 : decode cX12_hears 60 = .ok (.invokestatic 188, 3) := by decide +kernel
theorem dX12_hears_63 : decode cX12_hears 63 = .ok (.imul, 1) := by decide +kernel
theorem dX12_hears_64 : decode cX12_hears 64 = .ok (.iadd, 1) := by decide +kernel
theorem dX12_hears_65 : decode cX12_hears 65 = .ok (.iconst 0, 1) := by decide +kernel
theorem dX12_hears_66 : decode cX12_hears 66 = .ok (.iastore, 1) := by decide +kernel
theorem dX12_hears_67 : decode cX12_hears 67 = .ok (.aload_n 0, 1) := by decide +kernel
theorem dX12_hears_68 : decode cX12_hears 68 = .ok (.getfield 7, 3) := by decide +kernel
theorem dX12_hears_71 : decode cX12_hears 71 = .ok (.bipush 49, 2) := by decide +kernel
theorem dX12_hears_73 : decode cX12_hears 73 = .ok (.iconst 4, 1) := by decide +kernel
theorem dX12_hears_74 : decode cX12_hears 74 = .ok (.iload_n 1, 1) := by decide +kernel
theorem dX12_hears_75 : decode cX12_hears 75 = .ok (.imul, 1) := by decide +kernel
theorem dX12_hears_76 : decode cX12_hears 76 = .ok (.iadd, 1) := by decide +kernel
theorem dX12_hears_77 : decode cX12_hears 77 = .ok (.iconst 1, 1) := by decide +kernel
theorem dX12_hears_78 : decode cX12_hears 78 = .ok (.iastore, 1) := by decide +kernel
theorem dX12_hears_79 : decode cX12_hears 79 = .ok (.iload_n 2, 1) := by decide +kernel
theorem dX12_hears_80 : decode cX12_hears 80 = .ok (.ireturn, 1) := by decide +kernel
theorem dX12_pays_0 : decode cX12_pays 0 = .ok (.aload_n 0, 1) := by decide +kernel
theorem dX12_pays_1 : decode cX12_pays 1 = .ok (.iload_n 1, 1) := by decide +kernel
theorem dX12_pays_2 : decode cX12_pays 2 = .ok (.invokevirtual 185, 3) := by decide +kernel
theorem dX12_pays_5 : decode cX12_pays 5 = .ok (.ifCond .ne 8, 3) := by decide +kernel
theorem dX12_pays_8 : decode cX12_pays 8 = .ok (.aload_n 0, 1) := by decide +kernel
theorem dX12_pays_9 : decode cX12_pays 9 = .ok (.invokevirtual 101, 3) := by decide +kernel
theorem dX12_pays_12 : decode cX12_pays 12 = .ok (.ireturn, 1) := by decide +kernel
theorem dX12_pays_13 : decode cX12_pays 13 = .ok (.aload_n 0, 1) := by decide +kernel
theorem dX12_pays_14 : decode cX12_pays 14 = .ok (.invokevirtual 182, 3) := by decide +kernel
theorem dX12_pays_17 : decode cX12_pays 17 = .ok (.aload_n 0, 1) := by decide +kernel
theorem dX12_pays_18 : decode cX12_pays 18 = .ok (.iload_n 1, 1) := by decide +kernel
theorem dX12_pays_19 : decode cX12_pays 19 = .ok (.invokevirtual 194, 3) := by decide +kernel
theorem dX12_pays_22 : decode cX12_pays 22 = .ok (.istore_n 2, 1) := by decide +kernel
theorem dX12_pays_23 : decode cX12_pays 23 = .ok (.aload_n 0, 1) := by decide +kernel
theorem dX12_pays_24 : decode cX12_pays 24 = .ok (.getfield 7, 3) := by decide +kernel
theorem dX12_pays_27 : decode cX12_pays 27 = .ok (.bipush 20, 2) := by decide +kernel
theorem dX12_pays_29 : decode cX12_pays 29 = .ok (.iconst 4, 1) := by decide +kernel
theorem dX12_pays_30 : decode cX12_pays 30 = .ok (.iload_n 1, 1) := by decide +kernel
theorem dX12_pays_31 : decode cX12_pays 31 = .ok (.imul, 1) := by decide +kernel
theorem dX12_pays_32 : decode cX12_pays 32 = .ok (.iadd, 1) := by decide +kernel
theorem dX12_pays_33 : decode cX12_pays 33 = .ok (.iconst 0, 1) := by decide +kernel
theorem dX12_pays_34 : decode cX12_pays 34 = .ok (.iastore, 1) := by decide +kernel
theorem dX12_pays_35 : decode cX12_pays 35 = .ok (.iload_n 2, 1) := by decide +kernel
theorem dX12_pays_36 : decode cX12_pays 36 = .ok (.ireturn, 1) := by decide +kernel
theorem dX12_of_0 : decode cX12_of 0 = .ok (.aload_n 0, 1) := by decide +kernel
theorem dX12_of_1 : decode cX12_of 1 = .ok (.iload_n 1, 1) := by decide +kernel
theorem dX12_of_2 : decode cX12_of 2 = .ok (.invokevirtual 185, 3) := by decide +kernel
theorem dX12_of_5 : decode cX12_of 5 = .ok (.ifCond .eq 27, 3) := by decide +kernel
theorem dX12_of_8 : decode cX12_of 8 = .ok (.iload_n 2, 1) := by decide +kernel
theorem dX12_of_9 : decode cX12_of 9 = .ok (.i2l, 1) := by decide +kernel
theorem dX12_of_10 : decode cX12_of 10 = .ok (.lconst 0, 1) := by decide +kernel
theorem dX12_of_11 : decode cX12_of 11 = .ok (.ldc2_w 209, 3) := by decide +kernel
theorem dX12_of_14 : decode cX12_of 14 = .ok (.invokestatic 55, 3) := by decide +kernel
theorem dX12_of_17 : decode cX12_of 17 = .ok (.ifCond .eq 15, 3) := by decide +kernel
theorem dX12_of_20 : decode cX12_of 20 = .ok (.aload_n 0, 1) := by decide +kernel
theorem dX12_of_21 : decode cX12_of 21 = .ok (.getfield 7, 3) := by decide +kernel
theorem dX12_of_24 : decode cX12_of 24 = .ok (.iload_n 1, 1) := by decide +kernel
theorem dX12_of_25 : decode cX12_of 25 = .ok (.iload_n 2, 1) := by decide +kernel
theorem dX12_of_26 : decode cX12_of 26 = .ok (.invokestatic 66, 3) := by decide +kernel
theorem dX12_of_29 : decode cX12_of 29 = .ok (.goto 7, 3) := by decide +kernel
theorem dX12_of_32 : decode cX12_of 32 = .ok (.aload_n 0, 1) := by decide +kernel
theorem dX12_of_33 : decode cX12_of 33 = .ok (.invokevirtual 101, 3) := by decide +kernel
theorem dX12_of_36 : decode cX12_of 36 = .ok (.ireturn, 1) := by decide +kernel
theorem dX12_about_0 : decode cX12_about 0 = .ok (.aload_n 0, 1) := by decide +kernel
theorem dX12_about_1 : decode cX12_about 1 = .ok (.iload_n 1, 1) := by decide +kernel
theorem dX12_about_2 : decode cX12_about 2 = .ok (.invokevirtual 203, 3) := by decide +kernel
theorem dX12_about_5 : decode cX12_about 5 = .ok (.ifCond .eq 27, 3) := by decide +kernel
theorem dX12_about_8 : decode cX12_about 8 = .ok (.iload_n 2, 1) := by decide +kernel
theorem dX12_about_9 : decode cX12_about 9 = .ok (.i2l, 1) := by decide +kernel
theorem dX12_about_10 : decode cX12_about 10 = .ok (.lconst 0, 1) := by decide +kernel
theorem dX12_about_11 : decode cX12_about 11 = .ok (.ldc2_w 209, 3) := by decide +kernel
theorem dX12_about_14 : decode cX12_about 14 = .ok (.invokestatic 55, 3) := by decide +kernel
theorem dX12_about_17 : decode cX12_about 17 = .ok (.ifCond .eq 15, 3) := by decide +kernel
theorem dX12_about_20 : decode cX12_about 20 = .ok (.aload_n 0, 1) := by decide +kernel
theorem dX12_about_21 : decode cX12_about 21 = .ok (.getfield 7, 3) := by decide +kernel
theorem dX12_about_24 : decode cX12_about 24 = .ok (.iload_n 1, 1) := by decide +kernel
theorem dX12_about_25 : decode cX12_about 25 = .ok (.iload_n 2, 1) := by decide +kernel
theorem dX12_about_26 : decode cX12_about 26 = .ok (.invokestatic 188, 3) := by decide +kernel
theorem dX12_about_29 : decode cX12_about 29 = .ok (.goto 7, 3) := by decide +kernel
theorem dX12_about_32 : decode cX12_about 32 = .ok (.aload_n 0, 1) := by decide +kernel
theorem dX12_about_33 : decode cX12_about 33 = .ok (.invokevirtual 101, 3) := by decide +kernel
theorem dX12_about_36 : decode cX12_about 36 = .ok (.ireturn, 1) := by decide +kernel
theorem dX12_blows_0 : decode cX12_blows 0 = .ok (.iload_n 1, 1) := by decide +kernel
theorem dX12_blows_1 : decode cX12_blows 1 = .ok (.i2l, 1) := by decide +kernel
theorem dX12_blows_2 : decode cX12_blows 2 = .ok (.lconst 0, 1) := by decide +kernel
theorem dX12_blows_3 : decode cX12_blows 3 = .ok (.ldc2_w 107, 3) := by decide +kernel
theorem dX12_blows_6 : decode cX12_blows 6 = .ok (.invokestatic 55, 3) := by decide +kernel
theorem dX12_blows_9 : decode cX12_blows 9 = .ok (.ifCond .eq 25, 3) := by decide +kernel
theorem dX12_blows_12 : decode cX12_blows 12 = .ok (.iload_n 2, 1) := by decide +kernel
theorem dX12_blows_13 : decode cX12_blows 13 = .ok (.i2l, 1) := by decide +kernel
theorem dX12_blows_14 : decode cX12_blows 14 = .ok (.lconst 0, 1) := by decide +kernel
theorem dX12_blows_15 : decode cX12_blows 15 = .ok (.ldc2_w 97, 3) := by decide +kernel
theorem dX12_blows_18 : decode cX12_blows 18 = .ok (.invokestatic 55, 3) := by decide +kernel
theorem dX12_blows_21 : decode cX12_blows 21 = .ok (.ifCond .eq 13, 3) := by decide +kernel
theorem dX12_blows_24 : decode cX12_blows 24 = .ok (.iload_n 3, 1) := by decide +kernel
theorem dX12_blows_25 : decode cX12_blows 25 = .ok (.i2l, 1) := by decide +kernel
theorem dX12_blows_26 : decode cX12_blows 26 = .ok (.lconst 0, 1) := by decide +kernel
theorem dX12_blows_27 : decode cX12_blows 27 = .ok (.lconst 1, 1) := by decide +kernel
theorem dX12_blows_28 : decode cX12_blows 28 = .ok (.invokestatic 55, 3) := by decide +kernel
theorem dX12_blows_31 : decode cX12_blows 31 = .ok (.ifCond .ne 8, 3) := by decide +kernel
theorem dX12_blows_34 : decode cX12_blows 34 = .ok (.aload_n 0, 1) := by decide +kernel
theorem dX12_blows_35 : decode cX12_blows 35 = .ok (.invokevirtual 101, 3) := by decide +kernel
theorem dX12_blows_38 : decode cX12_blows 38 = .ok (.ireturn, 1) := by decide +kernel
theorem dX12_blows_39 : decode cX12_blows 39 = .ok (.aload_n 0, 1) := by decide +kernel
theorem dX12_blows_40 : decode cX12_blows 40 = .ok (.aload_n 0, 1) := by decide +kernel
theorem dX12_blows_41 : decode cX12_blows 41 = .ok (.getfield 7, 3) := by decide +kernel
theorem dX12_blows_44 : decode cX12_blows 44 = .ok (.iload_n 2, 1) := by decide +kernel
theorem dX12_blows_45 : decode cX12_blows 45 = .ok (.aload_n 0, 1) := by decide +kernel
theorem dX12_blows_46 : decode cX12_blows 46 = .ok (.getfield 7, 3) := by decide +kernel
theorem dX12_blows_49 : decode cX12_blows 49 = .ok (.invokestatic 82, 3) := by decide +kernel
theorem dX12_blows_52 : decode cX12_blows 52 = .ok (.invokevirtual 78, 3) := by decide +kernel
theorem dX12_blows_55 : decode cX12_blows 55 = .ok (.iload_n 3, 1) := by decide +kernel
theorem dX12_blows_56 : decode cX12_blows 56 = .ok (.ifCond .ne 12, 3) := by decide +kernel
theorem dX12_blows_59 : decode cX12_blows 59 = .ok (.aload_n 0, 1) := by decide +kernel
theorem dX12_blows_60 : decode cX12_blows 60 = .ok (.getfield 33, 3) := by decide +kernel
theorem dX12_blows_63 : decode cX12_blows 63 = .ok (.iload_n 1, 1) := by decide +kernel
theorem dX12_blows_64 : decode cX12_blows 64 = .ok (.iaload, 1) := by decide +kernel
theorem dX12_blows_65 : decode cX12_blows 65 = .ok (.goto 9, 3) := by decide +kernel
theorem dX12_blows_68 : decode cX12_blows 68 = .ok (.aload_n 0, 1) := by decide +kernel
theorem dX12_blows_69 : decode cX12_blows 69 = .ok (.getfield 36, 3) := by decide +kernel
theorem dX12_blows_72 : decode cX12_blows 72 = .ok (.iload_n 1, 1) := by decide +kernel
theorem dX12_blows_73 : decode cX12_blows 73 = .ok (.iaload, 1) := by decide +kernel
theorem dX12_blows_74 : decode cX12_blows 74 = .ok (.ireturn, 1) := by decide +kernel
theorem dX12_takes_0 : decode cX12_takes 0 = .ok (.aload_n 0, 1) := by decide +kernel
theorem dX12_takes_1 : decode cX12_takes 1 = .ok (.iload_n 1, 1) := by decide +kernel
theorem dX12_takes_2 : decode cX12_takes 2 = .ok (.invokevirtual 185, 3) := by decide +kernel
theorem dX12_takes_5 : decode cX12_takes 5 = .ok (.ifCond .eq 15, 3) := by decide +kernel
theorem dX12_takes_8 : decode cX12_takes 8 = .ok (.iload_n 2, 1) := by decide +kernel
theorem dX12_takes_9 : decode cX12_takes 9 = .ok (.i2l, 1) := by decide +kernel
theorem dX12_takes_10 : decode cX12_takes 10 = .ok (.lconst 0, 1) := by decide +kernel
theorem dX12_takes_11 : decode cX12_takes 11 = .ok (.ldc2_w 97, 3) := by decide +kernel
theorem dX12_takes_14 : decode cX12_takes 14 = .ok (.invokestatic 55, 3) := by decide +kernel
theorem dX12_takes_17 : decode cX12_takes 17 = .ok (.ifCond .ne 8, 3) := by decide +kernel
theorem dX12_takes_20 : decode cX12_takes 20 = .ok (.aload_n 0, 1) := by decide +kernel
theorem dX12_takes_21 : decode cX12_takes 21 = .ok (.invokevirtual 101, 3) := by decide +kernel
theorem dX12_takes_24 : decode cX12_takes 24 = .ok (.ireturn, 1) := by decide +kernel
theorem dX12_takes_25 : decode cX12_takes 25 = .ok (.aload_n 0, 1) := by decide +kernel
theorem dX12_takes_26 : decode cX12_takes 26 = .ok (.aload_n 0, 1) := by decide +kernel
theorem dX12_takes_27 : decode cX12_takes 27 = .ok (.getfield 7, 3) := by decide +kernel
theorem dX12_takes_30 : decode cX12_takes 30 = .ok (.iload_n 2, 1) := by decide +kernel
theorem dX12_takes_31 : decode cX12_takes 31 = .ok (.aload_n 0, 1) := by decide +kernel
theorem dX12_takes_32 : decode cX12_takes 32 = .ok (.getfield 7, 3) := by decide +kernel
theorem dX12_takes_35 : decode cX12_takes 35 = .ok (.invokestatic 82, 3) := by decide +kernel
theorem dX12_takes_38 : decode cX12_takes 38 = .ok (.invokevirtual 78, 3) := by decide +kernel
theorem dX12_takes_41 : decode cX12_takes 41 = .ok (.aload_n 0, 1) := by decide +kernel
theorem dX12_takes_42 : decode cX12_takes 42 = .ok (.getfield 30, 3) := by decide +kernel
theorem dX12_takes_45 : decode cX12_takes 45 = .ok (.iload_n 1, 1) := by decide +kernel
theorem dX12_takes_46 : decode cX12_takes 46 = .ok (.iaload, 1) := by decide +kernel
theorem dX12_takes_47 : decode cX12_takes 47 = .ok (.ireturn, 1) := by decide +kernel
theorem dX12_then_0 : decode cX12_then 0 = .ok (.aload_n 0, 1) := by decide +kernel
theorem dX12_then_1 : decode cX12_then 1 = .ok (.iload_n 1, 1) := by decide +kernel
theorem dX12_then_2 : decode cX12_then 2 = .ok (.invokevirtual 185, 3) := by decide +kernel
theorem dX12_then_5 : decode cX12_then 5 = .ok (.ifCond .eq 15, 3) := by decide +kernel
theorem dX12_then_8 : decode cX12_then 8 = .ok (.iload_n 2, 1) := by decide +kernel
theorem dX12_then_9 : decode cX12_then 9 = .ok (.i2l, 1) := by decide +kernel
theorem dX12_then_10 : decode cX12_then 10 = .ok (.lconst 0, 1) := by decide +kernel
theorem dX12_then_11 : decode cX12_then 11 = .ok (.ldc2_w 180, 3) := by decide +kernel
theorem dX12_then_14 : decode cX12_then 14 = .ok (.invokestatic 55, 3) := by decide +kernel
theorem dX12_then_17 : decode cX12_then 17 = .ok (.ifCond .ne 8, 3) := by decide +kernel
theorem dX12_then_20 : decode cX12_then 20 = .ok (.aload_n 0, 1) := by decide +kernel
theorem dX12_then_21 : decode cX12_then 21 = .ok (.invokevirtual 101, 3) := by decide +kernel
theorem dX12_then_24 : decode cX12_then 24 = .ok (.ireturn, 1) := by decide +kernel
theorem dX12_then_25 : decode cX12_then 25 = .ok (.aload_n 0, 1) := by decide +kernel
theorem dX12_then_26 : decode cX12_then 26 = .ok (.invokevirtual 211, 3) := by decide +kernel
theorem dX12_then_29 : decode cX12_then 29 = .ok (.iconst 0, 1) := by decide +kernel
theorem dX12_then_30 : decode cX12_then 30 = .ok (.istore_n 3, 1) := by decide +kernel
theorem dX12_then_31 : decode cX12_then 31 = .ok (.iload_n 3, 1) := by decide +kernel
theorem dX12_then_32 : decode cX12_then 32 = .ok (.iload_n 2, 1) := by decide +kernel
theorem dX12_then_33 : decode cX12_then 33 = .ok (.if_icmp .ge 19, 3) := by decide +kernel
theorem dX12_then_36 : decode cX12_then 36 = .ok (.aload_n 0, 1) := by decide +kernel
theorem dX12_then_37 : decode cX12_then 37 = .ok (.aload_n 0, 1) := by decide +kernel
theorem dX12_then_38 : decode cX12_then 38 = .ok (.getfield 13, 3) := by decide +kernel
theorem dX12_then_41 : decode cX12_then 41 = .ok (.invokevirtual 90, 3) := by decide +kernel
theorem dX12_then_44 : decode cX12_then 44 = .ok (.istore 4, 2) := by decide +kernel
theorem dX12_then_46 : decode cX12_then 46 = .ok (.iinc 3 1, 3) := by decide +kernel
theorem dX12_then_49 : decode cX12_then 49 = .ok (.goto (-18), 3) := by decide +kernel
theorem dX12_then_52 : decode cX12_then 52 = .ok (.aload_n 0, 1) := by decide +kernel
theorem dX12_then_53 : decode cX12_then 53 = .ok (.getfield 13, 3) := by decide +kernel
theorem dX12_then_56 : decode cX12_then 56 = .ok (.iload_n 1, 1) := by decide +kernel
theorem dX12_then_57 : decode cX12_then 57 = .ok (.iconst 3, 1) := by decide +kernel
theorem dX12_then_58 : decode cX12_then 58 = .ok (.invokestatic 66, 3) := by decide +kernel
theorem dX12_then_61 : decode cX12_then 61 = .ok (.ireturn, 1) := by decide +kernel
theorem dX12_calm_0 : decode cX12_calm 0 = .ok (.aload_n 0, 1) := by decide +kernel
theorem dX12_calm_1 : decode cX12_calm 1 = .ok (.iload_n 1, 1) := by decide +kernel
theorem dX12_calm_2 : decode cX12_calm 2 = .ok (.invokevirtual 185, 3) := by decide +kernel
theorem dX12_calm_5 : decode cX12_calm 5 = .ok (.ifCond .ne 8, 3) := by decide +kernel
theorem dX12_calm_8 : decode cX12_calm 8 = .ok (.aload_n 0, 1) := by decide +kernel
theorem dX12_calm_9 : decode cX12_calm 9 = .ok (.invokevirtual 101, 3) := by decide +kernel
theorem dX12_calm_12 : decode cX12_calm 12 = .ok (.ireturn, 1) := by decide +kernel
theorem dX12_calm_13 : decode cX12_calm 13 = .ok (.iconst 0, 1) := by decide +kernel
theorem dX12_calm_14 : decode cX12_calm 14 = .ok (.istore_n 2, 1) := by decide +kernel
theorem dX12_calm_15 : decode cX12_calm 15 = .ok (.iload_n 2, 1) := by decide +kernel
theorem dX12_calm_16 : decode cX12_calm 16 = .ok (.bipush 24, 2) := by decide +kernel
theorem dX12_calm_18 : decode cX12_calm 18 = .ok (.if_icmp .ge 44, 3) := by decide +kernel
theorem dX12_calm_21 : decode cX12_calm 21 = .ok (.aload_n 0, 1) := by decide +kernel
theorem dX12_calm_22 : decode cX12_calm 22 = .ok (.aload_n 0, 1) := by decide +kernel
theorem dX12_calm_23 : decode cX12_calm 23 = .ok (.getfield 7, 3) := by decide +kernel
theorem dX12_calm_26 : decode cX12_calm 26 = .ok (.aload_n 0, 1) := by decide +kernel
theorem dX12_calm_27 : decode cX12_calm 27 = .ok (.getfield 7, 3) := by decide +kernel
theorem dX12_calm_30 : decode cX12_calm 30 = .ok (.bipush 66, 2) := by decide +kernel
theorem dX12_calm_32 : decode cX12_calm 32 = .ok (.iaload, 1) := by decide +kernel
theorem dX12_calm_33 : decode cX12_calm 33 = .ok (.iload_n 2, 1) := by decide +kernel
theorem dX12_calm_34 : decode cX12_calm 34 = .ok (.iadd, 1) := by decide +kernel
theorem dX12_calm_35 : decode cX12_calm 35 = .ok (.aload_n 0, 1) := by decide +kernel
theorem dX12_calm_36 : decode cX12_calm 36 = .ok (.getfield 7, 3) := by decide +kernel
theorem dX12_calm_39 : decode cX12_calm 39 = .ok (.invokestatic 82, 3) := by decide +kernel
theorem dX12_calm_42 : decode cX12_calm 42 = .ok (.invokevirtual 78, 3) := by decide +kernel
theorem dX12_calm_45 : decode cX12_calm 45 = .ok (.aload_n 0, 1) := by decide +kernel
theorem dX12_calm_46 : decode cX12_calm 46 = .ok (.getfield 30, 3) := by decide +kernel
theorem dX12_calm_49 : decode cX12_calm 49 = .ok (.iload_n 1, 1) := by decide +kernel
theorem dX12_calm_50 : decode cX12_calm 50 = .ok (.iaload, 1) := by decide +kernel
theorem dX12_calm_51 : decode cX12_calm 51 = .ok (.ifCond .ne 5, 3) := by decide +kernel
theorem dX12_calm_54 : decode cX12_calm 54 = .ok (.iload_n 2, 1) := by decide +kernel
theorem dX12_calm_55 : decode cX12_calm 55 = .ok (.ireturn, 1) := by decide +kernel
theorem dX12_calm_56 : decode cX12_calm 56 = .ok (.iinc 2 1, 3) := by decide +kernel
theorem dX12_calm_59 : decode cX12_calm 59 = .ok (.goto (-44), 3) := by decide +kernel
theorem dX12_calm_62 : decode cX12_calm 62 = .ok (.iconst (-1), 1) := by decide +kernel
theorem dX12_calm_63 : decode cX12_calm 63 = .ok (.ireturn, 1) := by decide +kernel
theorem dX12_place_0 : decode cX12_place 0 = .ok (.iload_n 1, 1) := by decide +kernel
theorem dX12_place_1 : decode cX12_place 1 = .ok (.i2l, 1) := by decide +kernel
theorem dX12_place_2 : decode cX12_place 2 = .ok (.lconst 0, 1) := by decide +kernel
theorem dX12_place_3 : decode cX12_place 3 = .ok (.ldc2_w 105, 3) := by decide +kernel
theorem dX12_place_6 : decode cX12_place 6 = .ok (.invokestatic 55, 3) := by decide +kernel
theorem dX12_place_9 : decode cX12_place 9 = .ok (.ifCond .eq 25, 3) := by decide +kernel
theorem dX12_place_12 : decode cX12_place 12 = .ok (.iload_n 2, 1) := by decide +kernel
theorem dX12_place_13 : decode cX12_place 13 = .ok (.i2l, 1) := by decide +kernel
theorem dX12_place_14 : decode cX12_place 14 = .ok (.lconst 1, 1) := by decide +kernel
theorem dX12_place_15 : decode cX12_place 15 = .ok (.ldc2_w 109, 3) := by decide +kernel
theorem dX12_place_18 : decode cX12_place 18 = .ok (.invokestatic 55, 3) := by decide +kernel
theorem dX12_place_21 : decode cX12_place 21 = .ok (.ifCond .eq 13, 3) := by decide +kernel
theorem dX12_place_24 : decode cX12_place 24 = .ok (.iload_n 3, 1) := by decide +kernel
theorem dX12_place_25 : decode cX12_place 25 = .ok (.i2l, 1) := by decide +kernel
theorem dX12_place_26 : decode cX12_place 26 = .ok (.lconst 0, 1) := by decide +kernel
theorem dX12_place_27 : decode cX12_place 27 = .ok (.lconst 1, 1) := by decide +kernel
theorem dX12_place_28 : decode cX12_place 28 = .ok (.invokestatic 55, 3) := by decide +kernel
theorem dX12_place_31 : decode cX12_place 31 = .ok (.ifCond .ne 8, 3) := by decide +kernel
theorem dX12_place_34 : decode cX12_place 34 = .ok (.aload_n 0, 1) := by decide +kernel
theorem dX12_place_35 : decode cX12_place 35 = .ok (.invokevirtual 101, 3) := by decide +kernel
theorem dX12_place_38 : decode cX12_place 38 = .ok (.ireturn, 1) := by decide +kernel
theorem dX12_place_39 : decode cX12_place 39 = .ok (.aload_n 0, 1) := by decide +kernel
theorem dX12_place_40 : decode cX12_place 40 = .ok (.getfield 7, 3) := by decide +kernel
theorem dX12_place_43 : decode cX12_place 43 = .ok (.bipush 16, 2) := by decide +kernel
theorem dX12_place_45 : decode cX12_place 45 = .ok (.iaload, 1) := by decide +kernel
theorem dX12_place_46 : decode cX12_place 46 = .ok (.bipush 7, 2) := by decide +kernel
theorem dX12_place_48 : decode cX12_place 48 = .ok (.if_icmp .ne 8, 3) := by decide +kernel
theorem dX12_place_51 : decode cX12_place 51 = .ok (.aload_n 0, 1) := by decide +kernel
theorem dX12_place_52 : decode cX12_place 52 = .ok (.invokevirtual 111, 3) := by decide +kernel
theorem dX12_place_55 : decode cX12_place 55 = .ok (.ireturn, 1) := by decide +kernel
theorem dX12_place_56 : decode cX12_place 56 = .ok (.aload_n 0, 1) := by decide +kernel
theorem dX12_place_57 : decode cX12_place 57 = .ok (.getfield 7, 3) := by decide +kernel
theorem dX12_place_60 : decode cX12_place 60 = .ok (.invokestatic 82, 3) := by decide +kernel
theorem dX12_place_63 : decode cX12_place 63 = .ok (.istore 4, 2) := by decide +kernel
theorem dX12_place_65 : decode cX12_place 65 = .ok (.aload_n 0, 1) := by decide +kernel
theorem dX12_place_66 : decode cX12_place 66 = .ok (.aload_n 0, 1) := by decide +kernel
theorem dX12_place_67 : decode cX12_place 67 = .ok (.getfield 7, 3) := by decide +kernel
theorem dX12_place_70 : decode cX12_place 70 = .ok (.iload 4, 2) := by decide +kernel
theorem dX12_place_72 : decode cX12_place 72 = .ok (.iload 4, 2) := by decide +kernel
theorem dX12_place_74 : decode cX12_place 74 = .ok (.invokevirtual 214, 3) := by decide +kernel
theorem dX12_place_77 : decode cX12_place 77 = .ok (.istore 5, 2) := by decide +kernel
theorem dX12_place_79 : decode cX12_place 79 = .ok (.iconst (-1), 1) := by decide +kernel
theorem dX12_place_80 : decode cX12_place 80 = .ok (.istore 6, 2) := by decide +kernel
theorem dX12_place_82 : decode cX12_place 82 = .ok (.iconst 0, 1) := by decide +kernel
theorem dX12_place_83 : decode cX12_place 83 = .ok (.istore 7, 2) := by decide +kernel
theorem dX12_place_85 : decode cX12_place 85 = .ok (.iconst 0, 1) := by decide +kernel
theorem dX12_place_86 : decode cX12_place 86 = .ok (.istore 8, 2) := by decide +kernel
theorem dX12_place_88 : decode cX12_place 88 = .ok (.iload 8, 2) := by decide +kernel
theorem dX12_place_90 : decode cX12_place 90 = .ok (.bipush 12, 2) := by decide +kernel
theorem dX12_place_92 : decode cX12_place 92 = .ok (.if_icmp .ge 107, 3) := by decide +kernel
theorem dX12_place_95 : decode cX12_place 95 = .ok (.aload_n 0, 1) := by decide +kernel
theorem dX12_place_96 : decode cX12_place 96 = .ok (.invokevirtual 211, 3) := by decide +kernel
theorem dX12_place_99 : decode cX12_place 99 = .ok (.aload_n 0, 1) := by decide +kernel
theorem dX12_place_100 : decode cX12_place 100 = .ok (.getfield 13, 3) := by decide +kernel
theorem dX12_place_103 : decode cX12_place 103 = .ok (.iload_n 1, 1) := by decide +kernel
theorem dX12_place_104 : decode cX12_place 104 = .ok (.iload 8, 2) := by decide +kernel
theorem dX12_place_106 : decode cX12_place 106 = .ok (.iload_n 2, 1) := by decide +kernel
theorem dX12_place_107 : decode cX12_place 107 = .ok (.invokestatic 114, 3) := by decide +kernel
theorem dX12_place_110 : decode cX12_place 110 = .ok (.iload 5, 2) := by decide +kernel
theorem dX12_place_112 : decode cX12_place 112 = .ok (.aload_n 0, 1) := by decide +kernel
theorem dX12_place_113 : decode cX12_place 113 = .ok (.aload_n 0, 1) := by decide +kernel
theorem dX12_place_114 : decode cX12_place 114 = .ok (.getfield 13, 3) := by decide +kernel
theorem dX12_place_117 : decode cX12_place 117 = .ok (.aload_n 0, 1) := by decide +kernel
theorem dX12_place_118 : decode cX12_place 118 = .ok (.getfield 13, 3) := by decide +kernel
theorem dX12_place_121 : decode cX12_place 121 = .ok (.invokestatic 82, 3) := by decide +kernel
theorem dX12_place_124 : decode cX12_place 124 = .ok (.iload 4, 2) := by decide +kernel
theorem dX12_place_126 : decode cX12_place 126 = .ok (.invokevirtual 214, 3) := by decide +kernel
theorem dX12_place_129 : decode cX12_place 129 = .ok (.isub, 1) := by decide +kernel
theorem dX12_place_130 : decode cX12_place 130 = .ok (.istore 9, 2) := by decide +kernel
theorem dX12_place_132 : decode cX12_place 132 = .ok (.iload 9, 2) := by decide +kernel
theorem dX12_place_134 : decode cX12_place 134 = .ok (.ifCond .ge 7, 3) := by decide +kernel
theorem dX12_place_137 : decode cX12_place 137 = .ok (.iconst 0, 1) := by decide +kernel
theorem dX12_place_138 : decode cX12_place 138 = .ok (.goto 5, 3) := by decide +kernel
theorem dX12_place_141 : decode cX12_place 141 = .ok (.iload 9, 2) := by decide +kernel
theorem dX12_place_143 : decode cX12_place 143 = .ok (.istore 9, 2) := by decide +kernel
theorem dX12_place_145 : decode cX12_place 145 = .ok (.iload 6, 2) := by decide +kernel
theorem dX12_place_147 : decode cX12_place 147 = .ok (.iconst (-1), 1) := by decide +kernel
theorem dX12_place_148 : decode cX12_place 148 = .ok (.if_icmp .eq 10, 3) := by decide +kernel
theorem dX12_place_151 : decode cX12_place 151 = .ok (.iload 9, 2) := by decide +kernel
theorem dX12_place_153 : decode cX12_place 153 = .ok (.iload 7, 2) := by decide +kernel
theorem dX12_place_155 : decode cX12_place 155 = .ok (.if_icmp .ge 7, 3) := by decide +kernel
theorem dX12_place_158 : decode cX12_place 158 = .ok (.iconst 1, 1) := by decide +kernel
theorem dX12_place_159 : decode cX12_place 159 = .ok (.goto 4, 3) := by decide +kernel
theorem dX12_place_162 : decode cX12_place 162 = .ok (.iconst 0, 1) := by decide +kernel
theorem dX12_place_163 : decode cX12_place 163 = .ok (.istore 10, 2) := by decide +kernel
theorem dX12_place_165 : decode cX12_place 165 = .ok (.iload 10, 2) := by decide +kernel
theorem dX12_place_167 : decode cX12_place 167 = .ok (.ifCond .eq 8, 3) := by decide +kernel
theorem dX12_place_170 : decode cX12_place 170 = .ok (.iload 8, 2) := by decide +kernel
theorem dX12_place_172 : decode cX12_place 172 = .ok (.goto 5, 3) := by decide +kernel
theorem dX12_place_175 : decode cX12_place 175 = .ok (.iload 6, 2) := by decide +kernel
theorem dX12_place_177 : decode cX12_place 177 = .ok (.istore 6, 2) := by decide +kernel
theorem dX12_place_179 : decode cX12_place 179 = .ok (.iload 10, 2) := by decide +kernel
theorem dX12_place_181 : decode cX12_place 181 = .ok (.ifCond .eq 8, 3) := by decide +kernel
theorem dX12_place_184 : decode cX12_place 184 = .ok (.iload 9, 2) := by decide +kernel
theorem dX12_place_186 : decode cX12_place 186 = .ok (.goto 5, 3) := by decide +kernel
theorem dX12_place_189 : decode cX12_place 189 = .ok (.iload 7, 2) := by decide +kernel
theorem dX12_place_191 : decode cX12_place 191 = .ok (.istore 7, 2) := by decide +kernel
theorem dX12_place_193 : decode cX12_place 193 = .ok (.iinc 8 1, 3) := by decide +kernel
theorem dX12_place_196 : decode cX12_place 196 = .ok (.goto (-108), 3) := by decide +kernel
theorem dX12_place_199 : decode cX12_place 199 = .ok (.iload_n 3, 1) := by decide +kernel
theorem dX12_place_200 : decode cX12_place 200 = .ok (.ifCond .ne 8, 3) := by decide +kernel
theorem dX12_place_203 : decode cX12_place 203 = .ok (.iload 6, 2) := by decide +kernel
theorem dX12_place_205 : decode cX12_place 205 = .ok (.goto 5, 3) := by decide +kernel
theorem dX12_place_208 : decode cX12_place 208 = .ok (.iload 7, 2) := by decide +kernel
theorem dX12_place_210 : decode cX12_place 210 = .ok (.ireturn, 1) := by decide +kernel
theorem dX12_orders_0 : decode cX12_orders 0 = .ok (.lconst 1, 1) := by decide +kernel
theorem dX12_orders_1 : decode cX12_orders 1 = .ok (.lstore_n 1, 1) := by decide +kernel
theorem dX12_orders_2 : decode cX12_orders 2 = .ok (.iconst 2, 1) := by decide +kernel
theorem dX12_orders_3 : decode cX12_orders 3 = .ok (.istore_n 3, 1) := by decide +kernel
theorem dX12_orders_4 : decode cX12_orders 4 = .ok (.iload_n 3, 1) := by decide +kernel
theorem dX12_orders_5 : decode cX12_orders 5 = .ok (.iload_n 0, 1) := by decide +kernel
theorem dX12_orders_6 : decode cX12_orders 6 = .ok (.if_icmp .gt 14, 3) := by decide +kernel
theorem dX12_orders_9 : decode cX12_orders 9 = .ok (.lload_n 1, 1) := by decide +kernel
theorem dX12_orders_10 : decode cX12_orders 10 = .ok (.iload_n 3, 1) := by decide +kernel
theorem dX12_orders_11 : decode cX12_orders 11 = .ok (.i2l, 1) := by decide +kernel
theorem dX12_orders_12 : decode cX12_orders 12 = .ok (.lmul, 1) := by decide +kernel
theorem dX12_orders_13 : decode cX12_orders 13 = .ok (.lstore_n 1, 1) := by decide +kernel
theorem dX12_orders_14 : decode cX12_orders 14 = .ok (.iinc 3 1, 3) := by decide +kernel
theorem dX12_orders_17 : decode cX12_orders 17 = .ok (.goto (-13), 3) := by decide +kernel
theorem dX12_orders_20 : decode cX12_orders 20 = .ok (.lload_n 1, 1) := by decide +kernel
theorem dX12_orders_21 : decode cX12_orders 21 = .ok (.lreturn, 1) := by decide +kernel
theorem dX12_share_0 : decode cX12_share 0 = .ok (.aload_n 0, 1) := by decide +kernel
theorem dX12_share_1 : decode cX12_share 1 = .ok (.iload_n 1, 1) := by decide +kernel
theorem dX12_share_2 : decode cX12_share 2 = .ok (.invokevirtual 185, 3) := by decide +kernel
theorem dX12_share_5 : decode cX12_share 5 = .ok (.ifCond .ne 8, 3) := by decide +kernel
theorem dX12_share_8 : decode cX12_share 8 = .ok (.aload_n 0, 1) := by decide +kernel
theorem dX12_share_9 : decode cX12_share 9 = .ok (.invokevirtual 101, 3) := by decide +kernel
theorem dX12_share_12 : decode cX12_share 12 = .ok (.ireturn, 1) := by decide +kernel
theorem dX12_share_13 : decode cX12_share 13 = .ok (.aload_n 0, 1) := by decide +kernel
theorem dX12_share_14 : decode cX12_share 14 = .ok (.getfield 7, 3) := by decide +kernel
theorem dX12_share_17 : decode cX12_share 17 = .ok (.invokestatic 82, 3) := by decide +kernel
theorem dX12_share_20 : decode cX12_share 20 = .ok (.istore_n 2, 1) := by decide +kernel
theorem dX12_share_21 : decode cX12_share 21 = .ok (.lconst 0, 1) := by decide +kernel
theorem dX12_share_22 : decode cX12_share 22 = .ok (.lstore_n 3, 1) := by decide +kernel
theorem dX12_share_23 : decode cX12_share 23 = .ok (.iconst 0, 1) := by decide +kernel
theorem dX12_share_24 : decode cX12_share 24 = .ok (.istore 5, 2) := by decide +kernel
theorem dX12_share_26 : decode cX12_share 26 = .ok (.iload 5, 2) := by decide +kernel
theorem dX12_share_28 : decode cX12_share 28 = .ok (.iload_n 2, 1) := by decide +kernel
theorem dX12_share_29 : decode cX12_share 29 = .ok (.if_icmp .gt 87, 3) := by decide +kernel
theorem dX12_share_32 : decode cX12_share 32 = .ok (.iload 5, 2) := by decide +kernel
theorem dX12_share_34 : decode cX12_share 34 = .ok (.iload_n 1, 1) := by decide +kernel
theorem dX12_share_35 : decode cX12_share 35 = .ok (.invokestatic 62, 3) := by decide +kernel
theorem dX12_share_38 : decode cX12_share 38 = .ok (.ifCond .ne 72, 3) := by decide +kernel
theorem dX12_share_41 : decode cX12_share 41 = .ok (.iload 5, 2) := by decide +kernel
theorem dX12_share_43 : decode cX12_share 43 = .ok (.iconst 1, 1) := by decide +kernel
theorem dX12_share_44 : decode cX12_share 44 = .ok (.iload_n 1, 1) := by decide +kernel
theorem dX12_share_45 : decode cX12_share 45 = .ok (.ishl, 1) := by decide +kernel
theorem dX12_share_46 : decode cX12_share 46 = .ok (.ior, 1) := by decide +kernel
theorem dX12_share_47 : decode cX12_share 47 = .ok (.istore 6, 2) := by decide +kernel
theorem dX12_share_49 : decode cX12_share 49 = .ok (.aload_n 0, 1) := by decide +kernel
theorem dX12_share_50 : decode cX12_share 50 = .ok (.aload_n 0, 1) := by decide +kernel
theorem dX12_share_51 : decode cX12_share 51 = .ok (.getfield 7, 3) := by decide +kernel
theorem dX12_share_54 : decode cX12_share 54 = .ok (.iload 6, 2) := by decide +kernel
theorem dX12_share_56 : decode cX12_share 56 = .ok (.iload 6, 2) := by decide +kernel
theorem dX12_share_58 : decode cX12_share 58 = .ok (.invokevirtual 214, 3) := by decide +kernel
theorem dX12_share_61 : decode cX12_share 61 = .ok (.aload_n 0, 1) := by decide +kernel
theorem dX12_share_62 : decode cX12_share 62 = .ok (.aload_n 0, 1) := by decide +kernel
theorem dX12_share_63 : decode cX12_share 63 = .ok (.getfield 7, 3) := by decide +kernel
theorem dX12_share_66 : decode cX12_share 66 = .ok (.iload 5, 2) := by decide +kernel
theorem dX12_share_68 : decode cX12_share 68 = .ok (.iload 5, 2) := by decide +kernel
theorem dX12_share_70 : decode cX12_share 70 = .ok (.invokevirtual 214, 3) := by decide +kernel
theorem dX12_share_73 : decode cX12_share 73 = .ok (.isub, 1) := by decide +kernel
theorem dX12_share_74 : decode cX12_share 74 = .ok (.istore 7, 2) := by decide +kernel
theorem dX12_share_76 : decode cX12_share 76 = .ok (.lload_n 3, 1) := by decide +kernel
theorem dX12_share_77 : decode cX12_share 77 = .ok (.iload 7, 2) := by decide +kernel
theorem dX12_share_79 : decode cX12_share 79 = .ok (.i2l, 1) := by decide +kernel
theorem dX12_share_80 : decode cX12_share 80 = .ok (.iload 5, 2) := by decide +kernel
theorem dX12_share_82 : decode cX12_share 82 = .ok (.invokestatic 217, 3) := by decide +kernel
theorem dX12_share_85 : decode cX12_share 85 = .ok (.invokestatic 220, 3) := by decide +kernel
theorem dX12_share_88 : decode cX12_share 88 = .ok (.lmul, 1) := by decide +kernel
theorem dX12_share_89 : decode cX12_share 89 = .ok (.aload_n 0, 1) := by decide +kernel
theorem dX12_share_90 : decode cX12_share 90 = .ok (.getfield 7, 3) := by decide +kernel
theorem dX12_share_93 : decode cX12_share 93 = .ok (.bipush 16, 2) := by decide +kernel
theorem dX12_share_95 : decode cX12_share 95 = .ok (.iaload, 1) := by decide +kernel
theorem dX12_share_96 : decode cX12_share 96 = .ok (.iconst 1, 1) := by decide +kernel
theorem dX12_share_97 : decode cX12_share 97 = .ok (.isub, 1) := by decide +kernel
theorem dX12_share_98 : decode cX12_share 98 = .ok (.iload 5, 2) := by decide +kernel
theorem dX12_share_100 : decode cX12_share 100 = .ok (.invokestatic 217, 3) := by decide +kernel
theorem dX12_share_103 : decode cX12_share 103 = .ok (.isub, 1) := by decide +kernel
theorem dX12_share_104 : decode cX12_share 104 = .ok (.invokestatic 220, 3) := by decide +kernel
theorem dX12_share_107 : decode cX12_share 107 = .ok (.lmul, 1) := by decide +kernel
theorem dX12_share_108 : decode cX12_share 108 = .ok (.ladd, 1) := by decide +kernel
theorem dX12_share_109 : decode cX12_share 109 = .ok (.lstore_n 3, 1) := by decide +kernel
theorem dX12_share_110 : decode cX12_share 110 = .ok (.iinc 5 1, 3) := by decide +kernel
theorem dX12_share_113 : decode cX12_share 113 = .ok (.goto (-87), 3) := by decide +kernel
theorem dX12_share_116 : decode cX12_share 116 = .ok (.aload_n 0, 1) := by decide +kernel
theorem dX12_share_117 : decode cX12_share 117 = .ok (.lload_n 3, 1) := by decide +kernel
theorem dX12_share_118 : decode cX12_share 118 = .ok (.aload_n 0, 1) := by decide +kernel
theorem dX12_share_119 : decode cX12_share 119 = .ok (.getfield 7, 3) := by decide +kernel
theorem dX12_share_122 : decode cX12_share 122 = .ok (.bipush 16, 2) := by decide +kernel
theorem dX12_share_124 : decode cX12_share 124 = .ok (.iaload, 1) := by decide +kernel
theorem dX12_share_125 : decode cX12_share 125 = .ok (.invokestatic 220, 3) := by decide +kernel
theorem dX12_share_128 : decode cX12_share 128 = .ok (.invokevirtual 224, 3) := by decide +kernel
theorem dX12_share_131 : decode cX12_share 131 = .ok (.ireturn, 1) := by decide +kernel
theorem dX12_award_0 : decode cX12_award 0 = .ok (.aload_n 0, 1) := by decide +kernel
theorem dX12_award_1 : decode cX12_award 1 = .ok (.iload_n 1, 1) := by decide +kernel
theorem dX12_award_2 : decode cX12_award 2 = .ok (.invokevirtual 203, 3) := by decide +kernel
theorem dX12_award_5 : decode cX12_award 5 = .ok (.ifCond .eq 11, 3) := by decide +kernel
theorem dX12_award_8 : decode cX12_award 8 = .ok (.aload_n 0, 1) := by decide +kernel
theorem dX12_award_9 : decode cX12_award 9 = .ok (.iload_n 1, 1) := by decide +kernel
theorem dX12_award_10 : decode cX12_award 10 = .ok (.invokevirtual 206, 3) := by decide +kernel
theorem dX12_award_13 : decode cX12_award 13 = .ok (.goto 7, 3) := by decide +kernel
theorem dX12_award_16 : decode cX12_award 16 = .ok (.aload_n 0, 1) := by decide +kernel
theorem dX12_award_17 : decode cX12_award 17 = .ok (.invokevirtual 101, 3) := by decide +kernel
theorem dX12_award_20 : decode cX12_award 20 = .ok (.ireturn, 1) := by decide +kernel
theorem dX12_nextRow_0 : decode cX12_nextRow 0 = .ok (.iload_n 1, 1) := by decide +kernel
theorem dX12_nextRow_1 : decode cX12_nextRow 1 = .ok (.iconst 2, 1) := by decide +kernel
theorem dX12_nextRow_2 : decode cX12_nextRow 2 = .ok (.isub, 1) := by decide +kernel
theorem dX12_nextRow_3 : decode cX12_nextRow 3 = .ok (.istore_n 2, 1) := by decide +kernel
theorem dX12_nextRow_4 : decode cX12_nextRow 4 = .ok (.iload_n 2, 1) := by decide +kernel
theorem dX12_nextRow_5 : decode cX12_nextRow 5 = .ok (.ifCond .lt 26, 3) := by decide +kernel
theorem dX12_nextRow_8 : decode cX12_nextRow 8 = .ok (.aload_n 0, 1) := by decide +kernel
theorem dX12_nextRow_9 : decode cX12_nextRow 9 = .ok (.getfield 46, 3) := by decide +kernel
theorem dX12_nextRow_12 : decode cX12_nextRow 12 = .ok (.iload_n 2, 1) := by decide +kernel
theorem dX12_nextRow_13 : decode cX12_nextRow 13 = .ok (.iaload, 1) := by decide +kernel
theorem dX12_nextRow_14 : decode cX12_nextRow 14 = .ok (.aload_n 0, 1) := by decide +kernel
theorem dX12_nextRow_15 : decode cX12_nextRow 15 = .ok (.getfield 46, 3) := by decide +kernel
theorem dX12_nextRow_18 : decode cX12_nextRow 18 = .ok (.iload_n 2, 1) := by decide +kernel
theorem dX12_nextRow_19 : decode cX12_nextRow 19 = .ok (.iconst 1, 1) := by decide +kernel
theorem dX12_nextRow_20 : decode cX12_nextRow 20 = .ok (.iadd, 1) := by decide +kernel
theorem dX12_nextRow_21 : decode cX12_nextRow 21 = .ok (.iaload, 1) := by decide +kernel
theorem dX12_nextRow_22 : decode cX12_nextRow 22 = .ok (.if_icmp .le 9, 3) := by decide +kernel
theorem dX12_nextRow_25 : decode cX12_nextRow 25 = .ok (.iinc 2 (-1), 3) := by decide +kernel
theorem dX12_nextRow_28 : decode cX12_nextRow 28 = .ok (.goto (-24), 3) := by decide +kernel
theorem dX12_nextRow_31 : decode cX12_nextRow 31 = .ok (.iload_n 2, 1) := by decide +kernel
theorem dX12_nextRow_32 : decode cX12_nextRow 32 = .ok (.ifCond .ge 5, 3) := by decide +kernel
theorem dX12_nextRow_35 : decode cX12_nextRow 35 = .ok (.iconst 0, 1) := by decide +kernel
theorem dX12_nextRow_36 : decode cX12_nextRow 36 = .ok (.ireturn, 1) := by decide +kernel
theorem dX12_nextRow_37 : decode cX12_nextRow 37 = .ok (.iload_n 1, 1) := by decide +kernel
theorem dX12_nextRow_38 : decode cX12_nextRow 38 = .ok (.iconst 1, 1) := by decide +kernel
theorem dX12_nextRow_39 : decode cX12_nextRow 39 = .ok (.isub, 1) := by decide +kernel
theorem dX12_nextRow_40 : decode cX12_nextRow 40 = .ok (.istore_n 3, 1) := by decide +kernel
theorem dX12_nextRow_41 : decode cX12_nextRow 41 = .ok (.aload_n 0, 1) := by decide +kernel
theorem dX12_nextRow_42 : decode cX12_nextRow 42 = .ok (.getfield 46, 3) := by decide +kernel
theorem dX12_nextRow_45 : decode cX12_nextRow 45 = .ok (.iload_n 3, 1) := by decide +kernel
theorem dX12_nextRow_46 : decode cX12_nextRow 46 = .ok (.iaload, 1) := by decide +kernel
theorem dX12_nextRow_47 : decode cX12_nextRow 47 = .ok (.aload_n 0, 1) := by decide +kernel
theorem dX12_nextRow_48 : decode cX12_nextRow 48 = .ok (.getfield 46, 3) := by decide +kernel
theorem dX12_nextRow_51 : decode cX12_nextRow 51 = .ok (.iload_n 2, 1) := by decide +kernel
theorem dX12_nextRow_52 : decode cX12_nextRow 52 = .ok (.iaload, 1) := by decide +kernel
theorem dX12_nextRow_53 : decode cX12_nextRow 53 = .ok (.if_icmp .ge 9, 3) := by decide +kernel
theorem dX12_nextRow_56 : decode cX12_nextRow 56 = .ok (.iinc 3 (-1), 3) := by decide +kernel
theorem dX12_nextRow_59 : decode cX12_nextRow 59 = .ok (.goto (-18), 3) := by decide +kernel
theorem dX12_nextRow_62 : decode cX12_nextRow 62 = .ok (.aload_n 0, 1) := by decide +kernel
theorem dX12_nextRow_63 : decode cX12_nextRow 63 = .ok (.getfield 46, 3) := by decide +kernel
theorem dX12_nextRow_66 : decode cX12_nextRow 66 = .ok (.iload_n 2, 1) := by decide +kernel
theorem dX12_nextRow_67 : decode cX12_nextRow 67 = .ok (.iaload, 1) := by decide +kernel
theorem dX12_nextRow_68 : decode cX12_nextRow 68 = .ok (.istore 4, 2) := by decide +kernel
theorem dX12_nextRow_70 : decode cX12_nextRow 70 = .ok (.aload_n 0, 1) := by decide +kernel
theorem dX12_nextRow_71 : decode cX12_nextRow 71 = .ok (.getfield 46, 3) := by decide +kernel
theorem dX12_nextRow_74 : decode cX12_nextRow 74 = .ok (.iload_n 2, 1) := by decide +kernel
theorem dX12_nextRow_75 : decode cX12_nextRow 75 = .ok (.aload_n 0, 1) := by decide +kernel
theorem dX12_nextRow_76 : decode cX12_nextRow 76 = .ok (.getfield 46, 3) := by decide +kernel
theorem dX12_nextRow_79 : decode cX12_nextRow 79 = .ok (.iload_n 3, 1) := by decide +kernel
theorem dX12_nextRow_80 : decode cX12_nextRow 80 = .ok (.iaload, 1) := by decide +kernel
theorem dX12_nextRow_81 : decode cX12_nextRow 81 = .ok (.iastore, 1) := by decide +kernel
theorem dX12_nextRow_82 : decode cX12_nextRow 82 = .ok (.aload_n 0, 1) := by decide +kernel
theorem dX12_nextRow_83 : decode cX12_nextRow 83 = .ok (.getfield 46, 3) := by decide +kernel
theorem dX12_nextRow_86 : decode cX12_nextRow 86 = .ok (.iload_n 3, 1) := by decide +kernel
theorem dX12_nextRow_87 : decode cX12_nextRow 87 = .ok (.iload 4, 2) := by decide +kernel
theorem dX12_nextRow_89 : decode cX12_nextRow 89 = .ok (.iastore, 1) := by decide +kernel
theorem dX12_nextRow_90 : decode cX12_nextRow 90 = .ok (.iload_n 2, 1) := by decide +kernel
theorem dX12_nextRow_91 : decode cX12_nextRow 91 = .ok (.iconst 1, 1) := by decide +kernel
theorem dX12_nextRow_92 : decode cX12_nextRow 92 = .ok (.iadd, 1) := by decide +kernel
theorem dX12_nextRow_93 : decode cX12_nextRow 93 = .ok (.istore 5, 2) := by decide +kernel
theorem dX12_nextRow_95 : decode cX12_nextRow 95 = .ok (.iload_n 1, 1) := by decide +kernel
theorem dX12_nextRow_96 : decode cX12_nextRow 96 = .ok (.iconst 1, 1) := by decide +kernel
theorem dX12_nextRow_97 : decode cX12_nextRow 97 = .ok (.isub, 1) := by decide +kernel
theorem dX12_nextRow_98 : decode cX12_nextRow 98 = .ok (.istore 6, 2) := by decide +kernel
theorem dX12_nextRow_100 : decode cX12_nextRow 100 = .ok (.iload 5, 2) := by decide +kernel
theorem dX12_nextRow_102 : decode cX12_nextRow 102 = .ok (.iload 6, 2) := by decide +kernel
theorem dX12_nextRow_104 : decode cX12_nextRow 104 = .ok (.if_icmp .ge 44, 3) := by decide +kernel
theorem dX12_nextRow_107 : decode cX12_nextRow 107 = .ok (.aload_n 0, 1) := by decide +kernel
theorem dX12_nextRow_108 : decode cX12_nextRow 108 = .ok (.getfield 46, 3) := by decide +kernel
theorem dX12_nextRow_111 : decode cX12_nextRow 111 = .ok (.iload 5, 2) := by decide +kernel
theorem dX12_nextRow_113 : decode cX12_nextRow 113 = .ok (.iaload, 1) := by decide +kernel
theorem dX12_nextRow_114 : decode cX12_nextRow 114 = .ok (.istore 4, 2) := by decide +kernel
theorem dX12_nextRow_116 : decode cX12_nextRow 116 = .ok (.aload_n 0, 1) := by decide +kernel
theorem dX12_nextRow_117 : decode cX12_nextRow 117 = .ok (.getfield 46, 3) := by decide +kernel
theorem dX12_nextRow_120 : decode cX12_nextRow 120 = .ok (.iload 5, 2) := by decide +kernel
theorem dX12_nextRow_122 : decode cX12_nextRow 122 = .ok (.aload_n 0, 1) := by decide +kernel
theorem dX12_nextRow_123 : decode cX12_nextRow 123 = .ok (.getfield 46, 3) := by decide +kernel
theorem dX12_nextRow_126 : decode cX12_nextRow 126 = .ok (.iload 6, 2) := by decide +kernel
theorem dX12_nextRow_128 : decode cX12_nextRow 128 = .ok (.iaload, 1) := by decide +kernel
theorem dX12_nextRow_129 : decode cX12_nextRow 129 = .ok (.iastore, 1) := by decide +kernel
theorem dX12_nextRow_130 : decode cX12_nextRow 130 = .ok (.aload_n 0, 1) := by decide +kernel
theorem dX12_nextRow_131 : decode cX12_nextRow 131 = .ok (.getfield 46, 3) := by decide +kernel
theorem dX12_nextRow_134 : decode cX12_nextRow 134 = .ok (.iload 6, 2) := by decide +kernel
theorem dX12_nextRow_136 : decode cX12_nextRow 136 = .ok (.iload 4, 2) := by decide +kernel
theorem dX12_nextRow_138 : decode cX12_nextRow 138 = .ok (.iastore, 1) := by decide +kernel
theorem dX12_nextRow_139 : decode cX12_nextRow 139 = .ok (.iinc 5 1, 3) := by decide +kernel
theorem dX12_nextRow_142 : decode cX12_nextRow 142 = .ok (.iinc 6 (-1), 3) := by decide +kernel
theorem dX12_nextRow_145 : decode cX12_nextRow 145 = .ok (.goto (-45), 3) := by decide +kernel
theorem dX12_nextRow_148 : decode cX12_nextRow 148 = .ok (.iconst 1, 1) := by decide +kernel
theorem dX12_nextRow_149 : decode cX12_nextRow 149 = .ok (.ireturn, 1) := by decide +kernel
theorem dX12_wonBy_0 : decode cX12_wonBy 0 = .ok (.iconst 0, 1) := by decide +kernel
theorem dX12_wonBy_1 : decode cX12_wonBy 1 = .ok (.istore_n 2, 1) := by decide +kernel
theorem dX12_wonBy_2 : decode cX12_wonBy 2 = .ok (.iload_n 2, 1) := by decide +kernel
theorem dX12_wonBy_3 : decode cX12_wonBy 3 = .ok (.aload_n 0, 1) := by decide +kernel
theorem dX12_wonBy_4 : decode cX12_wonBy 4 = .ok (.getfield 7, 3) := by decide +kernel
theorem dX12_wonBy_7 : decode cX12_wonBy 7 = .ok (.bipush 16, 2) := by decide +kernel
theorem dX12_wonBy_9 : decode cX12_wonBy 9 = .ok (.iaload, 1) := by decide +kernel
theorem dX12_wonBy_10 : decode cX12_wonBy 10 = .ok (.if_icmp .ge 20, 3) := by decide +kernel
theorem dX12_wonBy_13 : decode cX12_wonBy 13 = .ok (.aload_n 0, 1) := by decide +kernel
theorem dX12_wonBy_14 : decode cX12_wonBy 14 = .ok (.getfield 52, 3) := by decide +kernel
theorem dX12_wonBy_17 : decode cX12_wonBy 17 = .ok (.iload_n 2, 1) := by decide +kernel
theorem dX12_wonBy_18 : decode cX12_wonBy 18 = .ok (.aload_n 0, 1) := by decide +kernel
theorem dX12_wonBy_19 : decode cX12_wonBy 19 = .ok (.iload_n 2, 1) := by decide +kernel
theorem dX12_wonBy_20 : decode cX12_wonBy 20 = .ok (.invokevirtual 194, 3) := by decide +kernel
theorem dX12_wonBy_23 : decode cX12_wonBy 23 = .ok (.iastore, 1) := by decide +kernel
theorem dX12_wonBy_24 : decode cX12_wonBy 24 = .ok (.iinc 2 1, 3) := by decide +kernel
theorem dX12_wonBy_27 : decode cX12_wonBy 27 = .ok (.goto (-25), 3) := by decide +kernel
theorem dX12_wonBy_30 : decode cX12_wonBy 30 = .ok (.iconst 0, 1) := by decide +kernel
theorem dX12_wonBy_31 : decode cX12_wonBy 31 = .ok (.istore_n 2, 1) := by decide +kernel
theorem dX12_wonBy_32 : decode cX12_wonBy 32 = .ok (.iconst 0, 1) := by decide +kernel
theorem dX12_wonBy_33 : decode cX12_wonBy 33 = .ok (.istore_n 3, 1) := by decide +kernel
theorem dX12_wonBy_34 : decode cX12_wonBy 34 = .ok (.iload_n 3, 1) := by decide +kernel
theorem dX12_wonBy_35 : decode cX12_wonBy 35 = .ok (.iload_n 1, 1) := by decide +kernel
theorem dX12_wonBy_36 : decode cX12_wonBy 36 = .ok (.if_icmp .ge 72, 3) := by decide +kernel
theorem dX12_wonBy_39 : decode cX12_wonBy 39 = .ok (.aload_n 0, 1) := by decide +kernel
theorem dX12_wonBy_40 : decode cX12_wonBy 40 = .ok (.getfield 7, 3) := by decide +kernel
theorem dX12_wonBy_43 : decode cX12_wonBy 43 = .ok (.aload_n 0, 1) := by decide +kernel
theorem dX12_wonBy_44 : decode cX12_wonBy 44 = .ok (.getfield 46, 3) := by decide +kernel
theorem dX12_wonBy_47 : decode cX12_wonBy 47 = .ok (.iload_n 3, 1) := by decide +kernel
theorem dX12_wonBy_48 : decode cX12_wonBy 48 = .ok (.iaload, 1) := by decide +kernel
theorem dX12_wonBy_49 : decode cX12_wonBy 49 = .ok (.iconst 1, 1) := by decide +kernel
theorem dX12_wonBy_50 : decode cX12_wonBy 50 = .ok (.invokestatic 188, 3) := by decide +kernel
theorem dX12_wonBy_53 : decode cX12_wonBy 53 = .ok (.istore 4, 2) := by decide +kernel
theorem dX12_wonBy_55 : decode cX12_wonBy 55 = .ok (.iload_n 2, 1) := by decide +kernel
theorem dX12_wonBy_56 : decode cX12_wonBy 56 = .ok (.aload_n 0, 1) := by decide +kernel
theorem dX12_wonBy_57 : decode cX12_wonBy 57 = .ok (.getfield 7, 3) := by decide +kernel
theorem dX12_wonBy_60 : decode cX12_wonBy 60 = .ok (.aload_n 0, 1) := by decide +kernel
theorem dX12_wonBy_61 : decode cX12_wonBy 61 = .ok (.getfield 46, 3) := by decide +kernel
theorem dX12_wonBy_64 : decode cX12_wonBy 64 = .ok (.iload_n 3, 1) := by decide +kernel
theorem dX12_wonBy_65 : decode cX12_wonBy 65 = .ok (.iaload, 1) := by decide +kernel
theorem dX12_wonBy_66 : decode cX12_wonBy 66 = .ok (.iconst 0, 1) := by decide +kernel
theorem dX12_wonBy_67 : decode cX12_wonBy 67 = .ok (.invokestatic 188, 3) := by decide +kernel
theorem dX12_wonBy_70 : decode cX12_wonBy 70 = .ok (.aload_n 0, 1) := by decide +kernel
theorem dX12_wonBy_71 : decode cX12_wonBy 71 = .ok (.getfield 52, 3) := by decide +kernel
theorem dX12_wonBy_74 : decode cX12_wonBy 74 = .ok (.iload 4, 2) := by decide +kernel
theorem dX12_wonBy_76 : decode cX12_wonBy 76 = .ok (.iaload, 1) := by decide +kernel
theorem dX12_wonBy_77 : decode cX12_wonBy 77 = .ok (.aload_n 0, 1) := by decide +kernel
theorem dX12_wonBy_78 : decode cX12_wonBy 78 = .ok (.aload_n 0, 1) := by decide +kernel
theorem dX12_wonBy_79 : decode cX12_wonBy 79 = .ok (.getfield 46, 3) := by decide +kernel
theorem dX12_wonBy_82 : decode cX12_wonBy 82 = .ok (.iload_n 3, 1) := by decide +kernel
theorem dX12_wonBy_83 : decode cX12_wonBy 83 = .ok (.iaload, 1) := by decide +kernel
theorem dX12_wonBy_84 : decode cX12_wonBy 84 = .ok (.invokevirtual 197, 3) := by decide +kernel
theorem dX12_wonBy_87 : decode cX12_wonBy 87 = .ok (.iload_n 3, 1) := by decide +kernel
theorem dX12_wonBy_88 : decode cX12_wonBy 88 = .ok (.iadd, 1) := by decide +kernel
theorem dX12_wonBy_89 : decode cX12_wonBy 89 = .ok (.invokestatic 200, 3) := by decide +kernel
theorem dX12_wonBy_92 : decode cX12_wonBy 92 = .ok (.iadd, 1) := by decide +kernel
theorem dX12_wonBy_93 : decode cX12_wonBy 93 = .ok (.istore_n 2, 1) := by decide +kernel
theorem dX12_wonBy_94 : decode cX12_wonBy 94 = .ok (.aload_n 0, 1) := by decide +kernel
theorem dX12_wonBy_95 : decode cX12_wonBy 95 = .ok (.getfield 52, 3) := by decide +kernel
theorem dX12_wonBy_98 : decode cX12_wonBy 98 = .ok (.iload 4, 2) := by decide +kernel
theorem dX12_wonBy_100 : decode cX12_wonBy 100 = .ok (.iconst 0, 1) := by decide +kernel
theorem dX12_wonBy_101 : decode cX12_wonBy 101 = .ok (.iastore, 1) := by decide +kernel
theorem dX12_wonBy_102 : decode cX12_wonBy 102 = .ok (.iinc 3 1, 3) := by decide +kernel
theorem dX12_wonBy_105 : decode cX12_wonBy 105 = .ok (.goto (-71), 3) := by decide +kernel
theorem dX12_wonBy_108 : decode cX12_wonBy 108 = .ok (.iload_n 2, 1) := by decide +kernel
theorem dX12_wonBy_109 : decode cX12_wonBy 109 = .ok (.ireturn, 1) := by decide +kernel
theorem dX12_court_0 : decode cX12_court 0 = .ok (.iload_n 1, 1) := by decide +kernel
theorem dX12_court_1 : decode cX12_court 1 = .ok (.iconst (-1), 1) := by decide +kernel
theorem dX12_court_2 : decode cX12_court 2 = .ok (.if_icmp .ge 16, 3) := by decide +kernel
theorem dX12_court_5 : decode cX12_court 5 = .ok (.aload_n 0, 1) := by decide +kernel
theorem dX12_court_6 : decode cX12_court 6 = .ok (.getfield 27, 3) := by decide +kernel
theorem dX12_court_9 : decode cX12_court 9 = .ok (.iconst 0, 1) := by decide +kernel
theorem dX12_court_10 : decode cX12_court 10 = .ok (.dup2, 1) := by decide +kernel
theorem dX12_court_11 : decode cX12_court 11 = .ok (.iaload, 1) := by decide +kernel
theorem dX12_court_12 : decode cX12_court 12 = .ok (.iconst 1, 1) := by decide +kernel
theorem dX12_court_13 : decode cX12_court 13 = .ok (.iadd, 1) := by decide +kernel
theorem dX12_court_14 : decode cX12_court 14 = .ok (.iastore, 1) := by decide +kernel
theorem dX12_court_15 : decode cX12_court 15 = .ok (.bipush (-10), 2) := by decide +kernel
theorem dX12_court_17 : decode cX12_court 17 = .ok (.ireturn, 1) := by decide +kernel
theorem dX12_court_18 : decode cX12_court 18 = .ok (.iconst 0, 1) := by decide +kernel
theorem dX12_court_19 : decode cX12_court 19 = .ok (.istore_n 2, 1) := by decide +kernel
theorem dX12_court_20 : decode cX12_court 20 = .ok (.iconst 0, 1) := by decide +kernel
theorem dX12_court_21 : decode cX12_court 21 = .ok (.istore_n 3, 1) := by decide +kernel
theorem dX12_court_22 : decode cX12_court 22 = .ok (.iload_n 3, 1) := by decide +kernel
theorem dX12_court_23 : decode cX12_court 23 = .ok (.aload_n 0, 1) := by decide +kernel
theorem dX12_court_24 : decode cX12_court 24 = .ok (.getfield 7, 3) := by decide +kernel
theorem dX12_court_27 : decode cX12_court 27 = .ok (.bipush 45, 2) := by decide +kernel
theorem dX12_court_29 : decode cX12_court 29 = .ok (.iaload, 1) := by decide +kernel
theorem dX12_court_30 : decode cX12_court 30 = .ok (.if_icmp .ge 27, 3) := by decide +kernel
theorem dX12_court_33 : decode cX12_court 33 = .ok (.aload_n 0, 1) := by decide +kernel
theorem dX12_court_34 : decode cX12_court 34 = .ok (.iload_n 3, 1) := by decide +kernel
theorem dX12_court_35 : decode cX12_court 35 = .ok (.invokevirtual 191, 3) := by decide +kernel
theorem dX12_court_38 : decode cX12_court 38 = .ok (.ifCond .ne 13, 3) := by decide +kernel
theorem dX12_court_41 : decode cX12_court 41 = .ok (.aload_n 0, 1) := by decide +kernel
theorem dX12_court_42 : decode cX12_court 42 = .ok (.getfield 46, 3) := by decide +kernel
theorem dX12_court_45 : decode cX12_court 45 = .ok (.iload_n 2, 1) := by decide +kernel
theorem dX12_court_46 : decode cX12_court 46 = .ok (.iload_n 3, 1) := by decide +kernel
theorem dX12_court_47 : decode cX12_court 47 = .ok (.iastore, 1) := by decide +kernel
theorem dX12_court_48 : decode cX12_court 48 = .ok (.iinc 2 1, 3) := by decide +kernel
theorem dX12_court_51 : decode cX12_court 51 = .ok (.iinc 3 1, 3) := by decide +kernel
theorem dX12_court_54 : decode cX12_court 54 = .ok (.goto (-32), 3) := by decide +kernel
theorem dX12_court_57 : decode cX12_court 57 = .ok (.iconst (-1), 1) := by decide +kernel
theorem dX12_court_58 : decode cX12_court 58 = .ok (.istore_n 3, 1) := by decide +kernel
theorem dX12_court_59 : decode cX12_court 59 = .ok (.iconst 1, 1) := by decide +kernel
theorem dX12_court_60 : decode cX12_court 60 = .ok (.istore 4, 2) := by decide +kernel
theorem dX12_court_62 : decode cX12_court 62 = .ok (.iload 4, 2) := by decide +kernel
theorem dX12_court_64 : decode cX12_court 64 = .ok (.ifCond .eq 58, 3) := by decide +kernel
theorem dX12_court_67 : decode cX12_court 67 = .ok (.aload_n 0, 1) := by decide +kernel
theorem dX12_court_68 : decode cX12_court 68 = .ok (.iload_n 2, 1) := by decide +kernel
theorem dX12_court_69 : decode cX12_court 69 = .ok (.invokevirtual 228, 3) := by decide +kernel
theorem dX12_court_72 : decode cX12_court 72 = .ok (.istore 5, 2) := by decide +kernel
theorem dX12_court_74 : decode cX12_court 74 = .ok (.iload 5, 2) := by decide +kernel
theorem dX12_court_76 : decode cX12_court 76 = .ok (.iload_n 3, 1) := by decide +kernel
theorem dX12_court_77 : decode cX12_court 77 = .ok (.if_icmp .le 35, 3) := by decide +kernel
theorem dX12_court_80 : decode cX12_court 80 = .ok (.iload 5, 2) := by decide +kernel
theorem dX12_court_82 : decode cX12_court 82 = .ok (.istore_n 3, 1) := by decide +kernel
theorem dX12_court_83 : decode cX12_court 83 = .ok (.iconst 0, 1) := by decide +kernel
theorem dX12_court_84 : decode cX12_court 84 = .ok (.istore 6, 2) := by decide +kernel
theorem dX12_court_86 : decode cX12_court 86 = .ok (.iload 6, 2) := by decide +kernel
theorem dX12_court_88 : decode cX12_court 88 = .ok (.iload_n 2, 1) := by decide +kernel
theorem dX12_court_89 : decode cX12_court 89 = .ok (.if_icmp .ge 23, 3) := by decide +kernel
theorem dX12_court_92 : decode cX12_court 92 = .ok (.aload_n 0, 1) := by decide +kernel
theorem dX12_court_93 : decode cX12_court 93 = .ok (.getfield 49, 3) := by decide +kernel
theorem dX12_court_96 : decode cX12_court 96 = .ok (.iload 6, 2) := by decide +kernel
theorem dX12_court_98 : decode cX12_court 98 = .ok (.aload_n 0, 1) := by decide +kernel
theorem dX12_court_99 : decode cX12_court 99 = .ok (.getfield 46, 3) := by decide +kernel
theorem dX12_court_102 : decode cX12_court 102 = .ok (.iload 6, 2) := by decide +kernel
theorem dX12_court_104 : decode cX12_court 104 = .ok (.iaload, 1) := by decide +kernel
theorem dX12_court_105 : decode cX12_court 105 = .ok (.iastore, 1) := by decide +kernel
theorem dX12_court_106 : decode cX12_court 106 = .ok (.iinc 6 1, 3) := by decide +kernel
theorem dX12_court_109 : decode cX12_court 109 = .ok (.goto (-23), 3) := by decide +kernel
theorem dX12_court_112 : decode cX12_court 112 = .ok (.aload_n 0, 1) := by decide +kernel
theorem dX12_court_113 : decode cX12_court 113 = .ok (.iload_n 2, 1) := by decide +kernel
theorem dX12_court_114 : decode cX12_court 114 = .ok (.invokevirtual 231, 3) := by decide +kernel
theorem dX12_court_117 : decode cX12_court 117 = .ok (.istore 4, 2) := by decide +kernel
theorem dX12_court_119 : decode cX12_court 119 = .ok (.goto (-57), 3) := by decide +kernel
theorem dX12_court_122 : decode cX12_court 122 = .ok (.iload_n 1, 1) := by decide +kernel
theorem dX12_court_123 : decode cX12_court 123 = .ok (.iconst (-1), 1) := by decide +kernel
theorem dX12_court_124 : decode cX12_court 124 = .ok (.if_icmp .ne 7, 3) := by decide +kernel
theorem dX12_court_127 : decode cX12_court 127 = .ok (.iload_n 3, 1) := by decide +kernel
theorem dX12_court_128 : decode cX12_court 128 = .ok (.goto 19, 3) := by decide +kernel
theorem dX12_court_131 : decode cX12_court 131 = .ok (.iload_n 1, 1) := by decide +kernel
theorem dX12_court_132 : decode cX12_court 132 = .ok (.iload_n 2, 1) := by decide +kernel
theorem dX12_court_133 : decode cX12_court 133 = .ok (.if_icmp .ge 12, 3) := by decide +kernel
theorem dX12_court_136 : decode cX12_court 136 = .ok (.aload_n 0, 1) := by decide +kernel
theorem dX12_court_137 : decode cX12_court 137 = .ok (.getfield 49, 3) := by decide +kernel
theorem dX12_court_140 : decode cX12_court 140 = .ok (.iload_n 1, 1) := by decide +kernel
theorem dX12_court_141 : decode cX12_court 141 = .ok (.iaload, 1) := by decide +kernel
theorem dX12_court_142 : decode cX12_court 142 = .ok (.goto 5, 3) := by decide +kernel
theorem dX12_court_145 : decode cX12_court 145 = .ok (.bipush (-5), 2) := by decide +kernel
theorem dX12_court_147 : decode cX12_court 147 = .ok (.ireturn, 1) := by decide +kernel
theorem dX12_settle_0 : decode cX12_settle 0 = .ok (.iconst 0, 1) := by decide +kernel
theorem dX12_settle_1 : decode cX12_settle 1 = .ok (.istore_n 1, 1) := by decide +kernel
theorem dX12_settle_2 : decode cX12_settle 2 = .ok (.iconst 0, 1) := by decide +kernel
theorem dX12_settle_3 : decode cX12_settle 3 = .ok (.istore_n 2, 1) := by decide +kernel
theorem dX12_settle_4 : decode cX12_settle 4 = .ok (.iload_n 2, 1) := by decide +kernel
theorem dX12_settle_5 : decode cX12_settle 5 = .ok (.aload_n 0, 1) := by decide +kernel
theorem dX12_settle_6 : decode cX12_settle 6 = .ok (.getfield 7, 3) := by decide +kernel
theorem dX12_settle_9 : decode cX12_settle 9 = .ok (.bipush 45, 2) := by decide +kernel
theorem dX12_settle_11 : decode cX12_settle 11 = .ok (.iaload, 1) := by decide +kernel
theorem dX12_settle_12 : decode cX12_settle 12 = .ok (.if_icmp .ge 37, 3) := by decide +kernel
theorem dX12_settle_15 : decode cX12_settle 15 = .ok (.iload_n 1, 1) := by decide +kernel
theorem dX12_settle_16 : decode cX12_settle 16 = .ok (.aload_n 0, 1) := by decide +kernel
theorem dX12_settle_17 : decode cX12_settle 17 = .ok (.iload_n 2, 1) := by decide +kernel
theorem dX12_settle_18 : decode cX12_settle 18 = .ok (.invokevirtual 191, 3) := by decide +kernel
theorem dX12_settle_21 : decode cX12_settle 21 = .ok (.ifCond .ne 19, 3) := by decide +kernel
theorem dX12_settle_24 : decode cX12_settle 24 = .ok (.aload_n 0, 1) := by decide +kernel
theorem dX12_settle_25 : decode cX12_settle 25 = .ok (.iload_n 2, 1) := by decide +kernel
theorem dX12_settle_26 : decode cX12_settle 26 = .ok (.invokevirtual 206, 3) := by decide +kernel
theorem dX12_settle_29 : decode cX12_settle 29 = .ok (.bipush 10, 2) := by decide +kernel
theorem dX12_settle_31 : decode cX12_settle 31 = .ok (.if_icmp .lt 9, 3) := by decide +kernel
theorem dX12_settle_34 : decode cX12_settle 34 = .ok (.iconst 1, 1) := by decide +kernel
theorem dX12_settle_35 : decode cX12_settle 35 = .ok (.iload_n 2, 1) := by decide +kernel
theorem dX12_settle_36 : decode cX12_settle 36 = .ok (.ishl, 1) := by decide +kernel
theorem dX12_settle_37 : decode cX12_settle 37 = .ok (.goto 4, 3) := by decide +kernel
theorem dX12_settle_40 : decode cX12_settle 40 = .ok (.iconst 0, 1) := by decide +kernel
theorem dX12_settle_41 : decode cX12_settle 41 = .ok (.ior, 1) := by decide +kernel
theorem dX12_settle_42 : decode cX12_settle 42 = .ok (.istore_n 1, 1) := by decide +kernel
theorem dX12_settle_43 : decode cX12_settle 43 = .ok (.iinc 2 1, 3) := by decide +kernel
theorem dX12_settle_46 : decode cX12_settle 46 = .ok (.goto (-42), 3) := by decide +kernel
theorem dX12_settle_49 : decode cX12_settle 49 = .ok (.iload_n 1, 1) := by decide +kernel
theorem dX12_settle_50 : decode cX12_settle 50 = .ok (.ireturn, 1) := by decide +kernel
theorem dX12_reading_0 : decode cX12_reading 0 = .ok (.iload_n 1, 1) := by decide +kernel
theorem dX12_reading_1 : decode cX12_reading 1 = .ok (.i2l, 1) := by decide +kernel
theorem dX12_reading_2 : decode cX12_reading 2 = .ok (.lconst 0, 1) := by decide +kernel
theorem dX12_reading_3 : decode cX12_reading 3 = .ok (.ldc2_w 97, 3) := by decide +kernel
theorem dX12_reading_6 : decode cX12_reading 6 = .ok (.invokestatic 55, 3) := by decide +kernel
theorem dX12_reading_9 : decode cX12_reading 9 = .ok (.ifCond .eq 27, 3) := by decide +kernel
theorem dX12_reading_12 : decode cX12_reading 12 = .ok (.iload_n 2, 1) := by decide +kernel
theorem dX12_reading_13 : decode cX12_reading 13 = .ok (.i2l, 1) := by decide +kernel
theorem dX12_reading_14 : decode cX12_reading 14 = .ok (.lconst 0, 1) := by decide +kernel
theorem dX12_reading_15 : decode cX12_reading 15 = .ok (.ldc2_w 107, 3) := by decide +kernel
theorem dX12_reading_18 : decode cX12_reading 18 = .ok (.invokestatic 55, 3) := by decide +kernel
theorem dX12_reading_21 : decode cX12_reading 21 = .ok (.ifCond .eq 15, 3) := by decide +kernel
theorem dX12_reading_24 : decode cX12_reading 24 = .ok (.iload_n 3, 1) := by decide +kernel
theorem dX12_reading_25 : decode cX12_reading 25 = .ok (.i2l, 1) := by decide +kernel
theorem dX12_reading_26 : decode cX12_reading 26 = .ok (.lconst 0, 1) := by decide +kernel
theorem dX12_reading_27 : decode cX12_reading 27 = .ok (.ldc2_w 99, 3) := by decide +kernel
theorem dX12_reading_30 : decode cX12_reading 30 = .ok (.invokestatic 55, 3) := by decide +kernel
theorem dX12_reading_33 : decode cX12_reading 33 = .ok (.ifCond .ne 8, 3) := by decide +kernel
theorem dX12_reading_36 : decode cX12_reading 36 = .ok (.aload_n 0, 1) := by decide +kernel
theorem dX12_reading_37 : decode cX12_reading 37 = .ok (.invokevirtual 101, 3) := by decide +kernel
theorem dX12_reading_40 : decode cX12_reading 40 = .ok (.ireturn, 1) := by decide +kernel
theorem dX12_reading_41 : decode cX12_reading 41 = .ok (.aload_n 0, 1) := by decide +kernel
theorem dX12_reading_42 : decode cX12_reading 42 = .ok (.getfield 7, 3) := by decide +kernel
theorem dX12_reading_45 : decode cX12_reading 45 = .ok (.bipush 68, 2) := by decide +kernel
theorem dX12_reading_47 : decode cX12_reading 47 = .ok (.iaload, 1) := by decide +kernel
theorem dX12_reading_48 : decode cX12_reading 48 = .ok (.iconst 4, 1) := by decide +kernel
theorem dX12_reading_49 : decode cX12_reading 49 = .ok (.if_icmp .ne 8, 3) := by decide +kernel
theorem dX12_reading_52 : decode cX12_reading 52 = .ok (.aload_n 0, 1) := by decide +kernel
theorem dX12_reading_53 : decode cX12_reading 53 = .ok (.invokevirtual 111, 3) := by decide +kernel
theorem dX12_reading_56 : decode cX12_reading 56 = .ok (.ireturn, 1) := by decide +kernel
theorem dX12_reading_57 : decode cX12_reading 57 = .ok (.bipush 69, 2) := by decide +kernel
theorem dX12_reading_59 : decode cX12_reading 59 = .ok (.iconst 3, 1) := by decide +kernel
theorem dX12_reading_60 : decode cX12_reading 60 = .ok (.aload_n 0, 1) := by decide +kernel
theorem dX12_reading_61 : decode cX12_reading 61 = .ok (.getfield 7, 3) := by decide +kernel
theorem dX12_reading_64 : decode cX12_reading 64 = .ok (.bipush 68, 2) := by decide +kernel
theorem dX12_reading_66 : decode cX12_reading 66 = .ok (.iaload, 1) := by decide +kernel
theorem dX12_reading_67 : decode cX12_reading 67 = .ok (.imul, 1) := by decide +kernel
theorem dX12_reading_68 : decode cX12_reading 68 = .ok (.iadd, 1) := by decide +kernel
theorem dX12_reading_69 : decode cX12_reading 69 = .ok (.istore 4, 2) := by decide +kernel
theorem dX12_reading_71 : decode cX12_reading 71 = .ok (.aload_n 0, 1) := by decide +kernel
theorem dX12_reading_72 : decode cX12_reading 72 = .ok (.getfield 7, 3) := by decide +kernel
theorem dX12_reading_75 : decode cX12_reading 75 = .ok (.iload 4, 2) := by decide +kernel
theorem dX12_reading_77 : decode cX12_reading 77 = .ok (.iload_n 1, 1) := by decide +kernel
theorem dX12_reading_78 : decode cX12_reading 78 = .ok (.iastore, 1) := by decide +kernel
theorem dX12_reading_79 : decode cX12_reading 79 = .ok (.aload_n 0, 1) := by decide +kernel
theorem dX12_reading_80 : decode cX12_reading 80 = .ok (.getfield 7, 3) := by decide +kernel
theorem dX12_reading_83 : decode cX12_reading 83 = .ok (.iload 4, 2) := by decide +kernel
theorem dX12_reading_85 : decode cX12_reading 85 = .ok (.iconst 1, 1) := by decide +kernel
theorem dX12_reading_86 : decode cX12_reading 86 = .ok (.iadd, 1) := by decide +kernel
theorem dX12_reading_87 : decode cX12_reading 87 = .ok (.iload_n 2, 1) := by decide +kernel
theorem dX12_reading_88 : decode cX12_reading 88 = .ok (.iastore, 1) := by decide +kernel
theorem dX12_reading_89 : decode cX12_reading 89 = .ok (.aload_n 0, 1) := by decide +kernel
theorem dX12_reading_90 : decode cX12_reading 90 = .ok (.getfield 7, 3) := by decide +kernel
theorem dX12_reading_93 : decode cX12_reading 93 = .ok (.iload 4, 2) := by decide +kernel
theorem dX12_reading_95 : decode cX12_reading 95 = .ok (.iconst 2, 1) := by decide +kernel
theorem dX12_reading_96 : decode cX12_reading 96 = .ok (.iadd, 1) := by decide +kernel
theorem dX12_reading_97 : decode cX12_reading 97 = .ok (.iload_n 3, 1) := by decide +kernel
theorem dX12_reading_98 : decode cX12_reading 98 = .ok (.iastore, 1) := by decide +kernel
theorem dX12_reading_99 : decode cX12_reading 99 = .ok (.aload_n 0, 1) := by decide +kernel
theorem dX12_reading_100 : decode cX12_reading 100 = .ok (.getfield 7, 3) := by decide +kernel
theorem dX12_reading_103 : decode cX12_reading 103 = .ok (.bipush 68, 2) := by decide +kernel
theorem dX12_reading_105 : decode cX12_reading 105 = .ok (.dup2, 1) := by decide +kernel
theorem dX12_reading_106 : decode cX12_reading 106 = .ok (.iaload, 1) := by decide +kernel
theorem dX12_reading_107 : decode cX12_reading 107 = .ok (.iconst 1, 1) := by decide +kernel
theorem dX12_reading_108 : decode cX12_reading 108 = .ok (.iadd, 1) := by decide +kernel
theorem dX12_reading_109 : decode cX12_reading 109 = .ok (.iastore, 1) := by decide +kernel
theorem dX12_reading_110 : decode cX12_reading 110 = .ok (.aload_n 0, 1) := by decide +kernel
theorem dX12_reading_111 : decode cX12_reading 111 = .ok (.getfield 7, 3) := by decide +kernel
theorem dX12_reading_114 : decode cX12_reading 114 = .ok (.bipush 68, 2) := by decide +kernel
theorem dX12_reading_116 : decode cX12_reading 116 = .ok (.iaload, 1) := by decide +kernel
theorem dX12_reading_117 : decode cX12_reading 117 = .ok (.ireturn, 1) := by decide +kernel
theorem dX12_isSo_0 : decode cX12_isSo 0 = .ok (.iconst 1, 1) := by decide +kernel
theorem dX12_isSo_1 : decode cX12_isSo 1 = .ok (.istore_n 2, 1) := by decide +kernel
theorem dX12_isSo_2 : decode cX12_isSo 2 = .ok (.iconst 0, 1) := by decide +kernel
theorem dX12_isSo_3 : decode cX12_isSo 3 = .ok (.istore_n 3, 1) := by decide +kernel
theorem dX12_isSo_4 : decode cX12_isSo 4 = .ok (.iload_n 3, 1) := by decide +kernel
theorem dX12_isSo_5 : decode cX12_isSo 5 = .ok (.aload_n 0, 1) := by decide +kernel
theorem dX12_isSo_6 : decode cX12_isSo 6 = .ok (.getfield 7, 3) := by decide +kernel
theorem dX12_isSo_9 : decode cX12_isSo 9 = .ok (.bipush 68, 2) := by decide +kernel
theorem dX12_isSo_11 : decode cX12_isSo 11 = .ok (.iaload, 1) := by decide +kernel
theorem dX12_isSo_12 : decode cX12_isSo 12 = .ok (.if_icmp .ge 69, 3) := by decide +kernel
theorem dX12_isSo_15 : decode cX12_isSo 15 = .ok (.bipush 69, 2) := by decide +kernel
theorem dX12_isSo_17 : decode cX12_isSo 17 = .ok (.iconst 3, 1) := by decide +kernel
theorem dX12_isSo_18 : decode cX12_isSo 18 = .ok (.iload_n 3, 1) := by decide +kernel
theorem dX12_isSo_19 : decode cX12_isSo 19 = .ok (.imul, 1) := by decide +kernel
theorem dX12_isSo_20 : decode cX12_isSo 20 = .ok (.iadd, 1) := by decide +kernel
theorem dX12_isSo_21 : decode cX12_isSo 21 = .ok (.istore 4, 2) := by decide +kernel
theorem dX12_isSo_23 : decode cX12_isSo 23 = .ok (.aload_n 0, 1) := by decide +kernel
theorem dX12_isSo_24 : decode cX12_isSo 24 = .ok (.aload_n 0, 1) := by decide +kernel
theorem dX12_isSo_25 : decode cX12_isSo 25 = .ok (.getfield 7, 3) := by decide +kernel
theorem dX12_isSo_28 : decode cX12_isSo 28 = .ok (.aload_n 0, 1) := by decide +kernel
theorem dX12_isSo_29 : decode cX12_isSo 29 = .ok (.getfield 7, 3) := by decide +kernel
theorem dX12_isSo_32 : decode cX12_isSo 32 = .ok (.iload 4, 2) := by decide +kernel
theorem dX12_isSo_34 : decode cX12_isSo 34 = .ok (.iaload, 1) := by decide +kernel
theorem dX12_isSo_35 : decode cX12_isSo 35 = .ok (.iload_n 1, 1) := by decide +kernel
theorem dX12_isSo_36 : decode cX12_isSo 36 = .ok (.invokevirtual 78, 3) := by decide +kernel
theorem dX12_isSo_39 : decode cX12_isSo 39 = .ok (.iload_n 2, 1) := by decide +kernel
theorem dX12_isSo_40 : decode cX12_isSo 40 = .ok (.ifCond .eq 33, 3) := by decide +kernel
theorem dX12_isSo_43 : decode cX12_isSo 43 = .ok (.aload_n 0, 1) := by decide +kernel
theorem dX12_isSo_44 : decode cX12_isSo 44 = .ok (.getfield 36, 3) := by decide +kernel
theorem dX12_isSo_47 : decode cX12_isSo 47 = .ok (.aload_n 0, 1) := by decide +kernel
theorem dX12_isSo_48 : decode cX12_isSo 48 = .ok (.getfield 7, 3) := by decide +kernel
theorem dX12_isSo_51 : decode cX12_isSo 51 = .ok (.iload 4, 2) := by decide +kernel
theorem dX12_isSo_53 : decode cX12_isSo 53 = .ok (.iconst 1, 1) := by decide +kernel
theorem dX12_isSo_54 : decode cX12_isSo 54 = .ok (.iadd, 1) := by decide +kernel
theorem dX12_isSo_55 : decode cX12_isSo 55 = .ok (.iaload, 1) := by decide +kernel
theorem dX12_isSo_56 : decode cX12_isSo 56 = .ok (.iaload, 1) := by decide +kernel
theorem dX12_isSo_57 : decode cX12_isSo 57 = .ok (.aload_n 0, 1) := by decide +kernel
theorem dX12_isSo_58 : decode cX12_isSo 58 = .ok (.getfield 7, 3) := by decide +kernel
theorem dX12_isSo_61 : decode cX12_isSo 61 = .ok (.iload 4, 2) := by decide +kernel
theorem dX12_isSo_63 : decode cX12_isSo 63 = .ok (.iconst 2, 1) := by decide +kernel
theorem dX12_isSo_64 : decode cX12_isSo 64 = .ok (.iadd, 1) := by decide +kernel
theorem dX12_isSo_65 : decode cX12_isSo 65 = .ok (.iaload, 1) := by decide +kernel
theorem dX12_isSo_66 : decode cX12_isSo 66 = .ok (.if_icmp .ne 7, 3) := by decide +kernel
theorem dX12_isSo_69 : decode cX12_isSo 69 = .ok (.iconst 1, 1) := by decide +kernel
theorem dX12_isSo_70 : decode cX12_isSo 70 = .ok (.goto 4, 3) := by decide +kernel
theorem dX12_isSo_73 : decode cX12_isSo 73 = .ok (.iconst 0, 1) := by decide +kernel
theorem dX12_isSo_74 : decode cX12_isSo 74 = .ok (.istore_n 2, 1) := by decide +kernel
theorem dX12_isSo_75 : decode cX12_isSo 75 = .ok (.iinc 3 1, 3) := by decide +kernel
theorem dX12_isSo_78 : decode cX12_isSo 78 = .ok (.goto (-74), 3) := by decide +kernel
theorem dX12_isSo_81 : decode cX12_isSo 81 = .ok (.iload_n 2, 1) := by decide +kernel
theorem dX12_isSo_82 : decode cX12_isSo 82 = .ok (.ireturn, 1) := by decide +kernel
theorem dX12_stood_0 : decode cX12_stood 0 = .ok (.iload_n 1, 1) := by decide +kernel
theorem dX12_stood_1 : decode cX12_stood 1 = .ok (.i2l, 1) := by decide +kernel
theorem dX12_stood_2 : decode cX12_stood 2 = .ok (.lconst 0, 1) := by decide +kernel
theorem dX12_stood_3 : decode cX12_stood 3 = .ok (.ldc2_w 234, 3) := by decide +kernel
theorem dX12_stood_6 : decode cX12_stood 6 = .ok (.invokestatic 55, 3) := by decide +kernel
theorem dX12_stood_9 : decode cX12_stood 9 = .ok (.ifCond .ne 8, 3) := by decide +kernel
theorem dX12_stood_12 : decode cX12_stood 12 = .ok (.aload_n 0, 1) := by decide +kernel
theorem dX12_stood_13 : decode cX12_stood 13 = .ok (.invokevirtual 101, 3) := by decide +kernel
theorem dX12_stood_16 : decode cX12_stood 16 = .ok (.ireturn, 1) := by decide +kernel
theorem dX12_stood_17 : decode cX12_stood 17 = .ok (.iconst 0, 1) := by decide +kernel
theorem dX12_stood_18 : decode cX12_stood 18 = .ok (.istore_n 2, 1) := by decide +kernel
theorem dX12_stood_19 : decode cX12_stood 19 = .ok (.aload_n 0, 1) := by decide +kernel
theorem dX12_stood_20 : decode cX12_stood 20 = .ok (.getfield 7, 3) := by decide +kernel
theorem dX12_stood_23 : decode cX12_stood 23 = .ok (.invokestatic 82, 3) := by decide +kernel
theorem dX12_stood_26 : decode cX12_stood 26 = .ok (.istore_n 3, 1) := by decide +kernel
theorem dX12_stood_27 : decode cX12_stood 27 = .ok (.iconst 0, 1) := by decide +kernel
theorem dX12_stood_28 : decode cX12_stood 28 = .ok (.istore 4, 2) := by decide +kernel
theorem dX12_stood_30 : decode cX12_stood 30 = .ok (.iconst 0, 1) := by decide +kernel
theorem dX12_stood_31 : decode cX12_stood 31 = .ok (.istore 5, 2) := by decide +kernel
theorem dX12_stood_33 : decode cX12_stood 33 = .ok (.iload 5, 2) := by decide +kernel
theorem dX12_stood_35 : decode cX12_stood 35 = .ok (.aload_n 0, 1) := by decide +kernel
theorem dX12_stood_36 : decode cX12_stood 36 = .ok (.getfield 7, 3) := by decide +kernel
theorem dX12_stood_39 : decode cX12_stood 39 = .ok (.invokestatic 82, 3) := by decide +kernel
theorem dX12_stood_42 : decode cX12_stood 42 = .ok (.if_icmp .gt 33, 3) := by decide +kernel
theorem dX12_stood_45 : decode cX12_stood 45 = .ok (.aload_n 0, 1) := by decide +kernel
theorem dX12_stood_46 : decode cX12_stood 46 = .ok (.iload 5, 2) := by decide +kernel
theorem dX12_stood_48 : decode cX12_stood 48 = .ok (.invokevirtual 236, 3) := by decide +kernel
theorem dX12_stood_51 : decode cX12_stood 51 = .ok (.ifCond .eq 18, 3) := by decide +kernel
theorem dX12_stood_54 : decode cX12_stood 54 = .ok (.iinc 2 1, 3) := by decide +kernel
theorem dX12_stood_57 : decode cX12_stood 57 = .ok (.iload_n 3, 1) := by decide +kernel
theorem dX12_stood_58 : decode cX12_stood 58 = .ok (.iload 5, 2) := by decide +kernel
theorem dX12_stood_60 : decode cX12_stood 60 = .ok (.iand, 1) := by decide +kernel
theorem dX12_stood_61 : decode cX12_stood 61 = .ok (.istore_n 3, 1) := by decide +kernel
theorem dX12_stood_62 : decode cX12_stood 62 = .ok (.iload 4, 2) := by decide +kernel
theorem dX12_stood_64 : decode cX12_stood 64 = .ok (.iload 5, 2) := by decide +kernel
theorem dX12_stood_66 : decode cX12_stood 66 = .ok (.ior, 1) := by decide +kernel
theorem dX12_stood_67 : decode cX12_stood 67 = .ok (.istore 4, 2) := by decide +kernel
theorem dX12_stood_69 : decode cX12_stood 69 = .ok (.iinc 5 1, 3) := by decide +kernel
theorem dX12_stood_72 : decode cX12_stood 72 = .ok (.goto (-39), 3) := by decide +kernel
theorem dX12_stood_75 : decode cX12_stood 75 = .ok (.iload_n 1, 1) := by decide +kernel
theorem dX12_stood_76 : decode cX12_stood 76 = .ok (.ifCond .ne 7, 3) := by decide +kernel
theorem dX12_stood_79 : decode cX12_stood 79 = .ok (.iload_n 2, 1) := by decide +kernel
theorem dX12_stood_80 : decode cX12_stood 80 = .ok (.goto 22, 3) := by decide +kernel
theorem dX12_stood_83 : decode cX12_stood 83 = .ok (.iload_n 1, 1) := by decide +kernel
theorem dX12_stood_84 : decode cX12_stood 84 = .ok (.iconst 2, 1) := by decide +kernel
theorem dX12_stood_85 : decode cX12_stood 85 = .ok (.if_icmp .ne 8, 3) := by decide +kernel
theorem dX12_stood_88 : decode cX12_stood 88 = .ok (.iload 4, 2) := by decide +kernel
theorem dX12_stood_90 : decode cX12_stood 90 = .ok (.goto 12, 3) := by decide +kernel
theorem dX12_stood_93 : decode cX12_stood 93 = .ok (.iload_n 2, 1) := by decide +kernel
theorem dX12_stood_94 : decode cX12_stood 94 = .ok (.ifCond .ne 7, 3) := by decide +kernel
theorem dX12_stood_97 : decode cX12_stood 97 = .ok (.iconst (-1), 1) := by decide +kernel
theorem dX12_stood_98 : decode cX12_stood 98 = .ok (.goto 4, 3) := by decide +kernel
theorem dX12_stood_101 : decode cX12_stood 101 = .ok (.iload_n 3, 1) := by decide +kernel
theorem dX12_stood_102 : decode cX12_stood 102 = .ok (.ireturn, 1) := by decide +kernel
theorem dX12_note_0 : decode cX12_note 0 = .ok (.aload_n 0, 1) := by decide +kernel
theorem dX12_note_1 : decode cX12_note 1 = .ok (.iload_n 1, 1) := by decide +kernel
theorem dX12_note_2 : decode cX12_note 2 = .ok (.invokevirtual 185, 3) := by decide +kernel
theorem dX12_note_5 : decode cX12_note 5 = .ok (.ifCond .eq 53, 3) := by decide +kernel
theorem dX12_note_8 : decode cX12_note 8 = .ok (.iload_n 2, 1) := by decide +kernel
theorem dX12_note_9 : decode cX12_note 9 = .ok (.i2l, 1) := by decide +kernel
theorem dX12_note_10 : decode cX12_note 10 = .ok (.lconst 1, 1) := by decide +kernel
theorem dX12_note_11 : decode cX12_note 11 = .ok (.ldc2_w 109, 3) := by decide +kernel
theorem dX12_note_14 : decode cX12_note 14 = .ok (.invokestatic 55, 3) := by decide +kernel
theorem dX12_note_17 : decode cX12_note 17 = .ok (.ifCond .eq 41, 3) := by decide +kernel
theorem dX12_note_20 : decode cX12_note 20 = .ok (.iload_n 3, 1) := by decide +kernel
theorem dX12_note_21 : decode cX12_note 21 = .ok (.i2l, 1) := by decide +kernel
theorem dX12_note_22 : decode cX12_note 22 = .ok (.lconst 0, 1) := by decide +kernel
theorem dX12_note_23 : decode cX12_note 23 = .ok (.ldc2_w 99, 3) := by decide +kernel
theorem dX12_note_26 : decode cX12_note 26 = .ok (.invokestatic 55, 3) := by decide +kernel
theorem dX12_note_29 : decode cX12_note 29 = .ok (.ifCond .eq 29, 3) := by decide +kernel
theorem dX12_note_32 : decode cX12_note 32 = .ok (.iload 4, 2) := by decide +kernel
theorem dX12_note_34 : decode cX12_note 34 = .ok (.i2l, 1) := by decide +kernel
theorem dX12_note_35 : decode cX12_note 35 = .ok (.lconst 0, 1) := by decide +kernel
theorem dX12_note_36 : decode cX12_note 36 = .ok (.ldc2_w 99, 3) := by decide +kernel
theorem dX12_note_39 : decode cX12_note 39 = .ok (.invokestatic 55, 3) := by decide +kernel
theorem dX12_note_42 : decode cX12_note 42 = .ok (.ifCond .eq 16, 3) := by decide +kernel
theorem dX12_note_45 : decode cX12_note 45 = .ok (.iload 5, 2) := by decide +kernel
theorem dX12_note_47 : decode cX12_note 47 = .ok (.i2l, 1) := by decide +kernel
theorem dX12_note_48 : decode cX12_note 48 = .ok (.lconst 0, 1) := by decide +kernel
theorem dX12_note_49 : decode cX12_note 49 = .ok (.ldc2_w 239, 3) := by decide +kernel
theorem dX12_note_52 : decode cX12_note 52 = .ok (.invokestatic 55, 3) := by decide +kernel
theorem dX12_note_55 : decode cX12_note 55 = .ok (.ifCond .ne 8, 3) := by decide +kernel
theorem dX12_note_58 : decode cX12_note 58 = .ok (.aload_n 0, 1) := by decide +kernel
theorem dX12_note_59 : decode cX12_note 59 = .ok (.invokevirtual 101, 3) := by decide +kernel
theorem dX12_note_62 : decode cX12_note 62 = .ok (.ireturn, 1) := by decide +kernel
theorem dX12_note_63 : decode cX12_note 63 = .ok (.aload_n 0, 1) := by decide +kernel
theorem dX12_note_64 : decode cX12_note 64 = .ok (.getfield 7, 3) := by decide +kernel
theorem dX12_note_67 : decode cX12_note 67 = .ok (.bipush 81, 2) := by decide +kernel
theorem dX12_note_69 : decode cX12_note 69 = .ok (.iaload, 1) := by decide +kernel
theorem dX12_note_70 : decode cX12_note 70 = .ok (.bipush 6, 2) := by decide +kernel
theorem dX12_note_72 : decode cX12_note 72 = .ok (.if_icmp .ne 8, 3) := by decide +kernel
theorem dX12_note_75 : decode cX12_note 75 = .ok (.aload_n 0, 1) := by decide +kernel
theorem dX12_note_76 : decode cX12_note 76 = .ok (.invokevirtual 111, 3) := by decide +kernel
theorem dX12_note_79 : decode cX12_note 79 = .ok (.ireturn, 1) := by decide +kernel
theorem dX12_note_80 : decode cX12_note 80 = .ok (.bipush 82, 2) := by decide +kernel
theorem dX12_note_82 : decode cX12_note 82 = .ok (.iconst 5, 1) := by decide +kernel
theorem dX12_note_83 : decode cX12_note 83 = .ok (.aload_n 0, 1) := by decide +kernel
theorem dX12_note_84 : decode cX12_note 84 = .ok (.getfield 7, 3) := by decide +kernel
theorem dX12_note_87 : decode cX12_note 87 = .ok (.bipush 81, 2) := by decide +kernel
theorem dX12_note_89 : decode cX12_note 89 = .ok (.iaload, 1) := by decide +kernel
theorem dX12_note_90 : decode cX12_note 90 = .ok (.imul, 1) := by decide +kernel
theorem dX12_note_91 : decode cX12_note 91 = .ok (.iadd, 1) := by decide +kernel
theorem dX12_note_92 : decode cX12_note 92 = .ok (.istore 6, 2) := by decide +kernel
theorem dX12_note_94 : decode cX12_note 94 = .ok (.aload_n 0, 1) := by decide +kernel
theorem dX12_note_95 : decode cX12_note 95 = .ok (.getfield 7, 3) := by decide +kernel
theorem dX12_note_98 : decode cX12_note 98 = .ok (.iload 6, 2) := by decide +kernel
theorem dX12_note_100 : decode cX12_note 100 = .ok (.iload_n 1, 1) := by decide +kernel
theorem dX12_note_101 : decode cX12_note 101 = .ok (.iastore, 1) := by decide +kernel
theorem dX12_note_102 : decode cX12_note 102 = .ok (.aload_n 0, 1) := by decide +kernel
theorem dX12_note_103 : decode cX12_note 103 = .ok (.getfield 7, 3) := by decide +kernel
theorem dX12_note_106 : decode cX12_note 106 = .ok (.iload 6, 2) := by decide +kernel
theorem dX12_note_108 : decode cX12_note 108 = .ok (.iconst 1, 1) := by decide +kernel
theorem dX12_note_109 : decode cX12_note 109 = .ok (.iadd, 1) := by decide +kernel
theorem dX12_note_110 : decode cX12_note 110 = .ok (.iload_n 2, 1) := by decide +kernel
theorem dX12_note_111 : decode cX12_note 111 = .ok (.iastore, 1) := by decide +kernel
theorem dX12_note_112 : decode cX12_note 112 = .ok (.aload_n 0, 1) := by decide +kernel
theorem dX12_note_113 : decode cX12_note 113 = .ok (.getfield 7, 3) := by decide +kernel
theorem dX12_note_116 : decode cX12_note 116 = .ok (.iload 6, 2) := by decide +kernel
theorem dX12_note_118 : decode cX12_note 118 = .ok (.iconst 2, 1) := by decide +kernel
theorem dX12_note_119 : decode cX12_note 119 = .ok (.iadd, 1) := by decide +kernel
theorem dX12_note_120 : decode cX12_note 120 = .ok (.iload_n 3, 1) := by decide +kernel
theorem dX12_note_121 : decode cX12_note 121 = .ok (.iastore, 1) := by decide +kernel
theorem dX12_note_122 : decode cX12_note 122 = .ok (.aload_n 0, 1) := by decide +kernel
theorem dX12_note_123 : decode cX12_note 123 = .ok (.getfield 7, 3) := by decide +kernel
theorem dX12_note_126 : decode cX12_note 126 = .ok (.iload 6, 2) := by decide +kernel
theorem dX12_note_128 : decode cX12_note 128 = .ok (.iconst 3, 1) := by decide +kernel
theorem dX12_note_129 : decode cX12_note 129 = .ok (.iadd, 1) := by decide +kernel
theorem dX12_note_130 : decode cX12_note 130 = .ok (.iload 4, 2) := by decide +kernel
theorem dX12_note_132 : decode cX12_note 132 = .ok (.iastore, 1) := by decide +kernel
theorem dX12_note_133 : decode cX12_note 133 = .ok (.aload_n 0, 1) := by decide +kernel
theorem dX12_note_134 : decode cX12_note 134 = .ok (.getfield 7, 3) := by decide +kernel
theorem dX12_note_137 : decode cX12_note 137 = .ok (.iload 6, 2) := by decide +kernel
theorem dX12_note_139 : decode cX12_note 139 = .ok (.iconst 4, 1) := by decide +kernel
theorem dX12_note_140 : decode cX12_note 140 = .ok (.iadd, 1) := by decide +kernel
theorem dX12_note_141 : decode cX12_note 141 = .ok (.iload 5, 2) := by decide +kernel
theorem dX12_note_143 : decode cX12_note 143 = .ok (.iastore, 1) := by decide +kernel
theorem dX12_note_144 : decode cX12_note 144 = .ok (.aload_n 0, 1) := by decide +kernel
theorem dX12_note_145 : decode cX12_note 145 = .ok (.getfield 7, 3) := by decide +kernel
theorem dX12_note_148 : decode cX12_note 148 = .ok (.bipush 81, 2) := by decide +kernel
theorem dX12_note_150 : decode cX12_note 150 = .ok (.dup2, 1) := by decide +kernel
theorem dX12_note_151 : decode cX12_note 151 = .ok (.iaload, 1) := by decide +kernel
theorem dX12_note_152 : decode cX12_note 152 = .ok (.iconst 1, 1) := by decide +kernel
theorem dX12_note_153 : decode cX12_note 153 = .ok (.iadd, 1) := by decide +kernel
theorem dX12_note_154 : decode cX12_note 154 = .ok (.iastore, 1) := by decide +kernel
theorem dX12_note_155 : decode cX12_note 155 = .ok (.aload_n 0, 1) := by decide +kernel
theorem dX12_note_156 : decode cX12_note 156 = .ok (.getfield 7, 3) := by decide +kernel
theorem dX12_note_159 : decode cX12_note 159 = .ok (.bipush 81, 2) := by decide +kernel
theorem dX12_note_161 : decode cX12_note 161 = .ok (.iaload, 1) := by decide +kernel
theorem dX12_note_162 : decode cX12_note 162 = .ok (.ireturn, 1) := by decide +kernel
theorem dX12_mark_0 : decode cX12_mark 0 = .ok (.aload_n 0, 1) := by decide +kernel
theorem dX12_mark_1 : decode cX12_mark 1 = .ok (.iload_n 1, 1) := by decide +kernel
theorem dX12_mark_2 : decode cX12_mark 2 = .ok (.invokevirtual 203, 3) := by decide +kernel
theorem dX12_mark_5 : decode cX12_mark 5 = .ok (.ifCond .eq 40, 3) := by decide +kernel
theorem dX12_mark_8 : decode cX12_mark 8 = .ok (.iload_n 2, 1) := by decide +kernel
theorem dX12_mark_9 : decode cX12_mark 9 = .ok (.i2l, 1) := by decide +kernel
theorem dX12_mark_10 : decode cX12_mark 10 = .ok (.lconst 0, 1) := by decide +kernel
theorem dX12_mark_11 : decode cX12_mark 11 = .ok (.ldc2_w 239, 3) := by decide +kernel
theorem dX12_mark_14 : decode cX12_mark 14 = .ok (.invokestatic 55, 3) := by decide +kernel
theorem dX12_mark_17 : decode cX12_mark 17 = .ok (.ifCond .eq 28, 3) := by decide +kernel
theorem dX12_mark_20 : decode cX12_mark 20 = .ok (.iload_n 3, 1) := by decide +kernel
theorem dX12_mark_21 : decode cX12_mark 21 = .ok (.i2l, 1) := by decide +kernel
theorem dX12_mark_22 : decode cX12_mark 22 = .ok (.lconst 0, 1) := by decide +kernel
theorem dX12_mark_23 : decode cX12_mark 23 = .ok (.ldc2_w 180, 3) := by decide +kernel
theorem dX12_mark_26 : decode cX12_mark 26 = .ok (.invokestatic 55, 3) := by decide +kernel
theorem dX12_mark_29 : decode cX12_mark 29 = .ok (.ifCond .eq 16, 3) := by decide +kernel
theorem dX12_mark_32 : decode cX12_mark 32 = .ok (.iload 4, 2) := by decide +kernel
theorem dX12_mark_34 : decode cX12_mark 34 = .ok (.i2l, 1) := by decide +kernel
theorem dX12_mark_35 : decode cX12_mark 35 = .ok (.lconst 0, 1) := by decide +kernel
theorem dX12_mark_36 : decode cX12_mark 36 = .ok (.ldc2_w 241, 3) := by decide +kernel
theorem dX12_mark_39 : decode cX12_mark 39 = .ok (.invokestatic 55, 3) := by decide +kernel
theorem dX12_mark_42 : decode cX12_mark 42 = .ok (.ifCond .ne 8, 3) := by decide +kernel
theorem dX12_mark_45 : decode cX12_mark 45 = .ok (.aload_n 0, 1) := by decide +kernel
theorem dX12_mark_46 : decode cX12_mark 46 = .ok (.invokevirtual 101, 3) := by decide +kernel
theorem dX12_mark_49 : decode cX12_mark 49 = .ok (.ireturn, 1) := by decide +kernel
theorem dX12_mark_50 : decode cX12_mark 50 = .ok (.aload_n 0, 1) := by decide +kernel
theorem dX12_mark_51 : decode cX12_mark 51 = .ok (.getfield 7, 3) := by decide +kernel
theorem dX12_mark_54 : decode cX12_mark 54 = .ok (.bipush 112, 2) := by decide +kernel
theorem dX12_mark_56 : decode cX12_mark 56 = .ok (.iaload, 1) := by decide +kernel
theorem dX12_mark_57 : decode cX12_mark 57 = .ok (.bipush 6, 2) := by decide +kernel
theorem dX12_mark_59 : decode cX12_mark 59 = .ok (.if_icmp .ne 8, 3) := by decide +kernel
theorem dX12_mark_62 : decode cX12_mark 62 = .ok (.aload_n 0, 1) := by decide +kernel
theorem dX12_mark_63 : decode cX12_mark 63 = .ok (.invokevirtual 111, 3) := by decide +kernel
theorem dX12_mark_66 : decode cX12_mark 66 = .ok (.ireturn, 1) := by decide +kernel
theorem dX12_mark_67 : decode cX12_mark 67 = .ok (.bipush 113, 2) := by decide +kernel
theorem dX12_mark_69 : decode cX12_mark 69 = .ok (.iconst 4, 1) := by decide +kernel
theorem dX12_mark_70 : decode cX12_mark 70 = .ok (.aload_n 0, 1) := by decide +kernel
theorem dX12_mark_71 : decode cX12_mark 71 = .ok (.getfield 7, 3) := by decide +kernel
theorem dX12_mark_74 : decode cX12_mark 74 = .ok (.bipush 112, 2) := by decide +kernel
theorem dX12_mark_76 : decode cX12_mark 76 = .ok (.iaload, 1) := by decide +kernel
theorem dX12_mark_77 : decode cX12_mark 77 = .ok (.imul, 1) := by decide +kernel
theorem dX12_mark_78 : decode cX12_mark 78 = .ok (.iadd, 1) := by decide +kernel
theorem dX12_mark_79 : decode cX12_mark 79 = .ok (.istore 5, 2) := by decide +kernel
theorem dX12_mark_81 : decode cX12_mark 81 = .ok (.aload_n 0, 1) := by decide +kernel
theorem dX12_mark_82 : decode cX12_mark 82 = .ok (.getfield 7, 3) := by decide +kernel
theorem dX12_mark_85 : decode cX12_mark 85 = .ok (.iload 5, 2) := by decide +kernel
theorem dX12_mark_87 : decode cX12_mark 87 = .ok (.iload_n 1, 1) := by decide +kernel
theorem dX12_mark_88 : decode cX12_mark 88 = .ok (.iastore, 1) := by decide +kernel
theorem dX12_mark_89 : decode cX12_mark 89 = .ok (.aload_n 0, 1) := by decide +kernel
theorem dX12_mark_90 : decode cX12_mark 90 = .ok (.getfield 7, 3) := by decide +kernel
theorem dX12_mark_93 : decode cX12_mark 93 = .ok (.iload 5, 2) := by decide +kernel
theorem dX12_mark_95 : decode cX12_mark 95 = .ok (.iconst 1, 1) := by decide +kernel
theorem dX12_mark_96 : decode cX12_mark 96 = .ok (.iadd, 1) := by decide +kernel
theorem dX12_mark_97 : decode cX12_mark 97 = .ok (.iload_n 2, 1) := by decide +kernel
theorem dX12_mark_98 : decode cX12_mark 98 = .ok (.iastore, 1) := by decide +kernel
theorem dX12_mark_99 : decode cX12_mark 99 = .ok (.aload_n 0, 1) := by decide +kernel
theorem dX12_mark_100 : decode cX12_mark 100 = .ok (.getfield 7, 3) := by decide +kernel
theorem dX12_mark_103 : decode cX12_mark 103 = .ok (.iload 5, 2) := by decide +kernel
theorem dX12_mark_105 : decode cX12_mark 105 = .ok (.iconst 2, 1) := by decide +kernel
theorem dX12_mark_106 : decode cX12_mark 106 = .ok (.iadd, 1) := by decide +kernel
theorem dX12_mark_107 : decode cX12_mark 107 = .ok (.iload_n 3, 1) := by decide +kernel
theorem dX12_mark_108 : decode cX12_mark 108 = .ok (.iastore, 1) := by decide +kernel
theorem dX12_mark_109 : decode cX12_mark 109 = .ok (.aload_n 0, 1) := by decide +kernel
theorem dX12_mark_110 : decode cX12_mark 110 = .ok (.getfield 7, 3) := by decide +kernel
theorem dX12_mark_113 : decode cX12_mark 113 = .ok (.iload 5, 2) := by decide +kernel
theorem dX12_mark_115 : decode cX12_mark 115 = .ok (.iconst 3, 1) := by decide +kernel
theorem dX12_mark_116 : decode cX12_mark 116 = .ok (.iadd, 1) := by decide +kernel
theorem dX12_mark_117 : decode cX12_mark 117 = .ok (.iload 4, 2) := by decide +kernel
theorem dX12_mark_119 : decode cX12_mark 119 = .ok (.iastore, 1) := by decide +kernel
theorem dX12_mark_120 : decode cX12_mark 120 = .ok (.aload_n 0, 1) := by decide +kernel
theorem dX12_mark_121 : decode cX12_mark 121 = .ok (.getfield 7, 3) := by decide +kernel
theorem dX12_mark_124 : decode cX12_mark 124 = .ok (.bipush 112, 2) := by decide +kernel
theorem dX12_mark_126 : decode cX12_mark 126 = .ok (.dup2, 1) := by decide +kernel
theorem dX12_mark_127 : decode cX12_mark 127 = .ok (.iaload, 1) := by decide +kernel
theorem dX12_mark_128 : decode cX12_mark 128 = .ok (.iconst 1, 1) := by decide +kernel
theorem dX12_mark_129 : decode cX12_mark 129 = .ok (.iadd, 1) := by decide +kernel
theorem dX12_mark_130 : decode cX12_mark 130 = .ok (.iastore, 1) := by decide +kernel
theorem dX12_mark_131 : decode cX12_mark 131 = .ok (.aload_n 0, 1) := by decide +kernel
theorem dX12_mark_132 : decode cX12_mark 132 = .ok (.getfield 7, 3) := by decide +kernel
theorem dX12_mark_135 : decode cX12_mark 135 = .ok (.bipush 112, 2) := by decide +kernel
theorem dX12_mark_137 : decode cX12_mark 137 = .ok (.iaload, 1) := by decide +kernel
theorem dX12_mark_138 : decode cX12_mark 138 = .ok (.ireturn, 1) := by decide +kernel
theorem dX12_forget_0 : decode cX12_forget 0 = .ok (.iload_n 1, 1) := by decide +kernel
theorem dX12_forget_1 : decode cX12_forget 1 = .ok (.i2l, 1) := by decide +kernel
theorem dX12_forget_2 : decode cX12_forget 2 = .ok (.lconst 0, 1) := by decide +kernel
theorem dX12_forget_3 : decode cX12_forget 3 = .ok (.ldc2_w 234, 3) := by decide +kernel
theorem dX12_forget_6 : decode cX12_forget 6 = .ok (.invokestatic 55, 3) := by decide +kernel
theorem dX12_forget_9 : decode cX12_forget 9 = .ok (.ifCond .ne 8, 3) := by decide +kernel
theorem dX12_forget_12 : decode cX12_forget 12 = .ok (.aload_n 0, 1) := by decide +kernel
theorem dX12_forget_13 : decode cX12_forget 13 = .ok (.invokevirtual 101, 3) := by decide +kernel
theorem dX12_forget_16 : decode cX12_forget 16 = .ok (.ireturn, 1) := by decide +kernel
theorem dX12_forget_17 : decode cX12_forget 17 = .ok (.iload_n 1, 1) := by decide +kernel
theorem dX12_forget_18 : decode cX12_forget 18 = .ok (.ifCond .ne 8, 3) := by decide +kernel
theorem dX12_forget_21 : decode cX12_forget 21 = .ok (.bipush 68, 2) := by decide +kernel
theorem dX12_forget_23 : decode cX12_forget 23 = .ok (.goto 15, 3) := by decide +kernel
theorem dX12_forget_26 : decode cX12_forget 26 = .ok (.iload_n 1, 1) := by decide +kernel
theorem dX12_forget_27 : decode cX12_forget 27 = .ok (.iconst 1, 1) := by decide +kernel
theorem dX12_forget_28 : decode cX12_forget 28 = .ok (.if_icmp .ne 8, 3) := by decide +kernel
theorem dX12_forget_31 : decode cX12_forget 31 = .ok (.bipush 81, 2) := by decide +kernel
theorem dX12_forget_33 : decode cX12_forget 33 = .ok (.goto 5, 3) := by decide +kernel
theorem dX12_forget_36 : decode cX12_forget 36 = .ok (.bipush 112, 2) := by decide +kernel
theorem dX12_forget_38 : decode cX12_forget 38 = .ok (.istore_n 2, 1) := by decide +kernel
theorem dX12_forget_39 : decode cX12_forget 39 = .ok (.aload_n 0, 1) := by decide +kernel
theorem dX12_forget_40 : decode cX12_forget 40 = .ok (.getfield 7, 3) := by decide +kernel
theorem dX12_forget_43 : decode cX12_forget 43 = .ok (.iload_n 2, 1) := by decide +kernel
theorem dX12_forget_44 : decode cX12_forget 44 = .ok (.iaload, 1) := by decide +kernel
theorem dX12_forget_45 : decode cX12_forget 45 = .ok (.istore_n 3, 1) := by decide +kernel
theorem dX12_forget_46 : decode cX12_forget 46 = .ok (.aload_n 0, 1) := by decide +kernel
theorem dX12_forget_47 : decode cX12_forget 47 = .ok (.getfield 7, 3) := by decide +kernel
theorem dX12_forget_50 : decode cX12_forget 50 = .ok (.iload_n 2, 1) := by decide +kernel
theorem dX12_forget_51 : decode cX12_forget 51 = .ok (.iconst 0, 1) := by decide +kernel
theorem dX12_forget_52 : decode cX12_forget 52 = .ok (.iastore, 1) := by decide +kernel
theorem dX12_forget_53 : decode cX12_forget 53 = .ok (.iload_n 3, 1) := by decide +kernel
theorem dX12_forget_54 : decode cX12_forget 54 = .ok (.ireturn, 1) := by decide +kernel
theorem dX12_kindsBy_0 : decode cX12_kindsBy 0 = .ok (.bipush 63, 2) := by decide +kernel
theorem dX12_kindsBy_2 : decode cX12_kindsBy 2 = .ok (.istore_n 2, 1) := by decide +kernel
theorem dX12_kindsBy_3 : decode cX12_kindsBy 3 = .ok (.iconst 0, 1) := by decide +kernel
theorem dX12_kindsBy_4 : decode cX12_kindsBy 4 = .ok (.istore_n 3, 1) := by decide +kernel
theorem dX12_kindsBy_5 : decode cX12_kindsBy 5 = .ok (.iload_n 3, 1) := by decide +kernel
theorem dX12_kindsBy_6 : decode cX12_kindsBy 6 = .ok (.bipush 6, 2) := by decide +kernel
theorem dX12_kindsBy_8 : decode cX12_kindsBy 8 = .ok (.if_icmp .ge 134, 3) := by decide +kernel
theorem dX12_kindsBy_11 : decode cX12_kindsBy 11 = .ok (.iconst 0, 1) := by decide +kernel
theorem dX12_kindsBy_12 : decode cX12_kindsBy 12 = .ok (.istore 4, 2) := by decide +kernel
theorem dX12_kindsBy_14 : decode cX12_kindsBy 14 = .ok (.iload 4, 2) := by decide +kernel
theorem dX12_kindsBy_16 : decode cX12_kindsBy 16 = .ok (.aload_n 0, 1) := by decide +kernel
theorem dX12_kindsBy_17 : decode cX12_kindsBy 17 = .ok (.getfield 7, 3) := by decide +kernel
theorem dX12_kindsBy_20 : decode cX12_kindsBy 20 = .ok (.bipush 81, 2) := by decide +kernel
theorem dX12_kindsBy_22 : decode cX12_kindsBy 22 = .ok (.iaload, 1) := by decide +kernel
theorem dX12_kindsBy_23 : decode cX12_kindsBy 23 = .ok (.if_icmp .ge 113, 3) := by decide +kernel
theorem dX12_kindsBy_26 : decode cX12_kindsBy 26 = .ok (.bipush 82, 2) := by decide +kernel
theorem dX12_kindsBy_28 : decode cX12_kindsBy 28 = .ok (.iconst 5, 1) := by decide +kernel
theorem dX12_kindsBy_29 : decode cX12_kindsBy 29 = .ok (.iload 4, 2) := by decide +kernel
theorem dX12_kindsBy_31 : decode cX12_kindsBy 31 = .ok (.imul, 1) := by decide +kernel
theorem dX12_kindsBy_32 : decode cX12_kindsBy 32 = .ok (.iadd, 1) := by decide +kernel
theorem dX12_kindsBy_33 : decode cX12_kindsBy 33 = .ok (.istore 5, 2) := by decide +kernel
theorem dX12_kindsBy_35 : decode cX12_kindsBy 35 = .ok (.iload_n 3, 1) := by decide +kernel
theorem dX12_kindsBy_36 : decode cX12_kindsBy 36 = .ok (.aload_n 0, 1) := by decide +kernel
theorem dX12_kindsBy_37 : decode cX12_kindsBy 37 = .ok (.getfield 7, 3) := by decide +kernel
theorem dX12_kindsBy_40 : decode cX12_kindsBy 40 = .ok (.iload 5, 2) := by decide +kernel
theorem dX12_kindsBy_42 : decode cX12_kindsBy 42 = .ok (.iconst 1, 1) := by decide +kernel
theorem dX12_kindsBy_43 : decode cX12_kindsBy 43 = .ok (.iadd, 1) := by decide +kernel
theorem dX12_kindsBy_44 : decode cX12_kindsBy 44 = .ok (.iaload, 1) := by decide +kernel
theorem dX12_kindsBy_45 : decode cX12_kindsBy 45 = .ok (.aload_n 0, 1) := by decide +kernel
theorem dX12_kindsBy_46 : decode cX12_kindsBy 46 = .ok (.getfield 7, 3) := by decide +kernel
theorem dX12_kindsBy_49 : decode cX12_kindsBy 49 = .ok (.iload 5, 2) := by decide +kernel
theorem dX12_kindsBy_51 : decode cX12_kindsBy 51 = .ok (.iconst 2, 1) := by decide +kernel
theorem dX12_kindsBy_52 : decode cX12_kindsBy 52 = .ok (.iadd, 1) := by decide +kernel
theorem dX12_kindsBy_53 : decode cX12_kindsBy 53 = .ok (.iaload, 1) := by decide +kernel
theorem dX12_kindsBy_54 : decode cX12_kindsBy 54 = .ok (.invokestatic 70, 3) := by decide +kernel
theorem dX12_kindsBy_57 : decode cX12_kindsBy 57 = .ok (.aload_n 0, 1) := by decide +kernel
theorem dX12_kindsBy_58 : decode cX12_kindsBy 58 = .ok (.getfield 7, 3) := by decide +kernel
theorem dX12_kindsBy_61 : decode cX12_kindsBy 61 = .ok (.iload 5, 2) := by decide +kernel
theorem dX12_kindsBy_63 : decode cX12_kindsBy 63 = .ok (.iconst 3, 1) := by decide +kernel
theorem dX12_kindsBy_64 : decode cX12_kindsBy 64 = .ok (.iadd, 1) := by decide +kernel
theorem dX12_kindsBy_65 : decode cX12_kindsBy 65 = .ok (.iaload, 1) := by decide +kernel
theorem dX12_kindsBy_66 : decode cX12_kindsBy 66 = .ok (.if_icmp .ne 32, 3) := by decide +kernel
theorem dX12_kindsBy_69 : decode cX12_kindsBy 69 = .ok (.iload_n 3, 1) := by decide +kernel
theorem dX12_kindsBy_70 : decode cX12_kindsBy 70 = .ok (.aload_n 0, 1) := by decide +kernel
theorem dX12_kindsBy_71 : decode cX12_kindsBy 71 = .ok (.getfield 7, 3) := by decide +kernel
theorem dX12_kindsBy_74 : decode cX12_kindsBy 74 = .ok (.iload 5, 2) := by decide +kernel
theorem dX12_kindsBy_76 : decode cX12_kindsBy 76 = .ok (.iconst 3, 1) := by decide +kernel
theorem dX12_kindsBy_77 : decode cX12_kindsBy 77 = .ok (.iadd, 1) := by decide +kernel
theorem dX12_kindsBy_78 : decode cX12_kindsBy 78 = .ok (.iaload, 1) := by decide +kernel
theorem dX12_kindsBy_79 : decode cX12_kindsBy 79 = .ok (.invokestatic 86, 3) := by decide +kernel
theorem dX12_kindsBy_82 : decode cX12_kindsBy 82 = .ok (.aload_n 0, 1) := by decide +kernel
theorem dX12_kindsBy_83 : decode cX12_kindsBy 83 = .ok (.getfield 7, 3) := by decide +kernel
theorem dX12_kindsBy_86 : decode cX12_kindsBy 86 = .ok (.iload 5, 2) := by decide +kernel
theorem dX12_kindsBy_88 : decode cX12_kindsBy 88 = .ok (.iconst 4, 1) := by decide +kernel
theorem dX12_kindsBy_89 : decode cX12_kindsBy 89 = .ok (.iadd, 1) := by decide +kernel
theorem dX12_kindsBy_90 : decode cX12_kindsBy 90 = .ok (.iaload, 1) := by decide +kernel
theorem dX12_kindsBy_91 : decode cX12_kindsBy 91 = .ok (.if_icmp .ne 7, 3) := by decide +kernel
theorem dX12_kindsBy_94 : decode cX12_kindsBy 94 = .ok (.iconst 1, 1) := by decide +kernel
theorem dX12_kindsBy_95 : decode cX12_kindsBy 95 = .ok (.goto 4, 3) := by decide +kernel
theorem dX12_kindsBy_98 : decode cX12_kindsBy 98 = .ok (.iconst 0, 1) := by decide +kernel
theorem dX12_kindsBy_99 : decode cX12_kindsBy 99 = .ok (.istore 6, 2) := by decide +kernel
theorem dX12_kindsBy_101 : decode cX12_kindsBy 101 = .ok (.iload_n 2, 1) := by decide +kernel
theorem dX12_kindsBy_102 : decode cX12_kindsBy 102 = .ok (.aload_n 0, 1) := by decide +kernel
theorem dX12_kindsBy_103 : decode cX12_kindsBy 103 = .ok (.getfield 7, 3) := by decide +kernel
theorem dX12_kindsBy_106 : decode cX12_kindsBy 106 = .ok (.iload 5, 2) := by decide +kernel
theorem dX12_kindsBy_108 : decode cX12_kindsBy 108 = .ok (.iaload, 1) := by decide +kernel
theorem dX12_kindsBy_109 : decode cX12_kindsBy 109 = .ok (.iload_n 1, 1) := by decide +kernel
theorem dX12_kindsBy_110 : decode cX12_kindsBy 110 = .ok (.if_icmp .ne 8, 3) := by decide +kernel
theorem dX12_kindsBy_113 : decode cX12_kindsBy 113 = .ok (.iload 6, 2) := by decide +kernel
theorem dX12_kindsBy_115 : decode cX12_kindsBy 115 = .ok (.ifCond .eq 8, 3) := by decide +kernel
theorem dX12_kindsBy_118 : decode cX12_kindsBy 118 = .ok (.bipush 63, 2) := by decide +kernel
theorem dX12_kindsBy_120 : decode cX12_kindsBy 120 = .ok (.goto 8, 3) := by decide +kernel
theorem dX12_kindsBy_123 : decode cX12_kindsBy 123 = .ok (.iconst 1, 1) := by decide +kernel
theorem dX12_kindsBy_124 : decode cX12_kindsBy 124 = .ok (.iload_n 3, 1) := by decide +kernel
theorem dX12_kindsBy_125 : decode cX12_kindsBy 125 = .ok (.ishl, 1) := by decide +kernel
theorem dX12_kindsBy_126 : decode cX12_kindsBy 126 = .ok (.iconst (-1), 1) := by decide +kernel
theorem dX12_kindsBy_127 : decode cX12_kindsBy 127 = .ok (.ixor, 1) := by decide +kernel
theorem dX12_kindsBy_128 : decode cX12_kindsBy 128 = .ok (.iand, 1) := by decide +kernel
theorem dX12_kindsBy_129 : decode cX12_kindsBy 129 = .ok (.istore_n 2, 1) := by decide +kernel
theorem dX12_kindsBy_130 : decode cX12_kindsBy 130 = .ok (.iinc 4 1, 3) := by decide +kernel
theorem dX12_kindsBy_133 : decode cX12_kindsBy 133 = .ok (.goto (-119), 3) := by decide +kernel
theorem dX12_kindsBy_136 : decode cX12_kindsBy 136 = .ok (.iinc 3 1, 3) := by decide +kernel
theorem dX12_kindsBy_139 : decode cX12_kindsBy 139 = .ok (.goto (-134), 3) := by decide +kernel
theorem dX12_kindsBy_142 : decode cX12_kindsBy 142 = .ok (.iload_n 2, 1) := by decide +kernel
theorem dX12_kindsBy_143 : decode cX12_kindsBy 143 = .ok (.ireturn, 1) := by decide +kernel
theorem dX12_is_0 : decode cX12_is 0 = .ok (.aload_n 0, 1) := by decide +kernel
theorem dX12_is_1 : decode cX12_is 1 = .ok (.iload_n 1, 1) := by decide +kernel
theorem dX12_is_2 : decode cX12_is 2 = .ok (.invokevirtual 185, 3) := by decide +kernel
theorem dX12_is_5 : decode cX12_is 5 = .ok (.ifCond .eq 11, 3) := by decide +kernel
theorem dX12_is_8 : decode cX12_is 8 = .ok (.aload_n 0, 1) := by decide +kernel
theorem dX12_is_9 : decode cX12_is 9 = .ok (.iload_n 1, 1) := by decide +kernel
theorem dX12_is_10 : decode cX12_is 10 = .ok (.invokevirtual 243, 3) := by decide +kernel
theorem dX12_is_13 : decode cX12_is 13 = .ok (.goto 7, 3) := by decide +kernel
theorem dX12_is_16 : decode cX12_is 16 = .ok (.aload_n 0, 1) := by decide +kernel
theorem dX12_is_17 : decode cX12_is 17 = .ok (.invokevirtual 101, 3) := by decide +kernel
theorem dX12_is_20 : decode cX12_is 20 = .ok (.ireturn, 1) := by decide +kernel
theorem dX12_look_0 : decode cX12_look 0 = .ok (.aload_n 0, 1) := by decide +kernel
theorem dX12_look_1 : decode cX12_look 1 = .ok (.iload_n 1, 1) := by decide +kernel
theorem dX12_look_2 : decode cX12_look 2 = .ok (.invokevirtual 185, 3) := by decide +kernel
theorem dX12_look_5 : decode cX12_look 5 = .ok (.ifCond .ne 8, 3) := by decide +kernel
theorem dX12_look_8 : decode cX12_look 8 = .ok (.aload_n 0, 1) := by decide +kernel
theorem dX12_look_9 : decode cX12_look 9 = .ok (.invokevirtual 101, 3) := by decide +kernel
theorem dX12_look_12 : decode cX12_look 12 = .ok (.ireturn, 1) := by decide +kernel
theorem dX12_look_13 : decode cX12_look 13 = .ok (.aload_n 0, 1) := by decide +kernel
theorem dX12_look_14 : decode cX12_look 14 = .ok (.iload_n 1, 1) := by decide +kernel
theorem dX12_look_15 : decode cX12_look 15 = .ok (.invokevirtual 243, 3) := by decide +kernel
theorem dX12_look_18 : decode cX12_look 18 = .ok (.istore_n 2, 1) := by decide +kernel
theorem dX12_look_19 : decode cX12_look 19 = .ok (.aload_n 0, 1) := by decide +kernel
theorem dX12_look_20 : decode cX12_look 20 = .ok (.getfield 7, 3) := by decide +kernel
theorem dX12_look_23 : decode cX12_look 23 = .ok (.iload_n 1, 1) := by decide +kernel
theorem dX12_look_24 : decode cX12_look 24 = .ok (.iconst 2, 1) := by decide +kernel
theorem dX12_look_25 : decode cX12_look 25 = .ok (.invokestatic 66, 3) := by decide +kernel
theorem dX12_look_28 : decode cX12_look 28 = .ok (.istore_n 3, 1) := by decide +kernel
theorem dX12_look_29 : decode cX12_look 29 = .ok (.iconst (-1), 1) := by decide +kernel
theorem dX12_look_30 : decode cX12_look 30 = .ok (.istore 4, 2) := by decide +kernel
theorem dX12_look_32 : decode cX12_look 32 = .ok (.bipush 7, 2) := by decide +kernel
theorem dX12_look_34 : decode cX12_look 34 = .ok (.istore 5, 2) := by decide +kernel
theorem dX12_look_36 : decode cX12_look 36 = .ok (.iconst 0, 1) := by decide +kernel
theorem dX12_look_37 : decode cX12_look 37 = .ok (.istore 6, 2) := by decide +kernel
theorem dX12_look_39 : decode cX12_look 39 = .ok (.iload 6, 2) := by decide +kernel
theorem dX12_look_41 : decode cX12_look 41 = .ok (.bipush 20, 2) := by decide +kernel
theorem dX12_look_43 : decode cX12_look 43 = .ok (.if_icmp .gt 167, 3) := by decide +kernel
theorem dX12_look_46 : decode cX12_look 46 = .ok (.iload_n 2, 1) := by decide +kernel
theorem dX12_look_47 : decode cX12_look 47 = .ok (.ifCond .eq 163, 3) := by decide +kernel
theorem dX12_look_50 : decode cX12_look 50 = .ok (.iconst 0, 1) := by decide +kernel
theorem dX12_look_51 : decode cX12_look 51 = .ok (.istore 7, 2) := by decide +kernel
theorem dX12_look_53 : decode cX12_look 53 = .ok (.iconst 0, 1) := by decide +kernel
theorem dX12_look_54 : decode cX12_look 54 = .ok (.istore 8, 2) := by decide +kernel
theorem dX12_look_56 : decode cX12_look 56 = .ok (.iload 8, 2) := by decide +kernel
theorem dX12_look_58 : decode cX12_look 58 = .ok (.bipush 6, 2) := by decide +kernel
theorem dX12_look_60 : decode cX12_look 60 = .ok (.if_icmp .ge 112, 3) := by decide +kernel
theorem dX12_look_63 : decode cX12_look 63 = .ok (.iconst 0, 1) := by decide +kernel
theorem dX12_look_64 : decode cX12_look 64 = .ok (.istore 9, 2) := by decide +kernel
theorem dX12_look_66 : decode cX12_look 66 = .ok (.iconst 0, 1) := by decide +kernel
theorem dX12_look_67 : decode cX12_look 67 = .ok (.istore 10, 2) := by decide +kernel
theorem dX12_look_69 : decode cX12_look 69 = .ok (.iload 10, 2) := by decide +kernel
theorem dX12_look_71 : decode cX12_look 71 = .ok (.bipush 6, 2) := by decide +kernel
theorem dX12_look_73 : decode cX12_look 73 = .ok (.if_icmp .ge 77, 3) := by decide +kernel
theorem dX12_look_76 : decode cX12_look 76 = .ok (.iload 8, 2) := by decide +kernel
theorem dX12_look_78 : decode cX12_look 78 = .ok (.iload_n 3, 1) := by decide +kernel
theorem dX12_look_79 : decode cX12_look 79 = .ok (.iload 6, 2) := by decide +kernel
theorem dX12_look_81 : decode cX12_look 81 = .ok (.invokestatic 70, 3) := by decide +kernel
theorem dX12_look_84 : decode cX12_look 84 = .ok (.istore 11, 2) := by decide +kernel
theorem dX12_look_86 : decode cX12_look 86 = .ok (.iload 9, 2) := by decide +kernel
theorem dX12_look_88 : decode cX12_look 88 = .ok (.iload_n 2, 1) := by decide +kernel
theorem dX12_look_89 : decode cX12_look 89 = .ok (.iload 8, 2) := by decide +kernel
theorem dX12_look_91 : decode cX12_look 91 = .ok (.invokestatic 62, 3) := by decide +kernel
theorem dX12_look_94 : decode cX12_look 94 = .ok (.ifCond .eq 46, 3) := by decide +kernel
theorem dX12_look_97 : decode cX12_look 97 = .ok (.iload_n 2, 1) := by decide +kernel
theorem dX12_look_98 : decode cX12_look 98 = .ok (.iload 10, 2) := by decide +kernel
theorem dX12_look_100 : decode cX12_look 100 = .ok (.invokestatic 62, 3) := by decide +kernel
theorem dX12_look_103 : decode cX12_look 103 = .ok (.ifCond .eq 37, 3) := by decide +kernel
theorem dX12_look_106 : decode cX12_look 106 = .ok (.iload 10, 2) := by decide +kernel
theorem dX12_look_108 : decode cX12_look 108 = .ok (.iload_n 3, 1) := by decide +kernel
theorem dX12_look_109 : decode cX12_look 109 = .ok (.iload 6, 2) := by decide +kernel
theorem dX12_look_111 : decode cX12_look 111 = .ok (.invokestatic 70, 3) := by decide +kernel
theorem dX12_look_114 : decode cX12_look 114 = .ok (.iload 11, 2) := by decide +kernel
theorem dX12_look_116 : decode cX12_look 116 = .ok (.if_icmp .ne 24, 3) := by decide +kernel
theorem dX12_look_119 : decode cX12_look 119 = .ok (.iload 10, 2) := by decide +kernel
theorem dX12_look_121 : decode cX12_look 121 = .ok (.iload 11, 2) := by decide +kernel
theorem dX12_look_123 : decode cX12_look 123 = .ok (.invokestatic 86, 3) := by decide +kernel
theorem dX12_look_126 : decode cX12_look 126 = .ok (.iload 8, 2) := by decide +kernel
theorem dX12_look_128 : decode cX12_look 128 = .ok (.iload 11, 2) := by decide +kernel
theorem dX12_look_130 : decode cX12_look 130 = .ok (.invokestatic 86, 3) := by decide +kernel
theorem dX12_look_133 : decode cX12_look 133 = .ok (.if_icmp .ne 7, 3) := by decide +kernel
theorem dX12_look_136 : decode cX12_look 136 = .ok (.iconst 1, 1) := by decide +kernel
theorem dX12_look_137 : decode cX12_look 137 = .ok (.goto 4, 3) := by decide +kernel
theorem dX12_look_140 : decode cX12_look 140 = .ok (.iconst 0, 1) := by decide +kernel
theorem dX12_look_141 : decode cX12_look 141 = .ok (.iadd, 1) := by decide +kernel
theorem dX12_look_142 : decode cX12_look 142 = .ok (.istore 9, 2) := by decide +kernel
theorem dX12_look_144 : decode cX12_look 144 = .ok (.iinc 10 1, 3) := by decide +kernel
theorem dX12_look_147 : decode cX12_look 147 = .ok (.goto (-78), 3) := by decide +kernel
theorem dX12_look_150 : decode cX12_look 150 = .ok (.iload 9, 2) := by decide +kernel
theorem dX12_look_152 : decode cX12_look 152 = .ok (.iload 7, 2) := by decide +kernel
theorem dX12_look_154 : decode cX12_look 154 = .ok (.if_icmp .le 8, 3) := by decide +kernel
theorem dX12_look_157 : decode cX12_look 157 = .ok (.iload 9, 2) := by decide +kernel
theorem dX12_look_159 : decode cX12_look 159 = .ok (.goto 5, 3) := by decide +kernel
theorem dX12_look_162 : decode cX12_look 162 = .ok (.iload 7, 2) := by decide +kernel
theorem dX12_look_164 : decode cX12_look 164 = .ok (.istore 7, 2) := by decide +kernel
theorem dX12_look_166 : decode cX12_look 166 = .ok (.iinc 8 1, 3) := by decide +kernel
theorem dX12_look_169 : decode cX12_look 169 = .ok (.goto (-113), 3) := by decide +kernel
theorem dX12_look_172 : decode cX12_look 172 = .ok (.iload 7, 2) := by decide +kernel
theorem dX12_look_174 : decode cX12_look 174 = .ok (.iload 5, 2) := by decide +kernel
theorem dX12_look_176 : decode cX12_look 176 = .ok (.if_icmp .ge 8, 3) := by decide +kernel
theorem dX12_look_179 : decode cX12_look 179 = .ok (.iload 6, 2) := by decide +kernel
theorem dX12_look_181 : decode cX12_look 181 = .ok (.goto 5, 3) := by decide +kernel
theorem dX12_look_184 : decode cX12_look 184 = .ok (.iload 4, 2) := by decide +kernel
theorem dX12_look_186 : decode cX12_look 186 = .ok (.istore 4, 2) := by decide +kernel
theorem dX12_look_188 : decode cX12_look 188 = .ok (.iload 7, 2) := by decide +kernel
theorem dX12_look_190 : decode cX12_look 190 = .ok (.iload 5, 2) := by decide +kernel
theorem dX12_look_192 : decode cX12_look 192 = .ok (.if_icmp .ge 8, 3) := by decide +kernel
theorem dX12_look_195 : decode cX12_look 195 = .ok (.iload 7, 2) := by decide +kernel
theorem dX12_look_197 : decode cX12_look 197 = .ok (.goto 5, 3) := by decide +kernel
theorem dX12_look_200 : decode cX12_look 200 = .ok (.iload 5, 2) := by decide +kernel
theorem dX12_look_202 : decode cX12_look 202 = .ok (.istore 5, 2) := by decide +kernel
theorem dX12_look_204 : decode cX12_look 204 = .ok (.iinc 6 1, 3) := by decide +kernel
theorem dX12_look_207 : decode cX12_look 207 = .ok (.goto (-168), 3) := by decide +kernel
theorem dX12_look_210 : decode cX12_look 210 = .ok (.iload 4, 2) := by decide +kernel
theorem dX12_look_212 : decode cX12_look 212 = .ok (.ireturn, 1) := by decide +kernel
theorem dX12_suitsBy_0 : decode cX12_suitsBy 0 = .ok (.bipush 63, 2) := by decide +kernel
theorem dX12_suitsBy_2 : decode cX12_suitsBy 2 = .ok (.istore_n 2, 1) := by decide +kernel
theorem dX12_suitsBy_3 : decode cX12_suitsBy 3 = .ok (.iconst 0, 1) := by decide +kernel
theorem dX12_suitsBy_4 : decode cX12_suitsBy 4 = .ok (.istore_n 3, 1) := by decide +kernel
theorem dX12_suitsBy_5 : decode cX12_suitsBy 5 = .ok (.iload_n 3, 1) := by decide +kernel
theorem dX12_suitsBy_6 : decode cX12_suitsBy 6 = .ok (.bipush 6, 2) := by decide +kernel
theorem dX12_suitsBy_8 : decode cX12_suitsBy 8 = .ok (.if_icmp .ge 109, 3) := by decide +kernel
theorem dX12_suitsBy_11 : decode cX12_suitsBy 11 = .ok (.iconst 0, 1) := by decide +kernel
theorem dX12_suitsBy_12 : decode cX12_suitsBy 12 = .ok (.istore 4, 2) := by decide +kernel
theorem dX12_suitsBy_14 : decode cX12_suitsBy 14 = .ok (.iload 4, 2) := by decide +kernel
theorem dX12_suitsBy_16 : decode cX12_suitsBy 16 = .ok (.aload_n 0, 1) := by decide +kernel
theorem dX12_suitsBy_17 : decode cX12_suitsBy 17 = .ok (.getfield 7, 3) := by decide +kernel
theorem dX12_suitsBy_20 : decode cX12_suitsBy 20 = .ok (.bipush 112, 2) := by decide +kernel
theorem dX12_suitsBy_22 : decode cX12_suitsBy 22 = .ok (.iaload, 1) := by decide +kernel
theorem dX12_suitsBy_23 : decode cX12_suitsBy 23 = .ok (.if_icmp .ge 88, 3) := by decide +kernel
theorem dX12_suitsBy_26 : decode cX12_suitsBy 26 = .ok (.bipush 113, 2) := by decide +kernel
theorem dX12_suitsBy_28 : decode cX12_suitsBy 28 = .ok (.iconst 4, 1) := by decide +kernel
theorem dX12_suitsBy_29 : decode cX12_suitsBy 29 = .ok (.iload 4, 2) := by decide +kernel
theorem dX12_suitsBy_31 : decode cX12_suitsBy 31 = .ok (.imul, 1) := by decide +kernel
theorem dX12_suitsBy_32 : decode cX12_suitsBy 32 = .ok (.iadd, 1) := by decide +kernel
theorem dX12_suitsBy_33 : decode cX12_suitsBy 33 = .ok (.istore 5, 2) := by decide +kernel
theorem dX12_suitsBy_35 : decode cX12_suitsBy 35 = .ok (.iload_n 3, 1) := by decide +kernel
theorem dX12_suitsBy_36 : decode cX12_suitsBy 36 = .ok (.aload_n 0, 1) := by decide +kernel
theorem dX12_suitsBy_37 : decode cX12_suitsBy 37 = .ok (.getfield 7, 3) := by decide +kernel
theorem dX12_suitsBy_40 : decode cX12_suitsBy 40 = .ok (.iload 5, 2) := by decide +kernel
theorem dX12_suitsBy_42 : decode cX12_suitsBy 42 = .ok (.iconst 1, 1) := by decide +kernel
theorem dX12_suitsBy_43 : decode cX12_suitsBy 43 = .ok (.iadd, 1) := by decide +kernel
theorem dX12_suitsBy_44 : decode cX12_suitsBy 44 = .ok (.iaload, 1) := by decide +kernel
theorem dX12_suitsBy_45 : decode cX12_suitsBy 45 = .ok (.aload_n 0, 1) := by decide +kernel
theorem dX12_suitsBy_46 : decode cX12_suitsBy 46 = .ok (.getfield 7, 3) := by decide +kernel
theorem dX12_suitsBy_49 : decode cX12_suitsBy 49 = .ok (.iload 5, 2) := by decide +kernel
theorem dX12_suitsBy_51 : decode cX12_suitsBy 51 = .ok (.iconst 2, 1) := by decide +kernel
theorem dX12_suitsBy_52 : decode cX12_suitsBy 52 = .ok (.iadd, 1) := by decide +kernel
theorem dX12_suitsBy_53 : decode cX12_suitsBy 53 = .ok (.iaload, 1) := by decide +kernel
theorem dX12_suitsBy_54 : decode cX12_suitsBy 54 = .ok (.invokestatic 200, 3) := by decide +kernel
theorem dX12_suitsBy_57 : decode cX12_suitsBy 57 = .ok (.aload_n 0, 1) := by decide +kernel
theorem dX12_suitsBy_58 : decode cX12_suitsBy 58 = .ok (.getfield 7, 3) := by decide +kernel
theorem dX12_suitsBy_61 : decode cX12_suitsBy 61 = .ok (.iload 5, 2) := by decide +kernel
theorem dX12_suitsBy_63 : decode cX12_suitsBy 63 = .ok (.iconst 3, 1) := by decide +kernel
theorem dX12_suitsBy_64 : decode cX12_suitsBy 64 = .ok (.iadd, 1) := by decide +kernel
theorem dX12_suitsBy_65 : decode cX12_suitsBy 65 = .ok (.iaload, 1) := by decide +kernel
theorem dX12_suitsBy_66 : decode cX12_suitsBy 66 = .ok (.if_icmp .ne 7, 3) := by decide +kernel
theorem dX12_suitsBy_69 : decode cX12_suitsBy 69 = .ok (.iconst 1, 1) := by decide +kernel
theorem dX12_suitsBy_70 : decode cX12_suitsBy 70 = .ok (.goto 4, 3) := by decide +kernel
theorem dX12_suitsBy_73 : decode cX12_suitsBy 73 = .ok (.iconst 0, 1) := by decide +kernel
theorem dX12_suitsBy_74 : decode cX12_suitsBy 74 = .ok (.istore 6, 2) := by decide +kernel
theorem dX12_suitsBy_76 : decode cX12_suitsBy 76 = .ok (.iload_n 2, 1) := by decide +kernel
theorem dX12_suitsBy_77 : decode cX12_suitsBy 77 = .ok (.aload_n 0, 1) := by decide +kernel
theorem dX12_suitsBy_78 : decode cX12_suitsBy 78 = .ok (.getfield 7, 3) := by decide +kernel
theorem dX12_suitsBy_81 : decode cX12_suitsBy 81 = .ok (.iload 5, 2) := by decide +kernel
theorem dX12_suitsBy_83 : decode cX12_suitsBy 83 = .ok (.iaload, 1) := by decide +kernel
theorem dX12_suitsBy_84 : decode cX12_suitsBy 84 = .ok (.iload_n 1, 1) := by decide +kernel
theorem dX12_suitsBy_85 : decode cX12_suitsBy 85 = .ok (.if_icmp .ne 8, 3) := by decide +kernel
theorem dX12_suitsBy_88 : decode cX12_suitsBy 88 = .ok (.iload 6, 2) := by decide +kernel
theorem dX12_suitsBy_90 : decode cX12_suitsBy 90 = .ok (.ifCond .eq 8, 3) := by decide +kernel
theorem dX12_suitsBy_93 : decode cX12_suitsBy 93 = .ok (.bipush 63, 2) := by decide +kernel
theorem dX12_suitsBy_95 : decode cX12_suitsBy 95 = .ok (.goto 8, 3) := by decide +kernel
theorem dX12_suitsBy_98 : decode cX12_suitsBy 98 = .ok (.iconst 1, 1) := by decide +kernel
theorem dX12_suitsBy_99 : decode cX12_suitsBy 99 = .ok (.iload_n 3, 1) := by decide +kernel
theorem dX12_suitsBy_100 : decode cX12_suitsBy 100 = .ok (.ishl, 1) := by decide +kernel
theorem dX12_suitsBy_101 : decode cX12_suitsBy 101 = .ok (.iconst (-1), 1) := by decide +kernel
theorem dX12_suitsBy_102 : decode cX12_suitsBy 102 = .ok (.ixor, 1) := by decide +kernel
theorem dX12_suitsBy_103 : decode cX12_suitsBy 103 = .ok (.iand, 1) := by decide +kernel
theorem dX12_suitsBy_104 : decode cX12_suitsBy 104 = .ok (.istore_n 2, 1) := by decide +kernel
theorem dX12_suitsBy_105 : decode cX12_suitsBy 105 = .ok (.iinc 4 1, 3) := by decide +kernel
theorem dX12_suitsBy_108 : decode cX12_suitsBy 108 = .ok (.goto (-94), 3) := by decide +kernel
theorem dX12_suitsBy_111 : decode cX12_suitsBy 111 = .ok (.iinc 3 1, 3) := by decide +kernel
theorem dX12_suitsBy_114 : decode cX12_suitsBy 114 = .ok (.goto (-109), 3) := by decide +kernel
theorem dX12_suitsBy_117 : decode cX12_suitsBy 117 = .ok (.iload_n 2, 1) := by decide +kernel
theorem dX12_suitsBy_118 : decode cX12_suitsBy 118 = .ok (.ireturn, 1) := by decide +kernel
theorem dX12_kinds_0 : decode cX12_kinds 0 = .ok (.aload_n 0, 1) := by decide +kernel
theorem dX12_kinds_1 : decode cX12_kinds 1 = .ok (.iload_n 1, 1) := by decide +kernel
theorem dX12_kinds_2 : decode cX12_kinds 2 = .ok (.invokevirtual 203, 3) := by decide +kernel
theorem dX12_kinds_5 : decode cX12_kinds 5 = .ok (.ifCond .eq 11, 3) := by decide +kernel
theorem dX12_kinds_8 : decode cX12_kinds 8 = .ok (.aload_n 0, 1) := by decide +kernel
theorem dX12_kinds_9 : decode cX12_kinds 9 = .ok (.iload_n 1, 1) := by decide +kernel
theorem dX12_kinds_10 : decode cX12_kinds 10 = .ok (.invokevirtual 246, 3) := by decide +kernel
theorem dX12_kinds_13 : decode cX12_kinds 13 = .ok (.goto 7, 3) := by decide +kernel
theorem dX12_kinds_16 : decode cX12_kinds 16 = .ok (.aload_n 0, 1) := by decide +kernel
theorem dX12_kinds_17 : decode cX12_kinds 17 = .ok (.invokevirtual 101, 3) := by decide +kernel
theorem dX12_kinds_20 : decode cX12_kinds 20 = .ok (.ireturn, 1) := by decide +kernel
theorem dX12_tries_0 : decode cX12_tries 0 = .ok (.aload_n 0, 1) := by decide +kernel
theorem dX12_tries_1 : decode cX12_tries 1 = .ok (.iload_n 1, 1) := by decide +kernel
theorem dX12_tries_2 : decode cX12_tries 2 = .ok (.invokevirtual 203, 3) := by decide +kernel
theorem dX12_tries_5 : decode cX12_tries 5 = .ok (.ifCond .ne 8, 3) := by decide +kernel
theorem dX12_tries_8 : decode cX12_tries 8 = .ok (.aload_n 0, 1) := by decide +kernel
theorem dX12_tries_9 : decode cX12_tries 9 = .ok (.invokevirtual 101, 3) := by decide +kernel
theorem dX12_tries_12 : decode cX12_tries 12 = .ok (.ireturn, 1) := by decide +kernel
theorem dX12_tries_13 : decode cX12_tries 13 = .ok (.aload_n 0, 1) := by decide +kernel
theorem dX12_tries_14 : decode cX12_tries 14 = .ok (.iload_n 1, 1) := by decide +kernel
theorem dX12_tries_15 : decode cX12_tries 15 = .ok (.invokevirtual 246, 3) := by decide +kernel
theorem dX12_tries_18 : decode cX12_tries 18 = .ok (.istore_n 2, 1) := by decide +kernel
theorem dX12_tries_19 : decode cX12_tries 19 = .ok (.iconst (-1), 1) := by decide +kernel
theorem dX12_tries_20 : decode cX12_tries 20 = .ok (.istore_n 3, 1) := by decide +kernel
theorem dX12_tries_21 : decode cX12_tries 21 = .ok (.bipush 7, 2) := by decide +kernel
theorem dX12_tries_23 : decode cX12_tries 23 = .ok (.istore 4, 2) := by decide +kernel
theorem dX12_tries_25 : decode cX12_tries 25 = .ok (.iconst 0, 1) := by decide +kernel
theorem dX12_tries_26 : decode cX12_tries 26 = .ok (.istore 5, 2) := by decide +kernel
theorem dX12_tries_28 : decode cX12_tries 28 = .ok (.iload 5, 2) := by decide +kernel
theorem dX12_tries_30 : decode cX12_tries 30 = .ok (.sipush 310, 3) := by decide +kernel
theorem dX12_tries_33 : decode cX12_tries 33 = .ok (.if_icmp .ge 158, 3) := by decide +kernel
theorem dX12_tries_36 : decode cX12_tries 36 = .ok (.iload_n 2, 1) := by decide +kernel
theorem dX12_tries_37 : decode cX12_tries 37 = .ok (.ifCond .eq 154, 3) := by decide +kernel
theorem dX12_tries_40 : decode cX12_tries 40 = .ok (.iconst 0, 1) := by decide +kernel
theorem dX12_tries_41 : decode cX12_tries 41 = .ok (.istore 6, 2) := by decide +kernel
theorem dX12_tries_43 : decode cX12_tries 43 = .ok (.iconst 0, 1) := by decide +kernel
theorem dX12_tries_44 : decode cX12_tries 44 = .ok (.istore 7, 2) := by decide +kernel
theorem dX12_tries_46 : decode cX12_tries 46 = .ok (.iload 7, 2) := by decide +kernel
theorem dX12_tries_48 : decode cX12_tries 48 = .ok (.bipush 6, 2) := by decide +kernel
theorem dX12_tries_50 : decode cX12_tries 50 = .ok (.if_icmp .ge 105, 3) := by decide +kernel
theorem dX12_tries_53 : decode cX12_tries 53 = .ok (.iconst 0, 1) := by decide +kernel
theorem dX12_tries_54 : decode cX12_tries 54 = .ok (.istore 8, 2) := by decide +kernel
theorem dX12_tries_56 : decode cX12_tries 56 = .ok (.iconst 0, 1) := by decide +kernel
theorem dX12_tries_57 : decode cX12_tries 57 = .ok (.istore 9, 2) := by decide +kernel
theorem dX12_tries_59 : decode cX12_tries 59 = .ok (.iload 9, 2) := by decide +kernel
theorem dX12_tries_61 : decode cX12_tries 61 = .ok (.bipush 6, 2) := by decide +kernel
theorem dX12_tries_63 : decode cX12_tries 63 = .ok (.if_icmp .ge 70, 3) := by decide +kernel
theorem dX12_tries_66 : decode cX12_tries 66 = .ok (.iload 8, 2) := by decide +kernel
theorem dX12_tries_68 : decode cX12_tries 68 = .ok (.iload_n 2, 1) := by decide +kernel
theorem dX12_tries_69 : decode cX12_tries 69 = .ok (.iload 7, 2) := by decide +kernel
theorem dX12_tries_71 : decode cX12_tries 71 = .ok (.invokestatic 62, 3) := by decide +kernel
theorem dX12_tries_74 : decode cX12_tries 74 = .ok (.ifCond .eq 49, 3) := by decide +kernel
theorem dX12_tries_77 : decode cX12_tries 77 = .ok (.iload_n 2, 1) := by decide +kernel
theorem dX12_tries_78 : decode cX12_tries 78 = .ok (.iload 9, 2) := by decide +kernel
theorem dX12_tries_80 : decode cX12_tries 80 = .ok (.invokestatic 62, 3) := by decide +kernel
theorem dX12_tries_83 : decode cX12_tries 83 = .ok (.ifCond .eq 40, 3) := by decide +kernel
theorem dX12_tries_86 : decode cX12_tries 86 = .ok (.iload 7, 2) := by decide +kernel
theorem dX12_tries_88 : decode cX12_tries 88 = .ok (.iload 5, 2) := by decide +kernel
theorem dX12_tries_90 : decode cX12_tries 90 = .ok (.bipush 10, 2) := by decide +kernel
theorem dX12_tries_92 : decode cX12_tries 92 = .ok (.idiv, 1) := by decide +kernel
theorem dX12_tries_93 : decode cX12_tries 93 = .ok (.iload 5, 2) := by decide +kernel
theorem dX12_tries_95 : decode cX12_tries 95 = .ok (.bipush 10, 2) := by decide +kernel
theorem dX12_tries_97 : decode cX12_tries 97 = .ok (.irem, 1) := by decide +kernel
theorem dX12_tries_98 : decode cX12_tries 98 = .ok (.invokestatic 200, 3) := by decide +kernel
theorem dX12_tries_101 : decode cX12_tries 101 = .ok (.iload 9, 2) := by decide +kernel
theorem dX12_tries_103 : decode cX12_tries 103 = .ok (.iload 5, 2) := by decide +kernel
theorem dX12_tries_105 : decode cX12_tries 105 = .ok (.bipush 10, 2) := by decide +kernel
theorem dX12_tries_107 : decode cX12_tries 107 = .ok (.idiv, 1) := by decide +kernel
theorem dX12_tries_108 : decode cX12_tries 108 = .ok (.iload 5, 2) := by decide +kernel
theorem dX12_tries_110 : decode cX12_tries 110 = .ok (.bipush 10, 2) := by decide +kernel
theorem dX12_tries_112 : decode cX12_tries 112 = .ok (.irem, 1) := by decide +kernel
theorem dX12_tries_113 : decode cX12_tries 113 = .ok (.invokestatic 200, 3) := by decide +kernel
theorem dX12_tries_116 : decode cX12_tries 116 = .ok (.if_icmp .ne 7, 3) := by decide +kernel
theorem dX12_tries_119 : decode cX12_tries 119 = .ok (.iconst 1, 1) := by decide +kernel
theorem dX12_tries_120 : decode cX12_tries 120 = .ok (.goto 4, 3) := by decide +kernel
theorem dX12_tries_123 : decode cX12_tries 123 = .ok (.iconst 0, 1) := by decide +kernel
theorem dX12_tries_124 : decode cX12_tries 124 = .ok (.iadd, 1) := by decide +kernel
theorem dX12_tries_125 : decode cX12_tries 125 = .ok (.istore 8, 2) := by decide +kernel
theorem dX12_tries_127 : decode cX12_tries 127 = .ok (.iinc 9 1, 3) := by decide +kernel
theorem dX12_tries_130 : decode cX12_tries 130 = .ok (.goto (-71), 3) := by decide +kernel
theorem dX12_tries_133 : decode cX12_tries 133 = .ok (.iload 8, 2) := by decide +kernel
theorem dX12_tries_135 : decode cX12_tries 135 = .ok (.iload 6, 2) := by decide +kernel
theorem dX12_tries_137 : decode cX12_tries 137 = .ok (.if_icmp .le 8, 3) := by decide +kernel
theorem dX12_tries_140 : decode cX12_tries 140 = .ok (.iload 8, 2) := by decide +kernel
theorem dX12_tries_142 : decode cX12_tries 142 = .ok (.goto 5, 3) := by decide +kernel
theorem dX12_tries_145 : decode cX12_tries 145 = .ok (.iload 6, 2) := by decide +kernel
theorem dX12_tries_147 : decode cX12_tries 147 = .ok (.istore 6, 2) := by decide +kernel
theorem dX12_tries_149 : decode cX12_tries 149 = .ok (.iinc 7 1, 3) := by decide +kernel
theorem dX12_tries_152 : decode cX12_tries 152 = .ok (.goto (-106), 3) := by decide +kernel
theorem dX12_tries_155 : decode cX12_tries 155 = .ok (.iload 6, 2) := by decide +kernel
theorem dX12_tries_157 : decode cX12_tries 157 = .ok (.iload 4, 2) := by decide +kernel
theorem dX12_tries_159 : decode cX12_tries 159 = .ok (.if_icmp .ge 8, 3) := by decide +kernel
theorem dX12_tries_162 : decode cX12_tries 162 = .ok (.iload 5, 2) := by decide +kernel
theorem dX12_tries_164 : decode cX12_tries 164 = .ok (.goto 4, 3) := by decide +kernel
theorem dX12_tries_167 : decode cX12_tries 167 = .ok (.iload_n 3, 1) := by decide +kernel
theorem dX12_tries_168 : decode cX12_tries 168 = .ok (.istore_n 3, 1) := by decide +kernel
theorem dX12_tries_169 : decode cX12_tries 169 = .ok (.iload 6, 2) := by decide +kernel
theorem dX12_tries_171 : decode cX12_tries 171 = .ok (.iload 4, 2) := by decide +kernel
theorem dX12_tries_173 : decode cX12_tries 173 = .ok (.if_icmp .ge 8, 3) := by decide +kernel
theorem dX12_tries_176 : decode cX12_tries 176 = .ok (.iload 6, 2) := by decide +kernel
theorem dX12_tries_178 : decode cX12_tries 178 = .ok (.goto 5, 3) := by decide +kernel
theorem dX12_tries_181 : decode cX12_tries 181 = .ok (.iload 4, 2) := by decide +kernel
theorem dX12_tries_183 : decode cX12_tries 183 = .ok (.istore 4, 2) := by decide +kernel
theorem dX12_tries_185 : decode cX12_tries 185 = .ok (.iinc 5 1, 3) := by decide +kernel
theorem dX12_tries_188 : decode cX12_tries 188 = .ok (.goto (-160), 3) := by decide +kernel
theorem dX12_tries_191 : decode cX12_tries 191 = .ok (.iload_n 3, 1) := by decide +kernel
theorem dX12_tries_192 : decode cX12_tries 192 = .ok (.ireturn, 1) := by decide +kernel
theorem dX12_gain_0 : decode cX12_gain 0 = .ok (.iload_n 3, 1) := by decide +kernel
theorem dX12_gain_1 : decode cX12_gain 1 = .ok (.iconst 0, 1) := by decide +kernel
theorem dX12_gain_2 : decode cX12_gain 2 = .ok (.invokestatic 62, 3) := by decide +kernel
theorem dX12_gain_5 : decode cX12_gain 5 = .ok (.istore 4, 2) := by decide +kernel
theorem dX12_gain_7 : decode cX12_gain 7 = .ok (.iload_n 3, 1) := by decide +kernel
theorem dX12_gain_8 : decode cX12_gain 8 = .ok (.iconst 1, 1) := by decide +kernel
theorem dX12_gain_9 : decode cX12_gain 9 = .ok (.invokestatic 62, 3) := by decide +kernel
theorem dX12_gain_12 : decode cX12_gain 12 = .ok (.ifCond .eq 19, 3) := by decide +kernel
theorem dX12_gain_15 : decode cX12_gain 15 = .ok (.aload_n 0, 1) := by decide +kernel
theorem dX12_gain_16 : decode cX12_gain 16 = .ok (.aload_n 0, 1) := by decide +kernel
theorem dX12_gain_17 : decode cX12_gain 17 = .ok (.getfield 7, 3) := by decide +kernel
theorem dX12_gain_20 : decode cX12_gain 20 = .ok (.iload_n 1, 1) := by decide +kernel
theorem dX12_gain_21 : decode cX12_gain 21 = .ok (.iconst 1, 1) := by decide +kernel
theorem dX12_gain_22 : decode cX12_gain 22 = .ok (.invokestatic 188, 3) := by decide +kernel
theorem dX12_gain_25 : decode cX12_gain 25 = .ok (.invokevirtual 194, 3) := by decide +kernel
theorem dX12_gain_28 : decode cX12_gain 28 = .ok (.goto 17, 3) := by decide +kernel
theorem dX12_gain_31 : decode cX12_gain 31 = .ok (.iload 4, 2) := by decide +kernel
theorem dX12_gain_33 : decode cX12_gain 33 = .ok (.ifCond .eq 11, 3) := by decide +kernel
theorem dX12_gain_36 : decode cX12_gain 36 = .ok (.aload_n 0, 1) := by decide +kernel
theorem dX12_gain_37 : decode cX12_gain 37 = .ok (.iload_n 1, 1) := by decide +kernel
theorem dX12_gain_38 : decode cX12_gain 38 = .ok (.invokevirtual 206, 3) := by decide +kernel
theorem dX12_gain_41 : decode cX12_gain 41 = .ok (.goto 4, 3) := by decide +kernel
theorem dX12_gain_44 : decode cX12_gain 44 = .ok (.iconst 0, 1) := by decide +kernel
theorem dX12_gain_45 : decode cX12_gain 45 = .ok (.istore 5, 2) := by decide +kernel
theorem dX12_gain_47 : decode cX12_gain 47 = .ok (.iload_n 2, 1) := by decide +kernel
theorem dX12_gain_48 : decode cX12_gain 48 = .ok (.iconst 1, 1) := by decide +kernel
theorem dX12_gain_49 : decode cX12_gain 49 = .ok (.if_icmp .ne 9, 3) := by decide +kernel
theorem dX12_gain_52 : decode cX12_gain 52 = .ok (.iload 5, 2) := by decide +kernel
theorem dX12_gain_54 : decode cX12_gain 54 = .ok (.ineg, 1) := by decide +kernel
theorem dX12_gain_55 : decode cX12_gain 55 = .ok (.goto 17, 3) := by decide +kernel
theorem dX12_gain_58 : decode cX12_gain 58 = .ok (.iload 4, 2) := by decide +kernel
theorem dX12_gain_60 : decode cX12_gain 60 = .ok (.ifCond .eq 10, 3) := by decide +kernel
theorem dX12_gain_63 : decode cX12_gain 63 = .ok (.iload 5, 2) := by decide +kernel
theorem dX12_gain_65 : decode cX12_gain 65 = .ok (.iconst 5, 1) := by decide +kernel
theorem dX12_gain_66 : decode cX12_gain 66 = .ok (.isub, 1) := by decide +kernel
theorem dX12_gain_67 : decode cX12_gain 67 = .ok (.goto 5, 3) := by decide +kernel
theorem dX12_gain_70 : decode cX12_gain 70 = .ok (.iload 5, 2) := by decide +kernel
theorem dX12_gain_72 : decode cX12_gain 72 = .ok (.ireturn, 1) := by decide +kernel
theorem dX12_parties_0 : decode cX12_parties 0 = .ok (.aload_n 0, 1) := by decide +kernel
theorem dX12_parties_1 : decode cX12_parties 1 = .ok (.iload_n 1, 1) := by decide +kernel
theorem dX12_parties_2 : decode cX12_parties 2 = .ok (.invokevirtual 203, 3) := by decide +kernel
theorem dX12_parties_5 : decode cX12_parties 5 = .ok (.ifCond .ne 8, 3) := by decide +kernel
theorem dX12_parties_8 : decode cX12_parties 8 = .ok (.aload_n 0, 1) := by decide +kernel
theorem dX12_parties_9 : decode cX12_parties 9 = .ok (.invokevirtual 101, 3) := by decide +kernel
theorem dX12_parties_12 : decode cX12_parties 12 = .ok (.ireturn, 1) := by decide +kernel
theorem dX12_parties_13 : decode cX12_parties 13 = .ok (.aload_n 0, 1) := by decide +kernel
theorem dX12_parties_14 : decode cX12_parties 14 = .ok (.iload_n 1, 1) := by decide +kernel
theorem dX12_parties_15 : decode cX12_parties 15 = .ok (.invokevirtual 191, 3) := by decide +kernel
theorem dX12_parties_18 : decode cX12_parties 18 = .ok (.ifCond .eq 8, 3) := by decide +kernel
theorem dX12_parties_21 : decode cX12_parties 21 = .ok (.aload_n 0, 1) := by decide +kernel
theorem dX12_parties_22 : decode cX12_parties 22 = .ok (.invokevirtual 177, 3) := by decide +kernel
theorem dX12_parties_25 : decode cX12_parties 25 = .ok (.ireturn, 1) := by decide +kernel
theorem dX12_parties_26 : decode cX12_parties 26 = .ok (.iconst 0, 1) := by decide +kernel
theorem dX12_parties_27 : decode cX12_parties 27 = .ok (.istore_n 2, 1) := by decide +kernel
theorem dX12_parties_28 : decode cX12_parties 28 = .ok (.iconst 0, 1) := by decide +kernel
theorem dX12_parties_29 : decode cX12_parties 29 = .ok (.istore_n 3, 1) := by decide +kernel
theorem dX12_parties_30 : decode cX12_parties 30 = .ok (.iload_n 3, 1) := by decide +kernel
theorem dX12_parties_31 : decode cX12_parties 31 = .ok (.iconst 4, 1) := by decide +kernel
theorem dX12_parties_32 : decode cX12_parties 32 = .ok (.if_icmp .ge 69, 3) := by decide +kernel
theorem dX12_parties_35 : decode cX12_parties 35 = .ok (.aload_n 0, 1) := by decide +kernel
theorem dX12_parties_36 : decode cX12_parties 36 = .ok (.iload_n 1, 1) := by decide +kernel
theorem dX12_parties_37 : decode cX12_parties 37 = .ok (.iconst 0, 1) := by decide +kernel
theorem dX12_parties_38 : decode cX12_parties 38 = .ok (.iload_n 3, 1) := by decide +kernel
theorem dX12_parties_39 : decode cX12_parties 39 = .ok (.invokevirtual 249, 3) := by decide +kernel
theorem dX12_parties_42 : decode cX12_parties 42 = .ok (.aload_n 0, 1) := by decide +kernel
theorem dX12_parties_43 : decode cX12_parties 43 = .ok (.iload_n 1, 1) := by decide +kernel
theorem dX12_parties_44 : decode cX12_parties 44 = .ok (.iconst 0, 1) := by decide +kernel
theorem dX12_parties_45 : decode cX12_parties 45 = .ok (.iload_n 3, 1) := by decide +kernel
theorem dX12_parties_46 : decode cX12_parties 46 = .ok (.iconst 1, 1) := by decide +kernel
theorem dX12_parties_47 : decode cX12_parties 47 = .ok (.ixor, 1) := by decide +kernel
theorem dX12_parties_48 : decode cX12_parties 48 = .ok (.invokevirtual 249, 3) := by decide +kernel
theorem dX12_parties_51 : decode cX12_parties 51 = .ok (.if_icmp .lt 26, 3) := by decide +kernel
theorem dX12_parties_54 : decode cX12_parties 54 = .ok (.aload_n 0, 1) := by decide +kernel
theorem dX12_parties_55 : decode cX12_parties 55 = .ok (.iload_n 1, 1) := by decide +kernel
theorem dX12_parties_56 : decode cX12_parties 56 = .ok (.iconst 1, 1) := by decide +kernel
theorem dX12_parties_57 : decode cX12_parties 57 = .ok (.iload_n 3, 1) := by decide +kernel
theorem dX12_parties_58 : decode cX12_parties 58 = .ok (.invokevirtual 249, 3) := by decide +kernel
theorem dX12_parties_61 : decode cX12_parties 61 = .ok (.aload_n 0, 1) := by decide +kernel
theorem dX12_parties_62 : decode cX12_parties 62 = .ok (.iload_n 1, 1) := by decide +kernel
theorem dX12_parties_63 : decode cX12_parties 63 = .ok (.iconst 1, 1) := by decide +kernel
theorem dX12_parties_64 : decode cX12_parties 64 = .ok (.iload_n 3, 1) := by decide +kernel
theorem dX12_parties_65 : decode cX12_parties 65 = .ok (.iconst 2, 1) := by decide +kernel
theorem dX12_parties_66 : decode cX12_parties 66 = .ok (.ixor, 1) := by decide +kernel
theorem dX12_parties_67 : decode cX12_parties 67 = .ok (.invokevirtual 249, 3) := by decide +kernel
theorem dX12_parties_70 : decode cX12_parties 70 = .ok (.if_icmp .lt 7, 3) := by decide +kernel
theorem dX12_parties_73 : decode cX12_parties 73 = .ok (.iconst 1, 1) := by decide +kernel
theorem dX12_parties_74 : decode cX12_parties 74 = .ok (.goto 4, 3) := by decide +kernel
theorem dX12_parties_77 : decode cX12_parties 77 = .ok (.iconst 0, 1) := by decide +kernel
theorem dX12_parties_78 : decode cX12_parties 78 = .ok (.istore 4, 2) := by decide +kernel
theorem dX12_parties_80 : decode cX12_parties 80 = .ok (.iload_n 2, 1) := by decide +kernel
theorem dX12_parties_81 : decode cX12_parties 81 = .ok (.iload 4, 2) := by decide +kernel
theorem dX12_parties_83 : decode cX12_parties 83 = .ok (.ifCond .eq 9, 3) := by decide +kernel
theorem dX12_parties_86 : decode cX12_parties 86 = .ok (.iconst 1, 1) := by decide +kernel
theorem dX12_parties_87 : decode cX12_parties 87 = .ok (.iload_n 3, 1) := by decide +kernel
theorem dX12_parties_88 : decode cX12_parties 88 = .ok (.ishl, 1) := by decide +kernel
theorem dX12_parties_89 : decode cX12_parties 89 = .ok (.goto 4, 3) := by decide +kernel
theorem dX12_parties_92 : decode cX12_parties 92 = .ok (.iconst 0, 1) := by decide +kernel
theorem dX12_parties_93 : decode cX12_parties 93 = .ok (.ior, 1) := by decide +kernel
theorem dX12_parties_94 : decode cX12_parties 94 = .ok (.istore_n 2, 1) := by decide +kernel
theorem dX12_parties_95 : decode cX12_parties 95 = .ok (.iinc 3 1, 3) := by decide +kernel
theorem dX12_parties_98 : decode cX12_parties 98 = .ok (.goto (-68), 3) := by decide +kernel
theorem dX12_parties_101 : decode cX12_parties 101 = .ok (.iload_n 2, 1) := by decide +kernel
theorem dX12_parties_102 : decode cX12_parties 102 = .ok (.ireturn, 1) := by decide +kernel
theorem dX12_calms_0 : decode cX12_calms 0 = .ok (.aload_n 0, 1) := by decide +kernel
theorem dX12_calms_1 : decode cX12_calms 1 = .ok (.iload_n 1, 1) := by decide +kernel
theorem dX12_calms_2 : decode cX12_calms 2 = .ok (.invokevirtual 185, 3) := by decide +kernel
theorem dX12_calms_5 : decode cX12_calms 5 = .ok (.ifCond .eq 27, 3) := by decide +kernel
theorem dX12_calms_8 : decode cX12_calms 8 = .ok (.iload_n 2, 1) := by decide +kernel
theorem dX12_calms_9 : decode cX12_calms 9 = .ok (.i2l, 1) := by decide +kernel
theorem dX12_calms_10 : decode cX12_calms 10 = .ok (.lconst 0, 1) := by decide +kernel
theorem dX12_calms_11 : decode cX12_calms 11 = .ok (.ldc2_w 252, 3) := by decide +kernel
theorem dX12_calms_14 : decode cX12_calms 14 = .ok (.invokestatic 55, 3) := by decide +kernel
theorem dX12_calms_17 : decode cX12_calms 17 = .ok (.ifCond .eq 15, 3) := by decide +kernel
theorem dX12_calms_20 : decode cX12_calms 20 = .ok (.iload_n 3, 1) := by decide +kernel
theorem dX12_calms_21 : decode cX12_calms 21 = .ok (.i2l, 1) := by decide +kernel
theorem dX12_calms_22 : decode cX12_calms 22 = .ok (.lconst 0, 1) := by decide +kernel
theorem dX12_calms_23 : decode cX12_calms 23 = .ok (.ldc2_w 254, 3) := by decide +kernel
theorem dX12_calms_26 : decode cX12_calms 26 = .ok (.invokestatic 55, 3) := by decide +kernel
theorem dX12_calms_29 : decode cX12_calms 29 = .ok (.ifCond .ne 8, 3) := by decide +kernel
theorem dX12_calms_32 : decode cX12_calms 32 = .ok (.aload_n 0, 1) := by decide +kernel
theorem dX12_calms_33 : decode cX12_calms 33 = .ok (.invokevirtual 101, 3) := by decide +kernel
theorem dX12_calms_36 : decode cX12_calms 36 = .ok (.ireturn, 1) := by decide +kernel
theorem dX12_calms_37 : decode cX12_calms 37 = .ok (.lconst 0, 1) := by decide +kernel
theorem dX12_calms_38 : decode cX12_calms 38 = .ok (.lstore 4, 2) := by decide +kernel
theorem dX12_calms_40 : decode cX12_calms 40 = .ok (.iconst 0, 1) := by decide +kernel
theorem dX12_calms_41 : decode cX12_calms 41 = .ok (.istore 6, 2) := by decide +kernel
theorem dX12_calms_43 : decode cX12_calms 43 = .ok (.iload 6, 2) := by decide +kernel
theorem dX12_calms_45 : decode cX12_calms 45 = .ok (.iload_n 2, 1) := by decide +kernel
theorem dX12_calms_46 : decode cX12_calms 46 = .ok (.if_icmp .ge 46, 3) := by decide +kernel
theorem dX12_calms_49 : decode cX12_calms 49 = .ok (.aload_n 0, 1) := by decide +kernel
theorem dX12_calms_50 : decode cX12_calms 50 = .ok (.aload_n 0, 1) := by decide +kernel
theorem dX12_calms_51 : decode cX12_calms 51 = .ok (.getfield 7, 3) := by decide +kernel
theorem dX12_calms_54 : decode cX12_calms 54 = .ok (.aload_n 0, 1) := by decide +kernel
theorem dX12_calms_55 : decode cX12_calms 55 = .ok (.getfield 7, 3) := by decide +kernel
theorem dX12_calms_58 : decode cX12_calms 58 = .ok (.bipush 66, 2) := by decide +kernel
theorem dX12_calms_60 : decode cX12_calms 60 = .ok (.iaload, 1) := by decide +kernel
theorem dX12_calms_61 : decode cX12_calms 61 = .ok (.iload 6, 2) := by decide +kernel
theorem dX12_calms_63 : decode cX12_calms 63 = .ok (.iadd, 1) := by decide +kernel
theorem dX12_calms_64 : decode cX12_calms 64 = .ok (.aload_n 0, 1) := by decide +kernel
theorem dX12_calms_65 : decode cX12_calms 65 = .ok (.getfield 7, 3) := by decide +kernel
theorem dX12_calms_68 : decode cX12_calms 68 = .ok (.invokestatic 82, 3) := by decide +kernel
theorem dX12_calms_71 : decode cX12_calms 71 = .ok (.invokevirtual 78, 3) := by decide +kernel
theorem dX12_calms_74 : decode cX12_calms 74 = .ok (.lload 4, 2) := by decide +kernel
theorem dX12_calms_76 : decode cX12_calms 76 = .ok (.aload_n 0, 1) := by decide +kernel
theorem dX12_calms_77 : decode cX12_calms 77 = .ok (.getfield 30, 3) := by decide +kernel
theorem dX12_calms_80 : decode cX12_calms 80 = .ok (.iload_n 1, 1) := by decide +kernel
theorem dX12_calms_81 : decode cX12_calms 81 = .ok (.iaload, 1) := by decide +kernel
theorem dX12_calms_82 : decode cX12_calms 82 = .ok (.i2l, 1) := by decide +kernel
theorem dX12_calms_83 : decode cX12_calms 83 = .ok (.ladd, 1) := by decide +kernel
theorem dX12_calms_84 : decode cX12_calms 84 = .ok (.lstore 4, 2) := by decide +kernel
theorem dX12_calms_86 : decode cX12_calms 86 = .ok (.iinc 6 1, 3) := by decide +kernel
theorem dX12_calms_89 : decode cX12_calms 89 = .ok (.goto (-46), 3) := by decide +kernel
theorem dX12_calms_92 : decode cX12_calms 92 = .ok (.aload_n 0, 1) := by decide +kernel
theorem dX12_calms_93 : decode cX12_calms 93 = .ok (.lload 4, 2) := by decide +kernel
theorem dX12_calms_95 : decode cX12_calms 95 = .ok (.bipush 10, 2) := by decide +kernel
theorem dX12_calms_97 : decode cX12_calms 97 = .ok (.iload_n 3, 1) := by decide +kernel
theorem dX12_calms_98 : decode cX12_calms 98 = .ok (.isub, 1) := by decide +kernel
theorem dX12_calms_99 : decode cX12_calms 99 = .ok (.i2l, 1) := by decide +kernel
theorem dX12_calms_100 : decode cX12_calms 100 = .ok (.lmul, 1) := by decide +kernel
theorem dX12_calms_101 : decode cX12_calms 101 = .ok (.ldc2_w 254, 3) := by decide +kernel
theorem dX12_calms_104 : decode cX12_calms 104 = .ok (.invokevirtual 224, 3) := by decide +kernel
theorem dX12_calms_107 : decode cX12_calms 107 = .ok (.ireturn, 1) := by decide +kernel
theorem dX12_years_0 : decode cX12_years 0 = .ok (.iload_n 1, 1) := by decide +kernel
theorem dX12_years_1 : decode cX12_years 1 = .ok (.i2l, 1) := by decide +kernel
theorem dX12_years_2 : decode cX12_years 2 = .ok (.lconst 0, 1) := by decide +kernel
theorem dX12_years_3 : decode cX12_years 3 = .ok (.ldc2_w 256, 3) := by decide +kernel
theorem dX12_years_6 : decode cX12_years 6 = .ok (.invokestatic 55, 3) := by decide +kernel
theorem dX12_years_9 : decode cX12_years 9 = .ok (.ifCond .eq 15, 3) := by decide +kernel
theorem dX12_years_12 : decode cX12_years 12 = .ok (.iload_n 2, 1) := by decide +kernel
theorem dX12_years_13 : decode cX12_years 13 = .ok (.i2l, 1) := by decide +kernel
theorem dX12_years_14 : decode cX12_years 14 = .ok (.lconst 0, 1) := by decide +kernel
theorem dX12_years_15 : decode cX12_years 15 = .ok (.ldc2_w 258, 3) := by decide +kernel
theorem dX12_years_18 : decode cX12_years 18 = .ok (.invokestatic 55, 3) := by decide +kernel
theorem dX12_years_21 : decode cX12_years 21 = .ok (.ifCond .ne 8, 3) := by decide +kernel
theorem dX12_years_24 : decode cX12_years 24 = .ok (.aload_n 0, 1) := by decide +kernel
theorem dX12_years_25 : decode cX12_years 25 = .ok (.invokevirtual 101, 3) := by decide +kernel
theorem dX12_years_28 : decode cX12_years 28 = .ok (.ireturn, 1) := by decide +kernel
theorem dX12_years_29 : decode cX12_years 29 = .ok (.iload_n 1, 1) := by decide +kernel
theorem dX12_years_30 : decode cX12_years 30 = .ok (.i2l, 1) := by decide +kernel
theorem dX12_years_31 : decode cX12_years 31 = .ok (.lstore_n 3, 1) := by decide +kernel
theorem dX12_years_32 : decode cX12_years 32 = .ok (.iconst 0, 1) := by decide +kernel
theorem dX12_years_33 : decode cX12_years 33 = .ok (.istore 5, 2) := by decide +kernel
theorem dX12_years_35 : decode cX12_years 35 = .ok (.iconst 0, 1) := by decide +kernel
theorem dX12_years_36 : decode cX12_years 36 = .ok (.istore 6, 2) := by decide +kernel
theorem dX12_years_38 : decode cX12_years 38 = .ok (.iload 6, 2) := by decide +kernel
theorem dX12_years_40 : decode cX12_years 40 = .ok (.iload_n 2, 1) := by decide +kernel
theorem dX12_years_41 : decode cX12_years 41 = .ok (.if_icmp .ge 104, 3) := by decide +kernel
theorem dX12_years_44 : decode cX12_years 44 = .ok (.lload_n 3, 1) := by decide +kernel
theorem dX12_years_45 : decode cX12_years 45 = .ok (.ldc2_w 260, 3) := by decide +kernel
theorem dX12_years_48 : decode cX12_years 48 = .ok (.lmul, 1) := by decide +kernel
theorem dX12_years_49 : decode cX12_years 49 = .ok (.ldc2_w 262, 3) := by decide +kernel
theorem dX12_years_52 : decode cX12_years 52 = .ok (.ladd, 1) := by decide +kernel
theorem dX12_years_53 : decode cX12_years 53 = .ok (.ldc2_w 264, 3) := by decide +kernel
theorem dX12_years_56 : decode cX12_years 56 = .ok (.lrem, 1) := by decide +kernel
theorem dX12_years_57 : decode cX12_years 57 = .ok (.lstore_n 3, 1) := by decide +kernel
theorem dX12_years_58 : decode cX12_years 58 = .ok (.aload_n 0, 1) := by decide +kernel
theorem dX12_years_59 : decode cX12_years 59 = .ok (.aload_n 0, 1) := by decide +kernel
theorem dX12_years_60 : decode cX12_years 60 = .ok (.getfield 7, 3) := by decide +kernel
theorem dX12_years_63 : decode cX12_years 63 = .ok (.lload_n 3, 1) := by decide +kernel
theorem dX12_years_64 : decode cX12_years 64 = .ok (.ldc2_w 266, 3) := by decide +kernel
theorem dX12_years_67 : decode cX12_years 67 = .ok (.ldiv, 1) := by decide +kernel
theorem dX12_years_68 : decode cX12_years 68 = .ok (.ldc2_w 268, 3) := by decide +kernel
theorem dX12_years_71 : decode cX12_years 71 = .ok (.lrem, 1) := by decide +kernel
theorem dX12_years_72 : decode cX12_years 72 = .ok (.l2i, 1) := by decide +kernel
theorem dX12_years_73 : decode cX12_years 73 = .ok (.lload_n 3, 1) := by decide +kernel
theorem dX12_years_74 : decode cX12_years 74 = .ok (.ldc2_w 270, 3) := by decide +kernel
theorem dX12_years_77 : decode cX12_years 77 = .ok (.ldiv, 1) := by decide +kernel
theorem dX12_years_78 : decode cX12_years 78 = .ok (.ldc2_w 234, 3) := by decide +kernel
theorem dX12_years_81 : decode cX12_years 81 = .ok (.lrem, 1) := by decide +kernel
theorem dX12_years_82 : decode cX12_years 82 = .ok (.l2i, 1) := by decide +kernel
theorem dX12_years_83 : decode cX12_years 83 = .ok (.aload_n 0, 1) := by decide +kernel
theorem dX12_years_84 : decode cX12_years 84 = .ok (.getfield 7, 3) := by decide +kernel
theorem dX12_years_87 : decode cX12_years 87 = .ok (.invokestatic 82, 3) := by decide +kernel
theorem dX12_years_90 : decode cX12_years 90 = .ok (.invokevirtual 74, 3) := by decide +kernel
theorem dX12_years_93 : decode cX12_years 93 = .ok (.iconst 0, 1) := by decide +kernel
theorem dX12_years_94 : decode cX12_years 94 = .ok (.istore 7, 2) := by decide +kernel
theorem dX12_years_96 : decode cX12_years 96 = .ok (.iload 7, 2) := by decide +kernel
theorem dX12_years_98 : decode cX12_years 98 = .ok (.aload_n 0, 1) := by decide +kernel
theorem dX12_years_99 : decode cX12_years 99 = .ok (.getfield 7, 3) := by decide +kernel
theorem dX12_years_102 : decode cX12_years 102 = .ok (.bipush 16, 2) := by decide +kernel
theorem dX12_years_104 : decode cX12_years 104 = .ok (.iaload, 1) := by decide +kernel
theorem dX12_years_105 : decode cX12_years 105 = .ok (.if_icmp .ge 34, 3) := by decide +kernel
theorem dX12_years_108 : decode cX12_years 108 = .ok (.iload 5, 2) := by decide +kernel
theorem dX12_years_110 : decode cX12_years 110 = .ok (.aload_n 0, 1) := by decide +kernel
theorem dX12_years_111 : decode cX12_years 111 = .ok (.getfield 7, 3) := by decide +kernel
theorem dX12_years_114 : decode cX12_years 114 = .ok (.iload 7, 2) := by decide +kernel
theorem dX12_years_116 : decode cX12_years 116 = .ok (.iconst 0, 1) := by decide +kernel
theorem dX12_years_117 : decode cX12_years 117 = .ok (.invokestatic 66, 3) := by decide +kernel
theorem dX12_years_120 : decode cX12_years 120 = .ok (.aload_n 0, 1) := by decide +kernel
theorem dX12_years_121 : decode cX12_years 121 = .ok (.getfield 30, 3) := by decide +kernel
theorem dX12_years_124 : decode cX12_years 124 = .ok (.iload 7, 2) := by decide +kernel
theorem dX12_years_126 : decode cX12_years 126 = .ok (.iaload, 1) := by decide +kernel
theorem dX12_years_127 : decode cX12_years 127 = .ok (.invokestatic 86, 3) := by decide +kernel
theorem dX12_years_130 : decode cX12_years 130 = .ok (.iadd, 1) := by decide +kernel
theorem dX12_years_131 : decode cX12_years 131 = .ok (.istore 5, 2) := by decide +kernel
theorem dX12_years_133 : decode cX12_years 133 = .ok (.iinc 7 1, 3) := by decide +kernel
theorem dX12_years_136 : decode cX12_years 136 = .ok (.goto (-40), 3) := by decide +kernel
theorem dX12_years_139 : decode cX12_years 139 = .ok (.iinc 6 1, 3) := by decide +kernel
theorem dX12_years_142 : decode cX12_years 142 = .ok (.goto (-104), 3) := by decide +kernel
theorem dX12_years_145 : decode cX12_years 145 = .ok (.iload 5, 2) := by decide +kernel
theorem dX12_years_147 : decode cX12_years 147 = .ok (.ireturn, 1) := by decide +kernel
theorem dX12_part_0 : decode cX12_part 0 = .ok (.iload_n 1, 1) := by decide +kernel
theorem dX12_part_1 : decode cX12_part 1 = .ok (.i2l, 1) := by decide +kernel
theorem dX12_part_2 : decode cX12_part 2 = .ok (.lconst 0, 1) := by decide +kernel
theorem dX12_part_3 : decode cX12_part 3 = .ok (.lconst 1, 1) := by decide +kernel
theorem dX12_part_4 : decode cX12_part 4 = .ok (.invokestatic 55, 3) := by decide +kernel
theorem dX12_part_7 : decode cX12_part 7 = .ok (.ifCond .eq 21, 3) := by decide +kernel
theorem dX12_part_10 : decode cX12_part 10 = .ok (.iload_n 1, 1) := by decide +kernel
theorem dX12_part_11 : decode cX12_part 11 = .ok (.ifCond .ne 10, 3) := by decide +kernel
theorem dX12_part_14 : decode cX12_part 14 = .ok (.aload_n 0, 1) := by decide +kernel
theorem dX12_part_15 : decode cX12_part 15 = .ok (.getfield 59, 3) := by decide +kernel
theorem dX12_part_18 : decode cX12_part 18 = .ok (.goto 15, 3) := by decide +kernel
theorem dX12_part_21 : decode cX12_part 21 = .ok (.aload_n 0, 1) := by decide +kernel
theorem dX12_part_22 : decode cX12_part 22 = .ok (.getfield 23, 3) := by decide +kernel
theorem dX12_part_25 : decode cX12_part 25 = .ok (.goto 8, 3) := by decide +kernel
theorem dX12_part_28 : decode cX12_part 28 = .ok (.aload_n 0, 1) := by decide +kernel
theorem dX12_part_29 : decode cX12_part 29 = .ok (.invokevirtual 101, 3) := by decide +kernel
theorem dX12_part_32 : decode cX12_part 32 = .ok (.i2l, 1) := by decide +kernel
theorem dX12_part_33 : decode cX12_part 33 = .ok (.lreturn, 1) := by decide +kernel
theorem dX12_image_0 : decode cX12_image 0 = .ok (.iload_n 1, 1) := by decide +kernel
theorem dX12_image_1 : decode cX12_image 1 = .ok (.i2l, 1) := by decide +kernel
theorem dX12_image_2 : decode cX12_image 2 = .ok (.lconst 0, 1) := by decide +kernel
theorem dX12_image_3 : decode cX12_image 3 = .ok (.lconst 1, 1) := by decide +kernel
theorem dX12_image_4 : decode cX12_image 4 = .ok (.invokestatic 55, 3) := by decide +kernel
theorem dX12_image_7 : decode cX12_image 7 = .ok (.ifCond .ne 8, 3) := by decide +kernel
theorem dX12_image_10 : decode cX12_image 10 = .ok (.aload_n 0, 1) := by decide +kernel
theorem dX12_image_11 : decode cX12_image 11 = .ok (.invokevirtual 101, 3) := by decide +kernel
theorem dX12_image_14 : decode cX12_image 14 = .ok (.ireturn, 1) := by decide +kernel
theorem dX12_image_15 : decode cX12_image 15 = .ok (.iconst 0, 1) := by decide +kernel
theorem dX12_image_16 : decode cX12_image 16 = .ok (.istore_n 2, 1) := by decide +kernel
theorem dX12_image_17 : decode cX12_image 17 = .ok (.iload_n 2, 1) := by decide +kernel
theorem dX12_image_18 : decode cX12_image 18 = .ok (.sipush 378, 3) := by decide +kernel
theorem dX12_image_21 : decode cX12_image 21 = .ok (.if_icmp .ge 27, 3) := by decide +kernel
theorem dX12_image_24 : decode cX12_image 24 = .ok (.aload_n 0, 1) := by decide +kernel
theorem dX12_image_25 : decode cX12_image 25 = .ok (.getfield 16, 3) := by decide +kernel
theorem dX12_image_28 : decode cX12_image 28 = .ok (.sipush 378, 3) := by decide +kernel
theorem dX12_image_31 : decode cX12_image 31 = .ok (.iload_n 1, 1) := by decide +kernel
theorem dX12_image_32 : decode cX12_image 32 = .ok (.imul, 1) := by decide +kernel
theorem dX12_image_33 : decode cX12_image 33 = .ok (.iload_n 2, 1) := by decide +kernel
theorem dX12_image_34 : decode cX12_image 34 = .ok (.iadd, 1) := by decide +kernel
theorem dX12_image_35 : decode cX12_image 35 = .ok (.aload_n 0, 1) := by decide +kernel
theorem dX12_image_36 : decode cX12_image 36 = .ok (.getfield 7, 3) := by decide +kernel
theorem dX12_image_39 : decode cX12_image 39 = .ok (.iload_n 2, 1) := by decide +kernel
theorem dX12_image_40 : decode cX12_image 40 = .ok (.iaload, 1) := by decide +kernel
theorem dX12_image_41 : decode cX12_image 41 = .ok (.iastore, 1) := by decide +kernel
theorem dX12_image_42 : decode cX12_image 42 = .ok (.iinc 2 1, 3) := by decide +kernel
theorem dX12_image_45 : decode cX12_image 45 = .ok (.goto (-28), 3) := by decide +kernel
theorem dX12_image_48 : decode cX12_image 48 = .ok (.aload_n 0, 1) := by decide +kernel
theorem dX12_image_49 : decode cX12_image 49 = .ok (.getfield 19, 3) := by decide +kernel
theorem dX12_image_52 : decode cX12_image 52 = .ok (.iload_n 1, 1) := by decide +kernel
theorem dX12_image_53 : decode cX12_image 53 = .ok (.iconst 1, 1) := by decide +kernel
theorem dX12_image_54 : decode cX12_image 54 = .ok (.bastore, 1) := by decide +kernel
theorem dX12_image_55 : decode cX12_image 55 = .ok (.iconst 1, 1) := by decide +kernel
theorem dX12_image_56 : decode cX12_image 56 = .ok (.ireturn, 1) := by decide +kernel
theorem dX12_from_0 : decode cX12_from 0 = .ok (.iload_n 1, 1) := by decide +kernel
theorem dX12_from_1 : decode cX12_from 1 = .ok (.i2l, 1) := by decide +kernel
theorem dX12_from_2 : decode cX12_from 2 = .ok (.lconst 0, 1) := by decide +kernel
theorem dX12_from_3 : decode cX12_from 3 = .ok (.lconst 1, 1) := by decide +kernel
theorem dX12_from_4 : decode cX12_from 4 = .ok (.invokestatic 55, 3) := by decide +kernel
theorem dX12_from_7 : decode cX12_from 7 = .ok (.ifCond .ne 8, 3) := by decide +kernel
theorem dX12_from_10 : decode cX12_from 10 = .ok (.aload_n 0, 1) := by decide +kernel
theorem dX12_from_11 : decode cX12_from 11 = .ok (.invokevirtual 101, 3) := by decide +kernel
theorem dX12_from_14 : decode cX12_from 14 = .ok (.ireturn, 1) := by decide +kernel
theorem dX12_from_15 : decode cX12_from 15 = .ok (.aload_n 0, 1) := by decide +kernel
theorem dX12_from_16 : decode cX12_from 16 = .ok (.getfield 19, 3) := by decide +kernel
theorem dX12_from_19 : decode cX12_from 19 = .ok (.iload_n 1, 1) := by decide +kernel
theorem dX12_from_20 : decode cX12_from 20 = .ok (.baload, 1) := by decide +kernel
theorem dX12_from_21 : decode cX12_from 21 = .ok (.ifCond .ne 8, 3) := by decide +kernel
theorem dX12_from_24 : decode cX12_from 24 = .ok (.aload_n 0, 1) := by decide +kernel
theorem dX12_from_25 : decode cX12_from 25 = .ok (.invokevirtual 177, 3) := by decide +kernel
theorem dX12_from_28 : decode cX12_from 28 = .ok (.ireturn, 1) := by decide +kernel
theorem dX12_from_29 : decode cX12_from 29 = .ok (.iconst 0, 1) := by decide +kernel
theorem dX12_from_30 : decode cX12_from 30 = .ok (.istore_n 2, 1) := by decide +kernel
theorem dX12_from_31 : decode cX12_from 31 = .ok (.iload_n 2, 1) := by decide +kernel
theorem dX12_from_32 : decode cX12_from 32 = .ok (.sipush 378, 3) := by decide +kernel
theorem dX12_from_35 : decode cX12_from 35 = .ok (.if_icmp .ge 27, 3) := by decide +kernel
theorem dX12_from_38 : decode cX12_from 38 = .ok (.aload_n 0, 1) := by decide +kernel
theorem dX12_from_39 : decode cX12_from 39 = .ok (.getfield 7, 3) := by decide +kernel
theorem dX12_from_42 : decode cX12_from 42 = .ok (.iload_n 2, 1) := by decide +kernel
theorem dX12_from_43 : decode cX12_from 43 = .ok (.aload_n 0, 1) := by decide +kernel
theorem dX12_from_44 : decode cX12_from 44 = .ok (.getfield 16, 3) := by decide +kernel
theorem dX12_from_47 : decode cX12_from 47 = .ok (.sipush 378, 3) := by decide +kernel
theorem dX12_from_50 : decode cX12_from 50 = .ok (.iload_n 1, 1) := by decide +kernel
theorem dX12_from_51 : decode cX12_from 51 = .ok (.imul, 1) := by decide +kernel
theorem dX12_from_52 : decode cX12_from 52 = .ok (.iload_n 2, 1) := by decide +kernel
theorem dX12_from_53 : decode cX12_from 53 = .ok (.iadd, 1) := by decide +kernel
theorem dX12_from_54 : decode cX12_from 54 = .ok (.iaload, 1) := by decide +kernel
theorem dX12_from_55 : decode cX12_from 55 = .ok (.iastore, 1) := by decide +kernel
theorem dX12_from_56 : decode cX12_from 56 = .ok (.iinc 2 1, 3) := by decide +kernel
theorem dX12_from_59 : decode cX12_from 59 = .ok (.goto (-28), 3) := by decide +kernel
theorem dX12_from_62 : decode cX12_from 62 = .ok (.iconst 1, 1) := by decide +kernel
theorem dX12_from_63 : decode cX12_from 63 = .ok (.ireturn, 1) := by decide +kernel
theorem dX12_status_0 : decode cX12_status 0 = .ok (.iload_n 1, 1) := by decide +kernel
theorem dX12_status_1 : decode cX12_status 1 = .ok (.i2l, 1) := by decide +kernel
theorem dX12_status_2 : decode cX12_status 2 = .ok (.lconst 0, 1) := by decide +kernel
theorem dX12_status_3 : decode cX12_status 3 = .ok (.ldc2_w 234, 3) := by decide +kernel
theorem dX12_status_6 : decode cX12_status 6 = .ok (.invokestatic 55, 3) := by decide +kernel
theorem dX12_status_9 : decode cX12_status 9 = .ok (.ifCond .ne 15, 3) := by decide +kernel
theorem dX12_status_12 : decode cX12_status 12 = .ok (.aload_n 0, 1) := by decide +kernel
theorem dX12_status_13 : decode cX12_status 13 = .ok (.getfield 27, 3) := by decide +kernel
theorem dX12_status_16 : decode cX12_status 16 = .ok (.iconst 0, 1) := by decide +kernel
theorem dX12_status_17 : decode cX12_status 17 = .ok (.dup2, 1) := by decide +kernel
theorem dX12_status_18 : decode cX12_status 18 = .ok (.iaload, 1) := by decide +kernel
theorem dX12_status_19 : decode cX12_status 19 = .ok (.iconst 1, 1) := by decide +kernel
theorem dX12_status_20 : decode cX12_status 20 = .ok (.iadd, 1) := by decide +kernel
theorem dX12_status_21 : decode cX12_status 21 = .ok (.iastore, 1) := by decide +kernel
theorem dX12_status_22 : decode cX12_status 22 = .ok (.iconst (-1), 1) := by decide +kernel
theorem dX12_status_23 : decode cX12_status 23 = .ok (.ireturn, 1) := by decide +kernel
theorem dX12_status_24 : decode cX12_status 24 = .ok (.aload_n 0, 1) := by decide +kernel
theorem dX12_status_25 : decode cX12_status 25 = .ok (.getfield 27, 3) := by decide +kernel
theorem dX12_status_28 : decode cX12_status 28 = .ok (.iload_n 1, 1) := by decide +kernel
theorem dX12_status_29 : decode cX12_status 29 = .ok (.iaload, 1) := by decide +kernel
theorem dX12_status_30 : decode cX12_status 30 = .ok (.ireturn, 1) := by decide +kernel
theorem dX12_counted_0 : decode cX12_counted 0 = .ok (.iconst 0, 1) := by decide +kernel
theorem dX12_counted_1 : decode cX12_counted 1 = .ok (.istore_n 2, 1) := by decide +kernel
theorem dX12_counted_2 : decode cX12_counted 2 = .ok (.iconst 0, 1) := by decide +kernel
theorem dX12_counted_3 : decode cX12_counted 3 = .ok (.istore_n 3, 1) := by decide +kernel
theorem dX12_counted_4 : decode cX12_counted 4 = .ok (.iload_n 3, 1) := by decide +kernel
theorem dX12_counted_5 : decode cX12_counted 5 = .ok (.aload_n 0, 1) := by decide +kernel
theorem dX12_counted_6 : decode cX12_counted 6 = .ok (.getfield 7, 3) := by decide +kernel
theorem dX12_counted_9 : decode cX12_counted 9 = .ok (.bipush 16, 2) := by decide +kernel
theorem dX12_counted_11 : decode cX12_counted 11 = .ok (.iaload, 1) := by decide +kernel
theorem dX12_counted_12 : decode cX12_counted 12 = .ok (.if_icmp .ge 17, 3) := by decide +kernel
theorem dX12_counted_15 : decode cX12_counted 15 = .ok (.iload_n 2, 1) := by decide +kernel
theorem dX12_counted_16 : decode cX12_counted 16 = .ok (.aload_n 0, 1) := by decide +kernel
theorem dX12_counted_17 : decode cX12_counted 17 = .ok (.iload_n 3, 1) := by decide +kernel
theorem dX12_counted_18 : decode cX12_counted 18 = .ok (.invokevirtual 194, 3) := by decide +kernel
theorem dX12_counted_21 : decode cX12_counted 21 = .ok (.iadd, 1) := by decide +kernel
theorem dX12_counted_22 : decode cX12_counted 22 = .ok (.istore_n 2, 1) := by decide +kernel
theorem dX12_counted_23 : decode cX12_counted 23 = .ok (.iinc 3 1, 3) := by decide +kernel
theorem dX12_counted_26 : decode cX12_counted 26 = .ok (.goto (-22), 3) := by decide +kernel
theorem dX12_counted_29 : decode cX12_counted 29 = .ok (.iload_n 1, 1) := by decide +kernel
theorem dX12_counted_30 : decode cX12_counted 30 = .ok (.tableswitch 117 0 8 #[50, 58, 66, 74, 76, 84, 92, 100, 108], 50) := by decide +kernel
theorem dX12_counted_80 : decode cX12_counted 80 = .ok (.aload_n 0, 1) := by decide +kernel
theorem dX12_counted_81 : decode cX12_counted 81 = .ok (.getfield 7, 3) := by decide +kernel
theorem dX12_counted_84 : decode cX12_counted 84 = .ok (.bipush 16, 2) := by decide +kernel
theorem dX12_counted_86 : decode cX12_counted 86 = .ok (.iaload, 1) := by decide +kernel
theorem dX12_counted_87 : decode cX12_counted 87 = .ok (.ireturn, 1) := by decide +kernel
theorem dX12_counted_88 : decode cX12_counted 88 = .ok (.aload_n 0, 1) := by decide +kernel
theorem dX12_counted_89 : decode cX12_counted 89 = .ok (.getfield 7, 3) := by decide +kernel
theorem dX12_counted_92 : decode cX12_counted 92 = .ok (.bipush 45, 2) := by decide +kernel
theorem dX12_counted_94 : decode cX12_counted 94 = .ok (.iaload, 1) := by decide +kernel
theorem dX12_counted_95 : decode cX12_counted 95 = .ok (.ireturn, 1) := by decide +kernel
theorem dX12_counted_96 : decode cX12_counted 96 = .ok (.aload_n 0, 1) := by decide +kernel
theorem dX12_counted_97 : decode cX12_counted 97 = .ok (.getfield 7, 3) := by decide +kernel
theorem dX12_counted_100 : decode cX12_counted 100 = .ok (.bipush 66, 2) := by decide +kernel
theorem dX12_counted_102 : decode cX12_counted 102 = .ok (.iaload, 1) := by decide +kernel
theorem dX12_counted_103 : decode cX12_counted 103 = .ok (.ireturn, 1) := by decide +kernel
theorem dX12_counted_104 : decode cX12_counted 104 = .ok (.iload_n 2, 1) := by decide +kernel
theorem dX12_counted_105 : decode cX12_counted 105 = .ok (.ireturn, 1) := by decide +kernel
theorem dX12_counted_106 : decode cX12_counted 106 = .ok (.aload_n 0, 1) := by decide +kernel
theorem dX12_counted_107 : decode cX12_counted 107 = .ok (.getfield 7, 3) := by decide +kernel
theorem dX12_counted_110 : decode cX12_counted 110 = .ok (.bipush 67, 2) := by decide +kernel
theorem dX12_counted_112 : decode cX12_counted 112 = .ok (.iaload, 1) := by decide +kernel
theorem dX12_counted_113 : decode cX12_counted 113 = .ok (.ireturn, 1) := by decide +kernel
theorem dX12_counted_114 : decode cX12_counted 114 = .ok (.aload_n 0, 1) := by decide +kernel
theorem dX12_counted_115 : decode cX12_counted 115 = .ok (.getfield 7, 3) := by decide +kernel
theorem dX12_counted_118 : decode cX12_counted 118 = .ok (.bipush 68, 2) := by decide +kernel
theorem dX12_counted_120 : decode cX12_counted 120 = .ok (.iaload, 1) := by decide +kernel
theorem dX12_counted_121 : decode cX12_counted 121 = .ok (.ireturn, 1) := by decide +kernel
theorem dX12_counted_122 : decode cX12_counted 122 = .ok (.aload_n 0, 1) := by decide +kernel
theorem dX12_counted_123 : decode cX12_counted 123 = .ok (.getfield 7, 3) := by decide +kernel
theorem dX12_counted_126 : decode cX12_counted 126 = .ok (.bipush 81, 2) := by decide +kernel
theorem dX12_counted_128 : decode cX12_counted 128 = .ok (.iaload, 1) := by decide +kernel
theorem dX12_counted_129 : decode cX12_counted 129 = .ok (.ireturn, 1) := by decide +kernel
theorem dX12_counted_130 : decode cX12_counted 130 = .ok (.aload_n 0, 1) := by decide +kernel
theorem dX12_counted_131 : decode cX12_counted 131 = .ok (.getfield 7, 3) := by decide +kernel
theorem dX12_counted_134 : decode cX12_counted 134 = .ok (.bipush 112, 2) := by decide +kernel
theorem dX12_counted_136 : decode cX12_counted 136 = .ok (.iaload, 1) := by decide +kernel
theorem dX12_counted_137 : decode cX12_counted 137 = .ok (.ireturn, 1) := by decide +kernel
theorem dX12_counted_138 : decode cX12_counted 138 = .ok (.aload_n 0, 1) := by decide +kernel
theorem dX12_counted_139 : decode cX12_counted 139 = .ok (.getfield 7, 3) := by decide +kernel
theorem dX12_counted_142 : decode cX12_counted 142 = .ok (.sipush 137, 3) := by decide +kernel
theorem dX12_counted_145 : decode cX12_counted 145 = .ok (.iaload, 1) := by decide +kernel
theorem dX12_counted_146 : decode cX12_counted 146 = .ok (.ireturn, 1) := by decide +kernel
theorem dX12_counted_147 : decode cX12_counted 147 = .ok (.aload_n 0, 1) := by decide +kernel
theorem dX12_counted_148 : decode cX12_counted 148 = .ok (.getfield 119, 3) := by decide +kernel
theorem dX12_counted_151 : decode cX12_counted 151 = .ok (.ireturn, 1) := by decide +kernel
theorem dX12_count_0 : decode cX12_count 0 = .ok (.iload_n 1, 1) := by decide +kernel
theorem dX12_count_1 : decode cX12_count 1 = .ok (.i2l, 1) := by decide +kernel
theorem dX12_count_2 : decode cX12_count 2 = .ok (.lconst 0, 1) := by decide +kernel
theorem dX12_count_3 : decode cX12_count 3 = .ok (.ldc2_w 272, 3) := by decide +kernel
theorem dX12_count_6 : decode cX12_count 6 = .ok (.invokestatic 55, 3) := by decide +kernel
theorem dX12_count_9 : decode cX12_count 9 = .ok (.ifCond .eq 11, 3) := by decide +kernel
theorem dX12_count_12 : decode cX12_count 12 = .ok (.aload_n 0, 1) := by decide +kernel
theorem dX12_count_13 : decode cX12_count 13 = .ok (.iload_n 1, 1) := by decide +kernel
theorem dX12_count_14 : decode cX12_count 14 = .ok (.invokevirtual 274, 3) := by decide +kernel
theorem dX12_count_17 : decode cX12_count 17 = .ok (.goto 7, 3) := by decide +kernel
theorem dX12_count_20 : decode cX12_count 20 = .ok (.aload_n 0, 1) := by decide +kernel
theorem dX12_count_21 : decode cX12_count 21 = .ok (.invokevirtual 101, 3) := by decide +kernel
theorem dX12_count_24 : decode cX12_count 24 = .ok (.ireturn, 1) := by decide +kernel
theorem dX12_digestOf_0 : decode cX12_digestOf 0 = .ok (.lload_n 1, 1) := by decide +kernel
theorem dX12_digestOf_1 : decode cX12_digestOf 1 = .ok (.lstore 5, 2) := by decide +kernel
theorem dX12_digestOf_3 : decode cX12_digestOf 3 = .ok (.iconst 0, 1) := by decide +kernel
theorem dX12_digestOf_4 : decode cX12_digestOf 4 = .ok (.istore 7, 2) := by decide +kernel
theorem dX12_digestOf_6 : decode cX12_digestOf 6 = .ok (.iload 7, 2) := by decide +kernel
theorem dX12_digestOf_8 : decode cX12_digestOf 8 = .ok (.iload 4, 2) := by decide +kernel
theorem dX12_digestOf_10 : decode cX12_digestOf 10 = .ok (.if_icmp .ge 28, 3) := by decide +kernel
theorem dX12_digestOf_13 : decode cX12_digestOf 13 = .ok (.ldc2_w 277, 3) := by decide +kernel
theorem dX12_digestOf_16 : decode cX12_digestOf 16 = .ok (.lload 5, 2) := by decide +kernel
theorem dX12_digestOf_18 : decode cX12_digestOf 18 = .ok (.lmul, 1) := by decide +kernel
theorem dX12_digestOf_19 : decode cX12_digestOf 19 = .ok (.aload_n 0, 1) := by decide +kernel
theorem dX12_digestOf_20 : decode cX12_digestOf 20 = .ok (.getfield 7, 3) := by decide +kernel
theorem dX12_digestOf_23 : decode cX12_digestOf 23 = .ok (.iload_n 3, 1) := by decide +kernel
theorem dX12_digestOf_24 : decode cX12_digestOf 24 = .ok (.iload 7, 2) := by decide +kernel
theorem dX12_digestOf_26 : decode cX12_digestOf 26 = .ok (.iadd, 1) := by decide +kernel
theorem dX12_digestOf_27 : decode cX12_digestOf 27 = .ok (.iaload, 1) := by decide +kernel
theorem dX12_digestOf_28 : decode cX12_digestOf 28 = .ok (.i2l, 1) := by decide +kernel
theorem dX12_digestOf_29 : decode cX12_digestOf 29 = .ok (.ladd, 1) := by decide +kernel
theorem dX12_digestOf_30 : decode cX12_digestOf 30 = .ok (.lstore 5, 2) := by decide +kernel
theorem dX12_digestOf_32 : decode cX12_digestOf 32 = .ok (.iinc 7 1, 3) := by decide +kernel
theorem dX12_digestOf_35 : decode cX12_digestOf 35 = .ok (.goto (-29), 3) := by decide +kernel
theorem dX12_digestOf_38 : decode cX12_digestOf 38 = .ok (.lload 5, 2) := by decide +kernel
theorem dX12_digestOf_40 : decode cX12_digestOf 40 = .ok (.lreturn, 1) := by decide +kernel
theorem dX12_digest_0 : decode cX12_digest 0 = .ok (.ldc2_w 279, 3) := by decide +kernel
theorem dX12_digest_3 : decode cX12_digest 3 = .ok (.lstore_n 1, 1) := by decide +kernel
theorem dX12_digest_4 : decode cX12_digest 4 = .ok (.iconst 0, 1) := by decide +kernel
theorem dX12_digest_5 : decode cX12_digest 5 = .ok (.istore_n 3, 1) := by decide +kernel
theorem dX12_digest_6 : decode cX12_digest 6 = .ok (.iload_n 3, 1) := by decide +kernel
theorem dX12_digest_7 : decode cX12_digest 7 = .ok (.bipush 10, 2) := by decide +kernel
theorem dX12_digest_9 : decode cX12_digest 9 = .ok (.if_icmp .ge 22, 3) := by decide +kernel
theorem dX12_digest_12 : decode cX12_digest 12 = .ok (.ldc2_w 277, 3) := by decide +kernel
theorem dX12_digest_15 : decode cX12_digest 15 = .ok (.lload_n 1, 1) := by decide +kernel
theorem dX12_digest_16 : decode cX12_digest 16 = .ok (.lmul, 1) := by decide +kernel
theorem dX12_digest_17 : decode cX12_digest 17 = .ok (.aload_n 0, 1) := by decide +kernel
theorem dX12_digest_18 : decode cX12_digest 18 = .ok (.iload_n 3, 1) := by decide +kernel
theorem dX12_digest_19 : decode cX12_digest 19 = .ok (.invokevirtual 274, 3) := by decide +kernel
theorem dX12_digest_22 : decode cX12_digest 22 = .ok (.i2l, 1) := by decide +kernel
theorem dX12_digest_23 : decode cX12_digest 23 = .ok (.ladd, 1) := by decide +kernel
theorem dX12_digest_24 : decode cX12_digest 24 = .ok (.lstore_n 1, 1) := by decide +kernel
theorem dX12_digest_25 : decode cX12_digest 25 = .ok (.iinc 3 1, 3) := by decide +kernel
theorem dX12_digest_28 : decode cX12_digest 28 = .ok (.goto (-22), 3) := by decide +kernel
theorem dX12_digest_31 : decode cX12_digest 31 = .ok (.aload_n 0, 1) := by decide +kernel
theorem dX12_digest_32 : decode cX12_digest 32 = .ok (.lload_n 1, 1) := by decide +kernel
theorem dX12_digest_33 : decode cX12_digest 33 = .ok (.iconst 0, 1) := by decide +kernel
theorem dX12_digest_34 : decode cX12_digest 34 = .ok (.bipush 16, 2) := by decide +kernel
theorem dX12_digest_36 : decode cX12_digest 36 = .ok (.invokevirtual 281, 3) := by decide +kernel
theorem dX12_digest_39 : decode cX12_digest 39 = .ok (.lstore_n 1, 1) := by decide +kernel
theorem dX12_digest_40 : decode cX12_digest 40 = .ok (.aload_n 0, 1) := by decide +kernel
theorem dX12_digest_41 : decode cX12_digest 41 = .ok (.lload_n 1, 1) := by decide +kernel
theorem dX12_digest_42 : decode cX12_digest 42 = .ok (.bipush 17, 2) := by decide +kernel
theorem dX12_digest_44 : decode cX12_digest 44 = .ok (.iconst 4, 1) := by decide +kernel
theorem dX12_digest_45 : decode cX12_digest 45 = .ok (.aload_n 0, 1) := by decide +kernel
theorem dX12_digest_46 : decode cX12_digest 46 = .ok (.getfield 7, 3) := by decide +kernel
theorem dX12_digest_49 : decode cX12_digest 49 = .ok (.bipush 16, 2) := by decide +kernel
theorem dX12_digest_51 : decode cX12_digest 51 = .ok (.iaload, 1) := by decide +kernel
theorem dX12_digest_52 : decode cX12_digest 52 = .ok (.imul, 1) := by decide +kernel
theorem dX12_digest_53 : decode cX12_digest 53 = .ok (.invokevirtual 281, 3) := by decide +kernel
theorem dX12_digest_56 : decode cX12_digest 56 = .ok (.lstore_n 1, 1) := by decide +kernel
theorem dX12_digest_57 : decode cX12_digest 57 = .ok (.aload_n 0, 1) := by decide +kernel
theorem dX12_digest_58 : decode cX12_digest 58 = .ok (.lload_n 1, 1) := by decide +kernel
theorem dX12_digest_59 : decode cX12_digest 59 = .ok (.bipush 46, 2) := by decide +kernel
theorem dX12_digest_61 : decode cX12_digest 61 = .ok (.iconst 4, 1) := by decide +kernel
theorem dX12_digest_62 : decode cX12_digest 62 = .ok (.aload_n 0, 1) := by decide +kernel
theorem dX12_digest_63 : decode cX12_digest 63 = .ok (.getfield 7, 3) := by decide +kernel
theorem dX12_digest_66 : decode cX12_digest 66 = .ok (.bipush 45, 2) := by decide +kernel
theorem dX12_digest_68 : decode cX12_digest 68 = .ok (.iaload, 1) := by decide +kernel
theorem dX12_digest_69 : decode cX12_digest 69 = .ok (.imul, 1) := by decide +kernel
theorem dX12_digest_70 : decode cX12_digest 70 = .ok (.invokevirtual 281, 3) := by decide +kernel
theorem dX12_digest_73 : decode cX12_digest 73 = .ok (.lstore_n 1, 1) := by decide +kernel
theorem dX12_digest_74 : decode cX12_digest 74 = .ok (.aload_n 0, 1) := by decide +kernel
theorem dX12_digest_75 : decode cX12_digest 75 = .ok (.lload_n 1, 1) := by decide +kernel
theorem dX12_digest_76 : decode cX12_digest 76 = .ok (.bipush 69, 2) := by decide +kernel
theorem dX12_digest_78 : decode cX12_digest 78 = .ok (.iconst 3, 1) := by decide +kernel
theorem dX12_digest_79 : decode cX12_digest 79 = .ok (.aload_n 0, 1) := by decide +kernel
theorem dX12_digest_80 : decode cX12_digest 80 = .ok (.getfield 7, 3) := by decide +kernel
theorem dX12_digest_83 : decode cX12_digest 83 = .ok (.bipush 68, 2) := by decide +kernel
theorem dX12_digest_85 : decode cX12_digest 85 = .ok (.iaload, 1) := by decide +kernel
theorem dX12_digest_86 : decode cX12_digest 86 = .ok (.imul, 1) := by decide +kernel
theorem dX12_digest_87 : decode cX12_digest 87 = .ok (.invokevirtual 281, 3) := by decide +kernel
theorem dX12_digest_90 : decode cX12_digest 90 = .ok (.lstore_n 1, 1) := by decide +kernel
theorem dX12_digest_91 : decode cX12_digest 91 = .ok (.aload_n 0, 1) := by decide +kernel
theorem dX12_digest_92 : decode cX12_digest 92 = .ok (.lload_n 1, 1) := by decide +kernel
theorem dX12_digest_93 : decode cX12_digest 93 = .ok (.bipush 82, 2) := by decide +kernel
theorem dX12_digest_95 : decode cX12_digest 95 = .ok (.iconst 5, 1) := by decide +kernel
theorem dX12_digest_96 : decode cX12_digest 96 = .ok (.aload_n 0, 1) := by decide +kernel
theorem dX12_digest_97 : decode cX12_digest 97 = .ok (.getfield 7, 3) := by decide +kernel
theorem dX12_digest_100 : decode cX12_digest 100 = .ok (.bipush 81, 2) := by decide +kernel
theorem dX12_digest_102 : decode cX12_digest 102 = .ok (.iaload, 1) := by decide +kernel
theorem dX12_digest_103 : decode cX12_digest 103 = .ok (.imul, 1) := by decide +kernel
theorem dX12_digest_104 : decode cX12_digest 104 = .ok (.invokevirtual 281, 3) := by decide +kernel
theorem dX12_digest_107 : decode cX12_digest 107 = .ok (.lstore_n 1, 1) := by decide +kernel
theorem dX12_digest_108 : decode cX12_digest 108 = .ok (.aload_n 0, 1) := by decide +kernel
theorem dX12_digest_109 : decode cX12_digest 109 = .ok (.lload_n 1, 1) := by decide +kernel
theorem dX12_digest_110 : decode cX12_digest 110 = .ok (.bipush 113, 2) := by decide +kernel
theorem dX12_digest_112 : decode cX12_digest 112 = .ok (.iconst 4, 1) := by decide +kernel
theorem dX12_digest_113 : decode cX12_digest 113 = .ok (.aload_n 0, 1) := by decide +kernel
theorem dX12_digest_114 : decode cX12_digest 114 = .ok (.getfield 7, 3) := by decide +kernel
theorem dX12_digest_117 : decode cX12_digest 117 = .ok (.bipush 112, 2) := by decide +kernel
theorem dX12_digest_119 : decode cX12_digest 119 = .ok (.iaload, 1) := by decide +kernel
theorem dX12_digest_120 : decode cX12_digest 120 = .ok (.imul, 1) := by decide +kernel
theorem dX12_digest_121 : decode cX12_digest 121 = .ok (.invokevirtual 281, 3) := by decide +kernel
theorem dX12_digest_124 : decode cX12_digest 124 = .ok (.lstore_n 1, 1) := by decide +kernel
theorem dX12_digest_125 : decode cX12_digest 125 = .ok (.ldc2_w 277, 3) := by decide +kernel
theorem dX12_digest_128 : decode cX12_digest 128 = .ok (.ldc2_w 277, 3) := by decide +kernel
theorem dX12_digest_131 : decode cX12_digest 131 = .ok (.lload_n 1, 1) := by decide +kernel
theorem dX12_digest_132 : decode cX12_digest 132 = .ok (.lmul, 1) := by decide +kernel
theorem dX12_digest_133 : decode cX12_digest 133 = .ok (.aload_n 0, 1) := by decide +kernel
theorem dX12_digest_134 : decode cX12_digest 134 = .ok (.getfield 59, 3) := by decide +kernel
theorem dX12_digest_137 : decode cX12_digest 137 = .ok (.ladd, 1) := by decide +kernel
theorem dX12_digest_138 : decode cX12_digest 138 = .ok (.lmul, 1) := by decide +kernel
theorem dX12_digest_139 : decode cX12_digest 139 = .ok (.aload_n 0, 1) := by decide +kernel
theorem dX12_digest_140 : decode cX12_digest 140 = .ok (.getfield 23, 3) := by decide +kernel
theorem dX12_digest_143 : decode cX12_digest 143 = .ok (.ladd, 1) := by decide +kernel
theorem dX12_digest_144 : decode cX12_digest 144 = .ok (.lreturn, 1) := by decide +kernel
theorem dJ6_bitCount_0f7a4_0 : decode cJ6_bitCount_0f7a4 0 = .ok (.iload_n 0, 1) := by decide +kernel
theorem dJ6_bitCount_0f7a4_1 : decode cJ6_bitCount_0f7a4 1 = .ok (.iload_n 0, 1) := by decide +kernel
theorem dJ6_bitCount_0f7a4_2 : decode cJ6_bitCount_0f7a4 2 = .ok (.iconst 1, 1) := by decide +kernel
theorem dJ6_bitCount_0f7a4_3 : decode cJ6_bitCount_0f7a4 3 = .ok (.iushr, 1) := by decide +kernel
theorem dJ6_bitCount_0f7a4_4 : decode cJ6_bitCount_0f7a4 4 = .ok (.ldc_w 265, 3) := by decide +kernel
theorem dJ6_bitCount_0f7a4_7 : decode cJ6_bitCount_0f7a4 7 = .ok (.iand, 1) := by decide +kernel
theorem dJ6_bitCount_0f7a4_8 : decode cJ6_bitCount_0f7a4 8 = .ok (.isub, 1) := by decide +kernel
theorem dJ6_bitCount_0f7a4_9 : decode cJ6_bitCount_0f7a4 9 = .ok (.istore_n 0, 1) := by decide +kernel
theorem dJ6_bitCount_0f7a4_10 : decode cJ6_bitCount_0f7a4 10 = .ok (.iload_n 0, 1) := by decide +kernel
theorem dJ6_bitCount_0f7a4_11 : decode cJ6_bitCount_0f7a4 11 = .ok (.ldc_w 266, 3) := by decide +kernel
theorem dJ6_bitCount_0f7a4_14 : decode cJ6_bitCount_0f7a4 14 = .ok (.iand, 1) := by decide +kernel
theorem dJ6_bitCount_0f7a4_15 : decode cJ6_bitCount_0f7a4 15 = .ok (.iload_n 0, 1) := by decide +kernel
theorem dJ6_bitCount_0f7a4_16 : decode cJ6_bitCount_0f7a4 16 = .ok (.iconst 2, 1) := by decide +kernel
theorem dJ6_bitCount_0f7a4_17 : decode cJ6_bitCount_0f7a4 17 = .ok (.iushr, 1) := by decide +kernel
theorem dJ6_bitCount_0f7a4_18 : decode cJ6_bitCount_0f7a4 18 = .ok (.ldc_w 266, 3) := by decide +kernel
theorem dJ6_bitCount_0f7a4_21 : decode cJ6_bitCount_0f7a4 21 = .ok (.iand, 1) := by decide +kernel
theorem dJ6_bitCount_0f7a4_22 : decode cJ6_bitCount_0f7a4 22 = .ok (.iadd, 1) := by decide +kernel
theorem dJ6_bitCount_0f7a4_23 : decode cJ6_bitCount_0f7a4 23 = .ok (.istore_n 0, 1) := by decide +kernel
theorem dJ6_bitCount_0f7a4_24 : decode cJ6_bitCount_0f7a4 24 = .ok (.iload_n 0, 1) := by decide +kernel
theorem dJ6_bitCount_0f7a4_25 : decode cJ6_bitCount_0f7a4 25 = .ok (.iload_n 0, 1) := by decide +kernel
theorem dJ6_bitCount_0f7a4_26 : decode cJ6_bitCount_0f7a4 26 = .ok (.iconst 4, 1) := by decide +kernel
theorem dJ6_bitCount_0f7a4_27 : decode cJ6_bitCount_0f7a4 27 = .ok (.iushr, 1) := by decide +kernel
theorem dJ6_bitCount_0f7a4_28 : decode cJ6_bitCount_0f7a4 28 = .ok (.iadd, 1) := by decide +kernel
theorem dJ6_bitCount_0f7a4_29 : decode cJ6_bitCount_0f7a4 29 = .ok (.ldc_w 267, 3) := by decide +kernel
theorem dJ6_bitCount_0f7a4_32 : decode cJ6_bitCount_0f7a4 32 = .ok (.iand, 1) := by decide +kernel
theorem dJ6_bitCount_0f7a4_33 : decode cJ6_bitCount_0f7a4 33 = .ok (.istore_n 0, 1) := by decide +kernel
theorem dJ6_bitCount_0f7a4_34 : decode cJ6_bitCount_0f7a4 34 = .ok (.iload_n 0, 1) := by decide +kernel
theorem dJ6_bitCount_0f7a4_35 : decode cJ6_bitCount_0f7a4 35 = .ok (.iload_n 0, 1) := by decide +kernel
theorem dJ6_bitCount_0f7a4_36 : decode cJ6_bitCount_0f7a4 36 = .ok (.bipush 8, 2) := by decide +kernel
theorem dJ6_bitCount_0f7a4_38 : decode cJ6_bitCount_0f7a4 38 = .ok (.iushr, 1) := by decide +kernel
theorem dJ6_bitCount_0f7a4_39 : decode cJ6_bitCount_0f7a4 39 = .ok (.iadd, 1) := by decide +kernel
theorem dJ6_bitCount_0f7a4_40 : decode cJ6_bitCount_0f7a4 40 = .ok (.istore_n 0, 1) := by decide +kernel
theorem dJ6_bitCount_0f7a4_41 : decode cJ6_bitCount_0f7a4 41 = .ok (.iload_n 0, 1) := by decide +kernel
theorem dJ6_bitCount_0f7a4_42 : decode cJ6_bitCount_0f7a4 42 = .ok (.iload_n 0, 1) := by decide +kernel
theorem dJ6_bitCount_0f7a4_43 : decode cJ6_bitCount_0f7a4 43 = .ok (.bipush 16, 2) := by decide +kernel
theorem dJ6_bitCount_0f7a4_45 : decode cJ6_bitCount_0f7a4 45 = .ok (.iushr, 1) := by decide +kernel
theorem dJ6_bitCount_0f7a4_46 : decode cJ6_bitCount_0f7a4 46 = .ok (.iadd, 1) := by decide +kernel
theorem dJ6_bitCount_0f7a4_47 : decode cJ6_bitCount_0f7a4 47 = .ok (.istore_n 0, 1) := by decide +kernel
theorem dJ6_bitCount_0f7a4_48 : decode cJ6_bitCount_0f7a4 48 = .ok (.iload_n 0, 1) := by decide +kernel
theorem dJ6_bitCount_0f7a4_49 : decode cJ6_bitCount_0f7a4 49 = .ok (.bipush 63, 2) := by decide +kernel
theorem dJ6_bitCount_0f7a4_51 : decode cJ6_bitCount_0f7a4 51 = .ok (.iand, 1) := by decide +kernel
theorem dJ6_bitCount_0f7a4_52 : decode cJ6_bitCount_0f7a4 52 = .ok (.ireturn, 1) := by decide +kernel
theorem dJ9_floorMod_7cf53_0 : decode cJ9_floorMod_7cf53 0 = .ok (.iload_n 0, 1) := by decide +kernel
theorem dJ9_floorMod_7cf53_1 : decode cJ9_floorMod_7cf53 1 = .ok (.iload_n 1, 1) := by decide +kernel
theorem dJ9_floorMod_7cf53_2 : decode cJ9_floorMod_7cf53 2 = .ok (.irem, 1) := by decide +kernel
theorem dJ9_floorMod_7cf53_3 : decode cJ9_floorMod_7cf53 3 = .ok (.istore_n 2, 1) := by decide +kernel
theorem dJ9_floorMod_7cf53_4 : decode cJ9_floorMod_7cf53 4 = .ok (.iload_n 0, 1) := by decide +kernel
theorem dJ9_floorMod_7cf53_5 : decode cJ9_floorMod_7cf53 5 = .ok (.iload_n 1, 1) := by decide +kernel
theorem dJ9_floorMod_7cf53_6 : decode cJ9_floorMod_7cf53 6 = .ok (.ixor, 1) := by decide +kernel
theorem dJ9_floorMod_7cf53_7 : decode cJ9_floorMod_7cf53 7 = .ok (.ifCond .ge 11, 3) := by decide +kernel
theorem dJ9_floorMod_7cf53_10 : decode cJ9_floorMod_7cf53 10 = .ok (.iload_n 2, 1) := by decide +kernel
theorem dJ9_floorMod_7cf53_11 : decode cJ9_floorMod_7cf53 11 = .ok (.ifCond .eq 7, 3) := by decide +kernel
theorem dJ9_floorMod_7cf53_14 : decode cJ9_floorMod_7cf53 14 = .ok (.iload_n 2, 1) := by decide +kernel
theorem dJ9_floorMod_7cf53_15 : decode cJ9_floorMod_7cf53 15 = .ok (.iload_n 1, 1) := by decide +kernel
theorem dJ9_floorMod_7cf53_16 : decode cJ9_floorMod_7cf53 16 = .ok (.iadd, 1) := by decide +kernel
theorem dJ9_floorMod_7cf53_17 : decode cJ9_floorMod_7cf53 17 = .ok (.ireturn, 1) := by decide +kernel
theorem dJ9_floorMod_7cf53_18 : decode cJ9_floorMod_7cf53 18 = .ok (.iload_n 2, 1) := by decide +kernel
theorem dJ9_floorMod_7cf53_19 : decode cJ9_floorMod_7cf53 19 = .ok (.ireturn, 1) := by decide +kernel
theorem dJ9_abs_067f4_0 : decode cJ9_abs_067f4 0 = .ok (.lload_n 0, 1) := by decide +kernel
theorem dJ9_abs_067f4_1 : decode cJ9_abs_067f4 1 = .ok (.lconst 0, 1) := by decide +kernel
theorem dJ9_abs_067f4_2 : decode cJ9_abs_067f4 2 = .ok (.lcmp, 1) := by decide +kernel
theorem dJ9_abs_067f4_3 : decode cJ9_abs_067f4 3 = .ok (.ifCond .ge 8, 3) := by decide +kernel
theorem dJ9_abs_067f4_6 : decode cJ9_abs_067f4 6 = .ok (.lload_n 0, 1) := by decide +kernel
theorem dJ9_abs_067f4_7 : decode cJ9_abs_067f4 7 = .ok (.lneg, 1) := by decide +kernel
theorem dJ9_abs_067f4_8 : decode cJ9_abs_067f4 8 = .ok (.goto 4, 3) := by decide +kernel
theorem dJ9_abs_067f4_11 : decode cJ9_abs_067f4 11 = .ok (.lload_n 0, 1) := by decide +kernel
theorem dJ9_abs_067f4_12 : decode cJ9_abs_067f4 12 = .ok (.lreturn, 1) := by decide +kernel
theorem dJ9_max_7cf53_0 : decode cJ9_max_7cf53 0 = .ok (.iload_n 0, 1) := by decide +kernel
theorem dJ9_max_7cf53_1 : decode cJ9_max_7cf53 1 = .ok (.iload_n 1, 1) := by decide +kernel
theorem dJ9_max_7cf53_2 : decode cJ9_max_7cf53 2 = .ok (.if_icmp .lt 7, 3) := by decide +kernel
theorem dJ9_max_7cf53_5 : decode cJ9_max_7cf53 5 = .ok (.iload_n 0, 1) := by decide +kernel
theorem dJ9_max_7cf53_6 : decode cJ9_max_7cf53 6 = .ok (.goto 4, 3) := by decide +kernel
theorem dJ9_max_7cf53_9 : decode cJ9_max_7cf53 9 = .ok (.iload_n 1, 1) := by decide +kernel
theorem dJ9_max_7cf53_10 : decode cJ9_max_7cf53 10 = .ok (.ireturn, 1) := by decide +kernel
theorem dJ9_min_7cf53_0 : decode cJ9_min_7cf53 0 = .ok (.iload_n 0, 1) := by decide +kernel
theorem dJ9_min_7cf53_1 : decode cJ9_min_7cf53 1 = .ok (.iload_n 1, 1) := by decide +kernel
theorem dJ9_min_7cf53_2 : decode cJ9_min_7cf53 2 = .ok (.if_icmp .gt 7, 3) := by decide +kernel
theorem dJ9_min_7cf53_5 : decode cJ9_min_7cf53 5 = .ok (.iload_n 0, 1) := by decide +kernel
theorem dJ9_min_7cf53_6 : decode cJ9_min_7cf53 6 = .ok (.goto 4, 3) := by decide +kernel
theorem dJ9_min_7cf53_9 : decode cJ9_min_7cf53 9 = .ok (.iload_n 1, 1) := by decide +kernel
theorem dJ9_min_7cf53_10 : decode cJ9_min_7cf53 10 = .ok (.ireturn, 1) := by decide +kernel
theorem dJ0_length_8abf5_0 : decode cJ0_length_8abf5 0 = .ok (.aload_n 0, 1) := by decide +kernel
theorem dJ0_length_8abf5_1 : decode cJ0_length_8abf5 1 = .ok (.getfield 9, 3) := by decide +kernel
theorem dJ0_length_8abf5_4 : decode cJ0_length_8abf5 4 = .ok (.arraylength, 1) := by decide +kernel
theorem dJ0_length_8abf5_5 : decode cJ0_length_8abf5 5 = .ok (.aload_n 0, 1) := by decide +kernel
theorem dJ0_length_8abf5_6 : decode cJ0_length_8abf5 6 = .ok (.invokevirtual 335, 3) := by decide +kernel
theorem dJ0_length_8abf5_9 : decode cJ0_length_8abf5 9 = .ok (.ishr, 1) := by decide +kernel
theorem dJ0_length_8abf5_10 : decode cJ0_length_8abf5 10 = .ok (.ireturn, 1) := by decide +kernel
theorem dJ0_charAt_5068e_0 : decode cJ0_charAt_5068e 0 = .ok (.aload_n 0, 1) := by decide +kernel
theorem dJ0_charAt_5068e_1 : decode cJ0_charAt_5068e 1 = .ok (.invokevirtual 492, 3) := by decide +kernel
theorem dJ0_charAt_5068e_4 : decode cJ0_charAt_5068e 4 = .ok (.ifCond .eq 12, 3) := by decide +kernel
theorem dJ0_charAt_5068e_7 : decode cJ0_charAt_5068e 7 = .ok (.aload_n 0, 1) := by decide +kernel
theorem dJ0_charAt_5068e_8 : decode cJ0_charAt_5068e 8 = .ok (.getfield 9, 3) := by decide +kernel
theorem dJ0_charAt_5068e_11 : decode cJ0_charAt_5068e 11 = .ok (.iload_n 1, 1) := by decide +kernel
theorem dJ0_charAt_5068e_12 : decode cJ0_charAt_5068e 12 = .ok (.invokestatic 495, 3) := by decide +kernel
theorem dJ0_charAt_5068e_15 : decode cJ0_charAt_5068e 15 = .ok (.ireturn, 1) := by decide +kernel
theorem dJ0_charAt_5068e_16 : decode cJ0_charAt_5068e 16 = .ok (.aload_n 0, 1) := by decide +kernel
theorem dJ0_charAt_5068e_17 : decode cJ0_charAt_5068e 17 = .ok (.getfield 9, 3) := by decide +kernel
theorem dJ0_charAt_5068e_20 : decode cJ0_charAt_5068e 20 = .ok (.iload_n 1, 1) := by decide +kernel
theorem dJ0_charAt_5068e_21 : decode cJ0_charAt_5068e 21 = .ok (.invokestatic 498, 3) := by decide +kernel
theorem dJ0_charAt_5068e_24 : decode cJ0_charAt_5068e 24 = .ok (.ireturn, 1) := by decide +kernel
theorem dJ0_coder_7d493_0 : decode cJ0_coder_7d493 0 = .ok (.getstatic 38, 3) := by decide +kernel
theorem dJ0_coder_7d493_3 : decode cJ0_coder_7d493 3 = .ok (.ifCond .eq 10, 3) := by decide +kernel
theorem dJ0_coder_7d493_6 : decode cJ0_coder_7d493 6 = .ok (.aload_n 0, 1) := by decide +kernel
theorem dJ0_coder_7d493_7 : decode cJ0_coder_7d493 7 = .ok (.getfield 15, 3) := by decide +kernel
theorem dJ0_coder_7d493_10 : decode cJ0_coder_7d493 10 = .ok (.goto 4, 3) := by decide +kernel
theorem dJ0_coder_7d493_13 : decode cJ0_coder_7d493 13 = .ok (.iconst 1, 1) := by decide +kernel
theorem dJ0_coder_7d493_14 : decode cJ0_coder_7d493 14 = .ok (.ireturn, 1) := by decide +kernel
theorem dJ0_isLatin1_aae02_0 : decode cJ0_isLatin1_aae02 0 = .ok (.getstatic 38, 3) := by decide +kernel
theorem dJ0_isLatin1_aae02_3 : decode cJ0_isLatin1_aae02 3 = .ok (.ifCond .eq 14, 3) := by decide +kernel
theorem dJ0_isLatin1_aae02_6 : decode cJ0_isLatin1_aae02 6 = .ok (.aload_n 0, 1) := by decide +kernel
theorem dJ0_isLatin1_aae02_7 : decode cJ0_isLatin1_aae02 7 = .ok (.getfield 15, 3) := by decide +kernel
theorem dJ0_isLatin1_aae02_10 : decode cJ0_isLatin1_aae02 10 = .ok (.ifCond .ne 7, 3) := by decide +kernel
theorem dJ0_isLatin1_aae02_13 : decode cJ0_isLatin1_aae02 13 = .ok (.iconst 1, 1) := by decide +kernel
theorem dJ0_isLatin1_aae02_14 : decode cJ0_isLatin1_aae02 14 = .ok (.goto 4, 3) := by decide +kernel
theorem dJ0_isLatin1_aae02_17 : decode cJ0_isLatin1_aae02 17 = .ok (.iconst 0, 1) := by decide +kernel
theorem dJ0_isLatin1_aae02_18 : decode cJ0_isLatin1_aae02 18 = .ok (.ireturn, 1) := by decide +kernel
theorem dJ0_checkIndex_df160_0 : decode cJ0_checkIndex_df160 0 = .ok (.iload_n 0, 1) := by decide +kernel
theorem dJ0_checkIndex_df160_1 : decode cJ0_checkIndex_df160 1 = .ok (.iload_n 1, 1) := by decide +kernel
theorem dJ0_checkIndex_df160_2 : decode cJ0_checkIndex_df160 2 = .ok (.getstatic 1053, 3) := by decide +kernel
theorem dJ0_checkIndex_df160_5 : decode cJ0_checkIndex_df160 5 = .ok (.invokestatic 1059, 3) := by decide +kernel
theorem dJ0_checkIndex_df160_8 : decode cJ0_checkIndex_df160 8 = .ok (.pop, 1) := by decide +kernel
theorem dJ0_checkIndex_df160_9 : decode cJ0_checkIndex_df160 9 = .ok (.return_, 1) := by decide +kernel
theorem dJ1_charAt_3b067_0 : decode cJ1_charAt_3b067 0 = .ok (.iload_n 1, 1) := by decide +kernel
theorem dJ1_charAt_3b067_1 : decode cJ1_charAt_3b067 1 = .ok (.aload_n 0, 1) := by decide +kernel
theorem dJ1_charAt_3b067_2 : decode cJ1_charAt_3b067 2 = .ok (.arraylength, 1) := by decide +kernel
theorem dJ1_charAt_3b067_3 : decode cJ1_charAt_3b067 3 = .ok (.invokestatic 9, 3) := by decide +kernel
theorem dJ1_charAt_3b067_6 : decode cJ1_charAt_3b067 6 = .ok (.aload_n 0, 1) := by decide +kernel
theorem dJ1_charAt_3b067_7 : decode cJ1_charAt_3b067 7 = .ok (.iload_n 1, 1) := by decide +kernel
theorem dJ1_charAt_3b067_8 : decode cJ1_charAt_3b067 8 = .ok (.baload, 1) := by decide +kernel
theorem dJ1_charAt_3b067_9 : decode cJ1_charAt_3b067 9 = .ok (.sipush 255, 3) := by decide +kernel
theorem dJ1_charAt_3b067_12 : decode cJ1_charAt_3b067 12 = .ok (.iand, 1) := by decide +kernel
theorem dJ1_charAt_3b067_13 : decode cJ1_charAt_3b067 13 = .ok (.i2c, 1) := by decide +kernel
theorem dJ1_charAt_3b067_14 : decode cJ1_charAt_3b067 14 = .ok (.ireturn, 1) := by decide +kernel
theorem dJ2_getChar_3b067_0 : decode cJ2_getChar_3b067 0 = .ok (.getstatic 44, 3) := by decide +kernel
theorem dJ2_getChar_3b067_3 : decode cJ2_getChar_3b067 3 = .ok (.ifCond .ne 25, 3) := by decide +kernel
theorem dJ2_getChar_3b067_6 : decode cJ2_getChar_3b067 6 = .ok (.iload_n 1, 1) := by decide +kernel
theorem dJ2_getChar_3b067_7 : decode cJ2_getChar_3b067 7 = .ok (.ifCond .lt 11, 3) := by decide +kernel
theorem dJ2_getChar_3b067_10 : decode cJ2_getChar_3b067 10 = .ok (.iload_n 1, 1) := by decide +kernel
theorem dJ2_getChar_3b067_11 : decode cJ2_getChar_3b067 11 = .ok (.aload_n 0, 1) := by decide +kernel
theorem dJ2_getChar_3b067_12 : decode cJ2_getChar_3b067 12 = .ok (.invokestatic 48, 3) := by decide +kernel
theorem dJ2_getChar_3b067_15 : decode cJ2_getChar_3b067 15 = .ok (.if_icmp .lt 13, 3) := by decide +kernel
theorem dJ2_getChar_3b067_18 : decode cJ2_getChar_3b067 18 = .ok (.new 52, 3) := by decide +kernel
theorem dJ2_getChar_3b067_21 : decode cJ2_getChar_3b067 21 = .ok (.dup, 1) := by decide +kernel
theorem dJ2_getChar_3b067_22 : decode cJ2_getChar_3b067 22 = .ok (.ldc 54, 2) := by decide +kernel
theorem dJ2_getChar_3b067_24 : decode cJ2_getChar_3b067 24 = .ok (.invokespecial 56, 3) := by decide +kernel
theorem dJ2_getChar_3b067_27 : decode cJ2_getChar_3b067 27 = .ok (.athrow, 1) := by decide +kernel
theorem dJ2_getChar_3b067_28 : decode cJ2_getChar_3b067 28 = .ok (.iload_n 1, 1) := by decide +kernel
theorem dJ2_getChar_3b067_29 : decode cJ2_getChar_3b067 29 = .ok (.iconst 1, 1) := by decide +kernel
theorem dJ2_getChar_3b067_30 : decode cJ2_getChar_3b067 30 = .ok (.ishl, 1) := by decide +kernel
theorem dJ2_getChar_3b067_31 : decode cJ2_getChar_3b067 31 = .ok (.istore_n 1, 1) := by decide +kernel
theorem dJ2_getChar_3b067_32 : decode cJ2_getChar_3b067 32 = .ok (.aload_n 0, 1) := by decide +kernel
theorem dJ2_getChar_3b067_33 : decode cJ2_getChar_3b067 33 = .ok (.iload_n 1, 1) := by decide +kernel
theorem dJ2_getChar_3b067_34 : decode cJ2_getChar_3b067 34 = .ok (.iinc 1 1, 3) := by decide +kernel
theorem dJ2_getChar_3b067_37 : decode cJ2_getChar_3b067 37 = .ok (.baload, 1) := by decide +kernel
theorem dJ2_getChar_3b067_38 : decode cJ2_getChar_3b067 38 = .ok (.sipush 255, 3) := by decide +kernel
theorem dJ2_getChar_3b067_41 : decode cJ2_getChar_3b067 41 = .ok (.iand, 1) := by decide +kernel
theorem dJ2_getChar_3b067_42 : decode cJ2_getChar_3b067 42 = .ok (.getstatic 59, 3) := by decide +kernel
theorem dJ2_getChar_3b067_45 : decode cJ2_getChar_3b067 45 = .ok (.ishl, 1) := by decide +kernel
theorem dJ2_getChar_3b067_46 : decode cJ2_getChar_3b067 46 = .ok (.aload_n 0, 1) := by decide +kernel
theorem dJ2_getChar_3b067_47 : decode cJ2_getChar_3b067 47 = .ok (.iload_n 1, 1) := by decide +kernel
theorem dJ2_getChar_3b067_48 : decode cJ2_getChar_3b067 48 = .ok (.baload, 1) := by decide +kernel
theorem dJ2_getChar_3b067_49 : decode cJ2_getChar_3b067 49 = .ok (.sipush 255, 3) := by decide +kernel
theorem dJ2_getChar_3b067_52 : decode cJ2_getChar_3b067 52 = .ok (.iand, 1) := by decide +kernel
theorem dJ2_getChar_3b067_53 : decode cJ2_getChar_3b067 53 = .ok (.getstatic 63, 3) := by decide +kernel
theorem dJ2_getChar_3b067_56 : decode cJ2_getChar_3b067 56 = .ok (.ishl, 1) := by decide +kernel
theorem dJ2_getChar_3b067_57 : decode cJ2_getChar_3b067 57 = .ok (.ior, 1) := by decide +kernel
theorem dJ2_getChar_3b067_58 : decode cJ2_getChar_3b067 58 = .ok (.i2c, 1) := by decide +kernel
theorem dJ2_getChar_3b067_59 : decode cJ2_getChar_3b067 59 = .ok (.ireturn, 1) := by decide +kernel
theorem dJ2_length_9d52b_0 : decode cJ2_length_9d52b 0 = .ok (.aload_n 0, 1) := by decide +kernel
theorem dJ2_length_9d52b_1 : decode cJ2_length_9d52b 1 = .ok (.arraylength, 1) := by decide +kernel
theorem dJ2_length_9d52b_2 : decode cJ2_length_9d52b 2 = .ok (.iconst 1, 1) := by decide +kernel
theorem dJ2_length_9d52b_3 : decode cJ2_length_9d52b 3 = .ok (.ishr, 1) := by decide +kernel
theorem dJ2_length_9d52b_4 : decode cJ2_length_9d52b 4 = .ok (.ireturn, 1) := by decide +kernel
theorem dJ2_charAt_3b067_0 : decode cJ2_charAt_3b067 0 = .ok (.iload_n 1, 1) := by decide +kernel
theorem dJ2_charAt_3b067_1 : decode cJ2_charAt_3b067 1 = .ok (.aload_n 0, 1) := by decide +kernel
theorem dJ2_charAt_3b067_2 : decode cJ2_charAt_3b067 2 = .ok (.invokestatic 67, 3) := by decide +kernel
theorem dJ2_charAt_3b067_5 : decode cJ2_charAt_3b067 5 = .ok (.aload_n 0, 1) := by decide +kernel
theorem dJ2_charAt_3b067_6 : decode cJ2_charAt_3b067 6 = .ok (.iload_n 1, 1) := by decide +kernel
theorem dJ2_charAt_3b067_7 : decode cJ2_charAt_3b067 7 = .ok (.invokestatic 71, 3) := by decide +kernel
theorem dJ2_charAt_3b067_10 : decode cJ2_charAt_3b067 10 = .ok (.ireturn, 1) := by decide +kernel
theorem dJ2_checkIndex_2214a_0 : decode cJ2_checkIndex_2214a 0 = .ok (.iload_n 0, 1) := by decide +kernel
theorem dJ2_checkIndex_2214a_1 : decode cJ2_checkIndex_2214a 1 = .ok (.aload_n 1, 1) := by decide +kernel
theorem dJ2_checkIndex_2214a_2 : decode cJ2_checkIndex_2214a 2 = .ok (.invokestatic 48, 3) := by decide +kernel
theorem dJ2_checkIndex_2214a_5 : decode cJ2_checkIndex_2214a 5 = .ok (.invokestatic 414, 3) := by decide +kernel
theorem dJ2_checkIndex_2214a_8 : decode cJ2_checkIndex_2214a 8 = .ok (.return_, 1) := by decide +kernel
theorem dJ3_checkIndex_8e157_0 : decode cJ3_checkIndex_8e157 0 = .ok (.iload_n 0, 1) := by decide +kernel
theorem dJ3_checkIndex_8e157_1 : decode cJ3_checkIndex_8e157 1 = .ok (.ifCond .lt 8, 3) := by decide +kernel
theorem dJ3_checkIndex_8e157_4 : decode cJ3_checkIndex_8e157 4 = .ok (.iload_n 0, 1) := by decide +kernel
theorem dJ3_checkIndex_8e157_5 : decode cJ3_checkIndex_8e157 5 = .ok (.iload_n 1, 1) := by decide +kernel
theorem dJ3_checkIndex_8e157_6 : decode cJ3_checkIndex_8e157 6 = .ok (.if_icmp .lt 10, 3) := by decide +kernel
theorem dJ3_checkIndex_8e157_9 : decode cJ3_checkIndex_8e157 9 = .ok (.aload_n 2, 1) := by decide +kernel
theorem dJ3_checkIndex_8e157_10 : decode cJ3_checkIndex_8e157 10 = .ok (.iload_n 0, 1) := by decide +kernel
theorem dJ3_checkIndex_8e157_11 : decode cJ3_checkIndex_8e157 11 = .ok (.iload_n 1, 1) := by decide +kernel
theorem dJ3_checkIndex_8e157_12 : decode cJ3_checkIndex_8e157 12 = .ok (.invokestatic 95, 3) := by decide +kernel
theorem dJ3_checkIndex_8e157_15 : decode cJ3_checkIndex_8e157 15 = .ok (.athrow, 1) := by decide +kernel
theorem dJ3_checkIndex_8e157_16 : decode cJ3_checkIndex_8e157 16 = .ok (.iload_n 0, 1) := by decide +kernel
theorem dJ3_checkIndex_8e157_17 : decode cJ3_checkIndex_8e157 17 = .ok (.ireturn, 1) := by decide +kernel
theorem dL_law_0 : decode cL_law 0 = .ok (.new 7, 3) := by decide +kernel
theorem dL_law_3 : decode cL_law 3 = .ok (.dup, 1) := by decide +kernel
theorem dL_law_4 : decode cL_law 4 = .ok (.invokespecial 9, 3) := by decide +kernel
theorem dL_law_7 : decode cL_law 7 = .ok (.astore_n 1, 1) := by decide +kernel
theorem dL_law_8 : decode cL_law 8 = .ok (.new 10, 3) := by decide +kernel
theorem dL_law_11 : decode cL_law 11 = .ok (.dup, 1) := by decide +kernel
theorem dL_law_12 : decode cL_law 12 = .ok (.invokespecial 12, 3) := by decide +kernel
theorem dL_law_15 : decode cL_law 15 = .ok (.astore_n 2, 1) := by decide +kernel
theorem dL_law_16 : decode cL_law 16 = .ok (.iconst 0, 1) := by decide +kernel
theorem dL_law_17 : decode cL_law 17 = .ok (.istore_n 3, 1) := by decide +kernel
theorem dL_law_18 : decode cL_law 18 = .ok (.iload_n 3, 1) := by decide +kernel
theorem dL_law_19 : decode cL_law 19 = .ok (.aload_n 0, 1) := by decide +kernel
theorem dL_law_20 : decode cL_law 20 = .ok (.arraylength, 1) := by decide +kernel
theorem dL_law_21 : decode cL_law 21 = .ok (.bipush 6, 2) := by decide +kernel
theorem dL_law_23 : decode cL_law 23 = .ok (.isub, 1) := by decide +kernel
theorem dL_law_24 : decode cL_law 24 = .ok (.if_icmp .gt 1302, 3) := by decide +kernel
theorem dL_law_27 : decode cL_law 27 = .ok (.aload_n 0, 1) := by decide +kernel
theorem dL_law_28 : decode cL_law 28 = .ok (.iload_n 3, 1) := by decide +kernel
theorem dL_law_29 : decode cL_law 29 = .ok (.iaload, 1) := by decide +kernel
theorem dL_law_30 : decode cL_law 30 = .ok (.bipush 63, 2) := by decide +kernel
theorem dL_law_32 : decode cL_law 32 = .ok (.iand, 1) := by decide +kernel
theorem dL_law_33 : decode cL_law 33 = .ok (.tableswitch 1287 0 39 #[175, 188, 231, 274, 297, 310, 323, 346, 379, 402, 425, 438, 471, 504, 547, 580, 613, 636, 679, 702, 725, 748, 761, 804, 827, 890, 943, 966, 989, 1012, 1035, 1058, 1081, 1124, 1157, 1181, 1204, 1227, 1250, 1273], 175) := by decide +kernel
theorem dL_law_208 : decode cL_law 208 = .ok (.aload_n 1, 1) := by decide +kernel
theorem dL_law_209 : decode cL_law 209 = .ok (.invokevirtual 13, 3) := by decide +kernel
theorem dL_law_212 : decode cL_law 212 = .ok (.aload_n 2, 1) := by decide +kernel
theorem dL_law_213 : decode cL_law 213 = .ok (.invokevirtual 17, 3) := by decide +kernel
theorem dL_law_216 : decode cL_law 216 = .ok (.if_icmp .eq 1104, 3) := by decide +kernel
theorem dL_law_219 : decode cL_law 219 = .ok (.iconst 0, 1) := by decide +kernel
theorem dL_law_220 : decode cL_law 220 = .ok (.ireturn, 1) := by decide +kernel
theorem dL_law_221 : decode cL_law 221 = .ok (.aload_n 1, 1) := by decide +kernel
theorem dL_law_222 : decode cL_law 222 = .ok (.aload_n 0, 1) := by decide +kernel
theorem dL_law_223 : decode cL_law 223 = .ok (.iload_n 3, 1) := by decide +kernel
theorem dL_law_224 : decode cL_law 224 = .ok (.iconst 1, 1) := by decide +kernel
theorem dL_law_225 : decode cL_law 225 = .ok (.iadd, 1) := by decide +kernel
theorem dL_law_226 : decode cL_law 226 = .ok (.iaload, 1) := by decide +kernel
theorem dL_law_227 : decode cL_law 227 = .ok (.aload_n 0, 1) := by decide +kernel
theorem dL_law_228 : decode cL_law 228 = .ok (.iload_n 3, 1) := by decide +kernel
theorem dL_law_229 : decode cL_law 229 = .ok (.iconst 2, 1) := by decide +kernel
theorem dL_law_230 : decode cL_law 230 = .ok (.iadd, 1) := by decide +kernel
theorem dL_law_231 : decode cL_law 231 = .ok (.iaload, 1) := by decide +kernel
theorem dL_law_232 : decode cL_law 232 = .ok (.aload_n 0, 1) := by decide +kernel
theorem dL_law_233 : decode cL_law 233 = .ok (.iload_n 3, 1) := by decide +kernel
theorem dL_law_234 : decode cL_law 234 = .ok (.iconst 3, 1) := by decide +kernel
theorem dL_law_235 : decode cL_law 235 = .ok (.iadd, 1) := by decide +kernel
theorem dL_law_236 : decode cL_law 236 = .ok (.iaload, 1) := by decide +kernel
theorem dL_law_237 : decode cL_law 237 = .ok (.invokevirtual 18, 3) := by decide +kernel
theorem dL_law_240 : decode cL_law 240 = .ok (.aload_n 2, 1) := by decide +kernel
theorem dL_law_241 : decode cL_law 241 = .ok (.aload_n 0, 1) := by decide +kernel
theorem dL_law_242 : decode cL_law 242 = .ok (.iload_n 3, 1) := by decide +kernel
theorem dL_law_243 : decode cL_law 243 = .ok (.iconst 1, 1) := by decide +kernel
theorem dL_law_244 : decode cL_law 244 = .ok (.iadd, 1) := by decide +kernel
theorem dL_law_245 : decode cL_law 245 = .ok (.iaload, 1) := by decide +kernel
theorem dL_law_246 : decode cL_law 246 = .ok (.aload_n 0, 1) := by decide +kernel
theorem dL_law_247 : decode cL_law 247 = .ok (.iload_n 3, 1) := by decide +kernel
theorem dL_law_248 : decode cL_law 248 = .ok (.iconst 2, 1) := by decide +kernel
theorem dL_law_249 : decode cL_law 249 = .ok (.iadd, 1) := by decide +kernel
theorem dL_law_250 : decode cL_law 250 = .ok (.iaload, 1) := by decide +kernel
theorem dL_law_251 : decode cL_law 251 = .ok (.aload_n 0, 1) := by decide +kernel
theorem dL_law_252 : decode cL_law 252 = .ok (.iload_n 3, 1) := by decide +kernel
theorem dL_law_253 : decode cL_law 253 = .ok (.iconst 3, 1) := by decide +kernel
theorem dL_law_254 : decode cL_law 254 = .ok (.iadd, 1) := by decide +kernel
theorem dL_law_255 : decode cL_law 255 = .ok (.iaload, 1) := by decide +kernel
theorem dL_law_256 : decode cL_law 256 = .ok (.invokevirtual 22, 3) := by decide +kernel
theorem dL_law_259 : decode cL_law 259 = .ok (.if_icmp .eq 1061, 3) := by decide +kernel
theorem dL_law_262 : decode cL_law 262 = .ok (.iconst 0, 1) := by decide +kernel
theorem dL_law_263 : decode cL_law 263 = .ok (.ireturn, 1) := by decide +kernel
theorem dL_law_264 : decode cL_law 264 = .ok (.aload_n 1, 1) := by decide +kernel
theorem dL_law_265 : decode cL_law 265 = .ok (.aload_n 0, 1) := by decide +kernel
theorem dL_law_266 : decode cL_law 266 = .ok (.iload_n 3, 1) := by decide +kernel
theorem dL_law_267 : decode cL_law 267 = .ok (.iconst 1, 1) := by decide +kernel
theorem dL_law_268 : decode cL_law 268 = .ok (.iadd, 1) := by decide +kernel
theorem dL_law_269 : decode cL_law 269 = .ok (.iaload, 1) := by decide +kernel
theorem dL_law_270 : decode cL_law 270 = .ok (.aload_n 0, 1) := by decide +kernel
theorem dL_law_271 : decode cL_law 271 = .ok (.iload_n 3, 1) := by decide +kernel
theorem dL_law_272 : decode cL_law 272 = .ok (.iconst 2, 1) := by decide +kernel
theorem dL_law_273 : decode cL_law 273 = .ok (.iadd, 1) := by decide +kernel
theorem dL_law_274 : decode cL_law 274 = .ok (.iaload, 1) := by decide +kernel
theorem dL_law_275 : decode cL_law 275 = .ok (.aload_n 0, 1) := by decide +kernel
theorem dL_law_276 : decode cL_law 276 = .ok (.iload_n 3, 1) := by decide +kernel
theorem dL_law_277 : decode cL_law 277 = .ok (.iconst 3, 1) := by decide +kernel
theorem dL_law_278 : decode cL_law 278 = .ok (.iadd, 1) := by decide +kernel
theorem dL_law_279 : decode cL_law 279 = .ok (.iaload, 1) := by decide +kernel
theorem dL_law_280 : decode cL_law 280 = .ok (.invokevirtual 23, 3) := by decide +kernel
theorem dL_law_283 : decode cL_law 283 = .ok (.aload_n 2, 1) := by decide +kernel
theorem dL_law_284 : decode cL_law 284 = .ok (.aload_n 0, 1) := by decide +kernel
theorem dL_law_285 : decode cL_law 285 = .ok (.iload_n 3, 1) := by decide +kernel
theorem dL_law_286 : decode cL_law 286 = .ok (.iconst 1, 1) := by decide +kernel
theorem dL_law_287 : decode cL_law 287 = .ok (.iadd, 1) := by decide +kernel
theorem dL_law_288 : decode cL_law 288 = .ok (.iaload, 1) := by decide +kernel
theorem dL_law_289 : decode cL_law 289 = .ok (.aload_n 0, 1) := by decide +kernel
theorem dL_law_290 : decode cL_law 290 = .ok (.iload_n 3, 1) := by decide +kernel
theorem dL_law_291 : decode cL_law 291 = .ok (.iconst 2, 1) := by decide +kernel
theorem dL_law_292 : decode cL_law 292 = .ok (.iadd, 1) := by decide +kernel
theorem dL_law_293 : decode cL_law 293 = .ok (.iaload, 1) := by decide +kernel
theorem dL_law_294 : decode cL_law 294 = .ok (.aload_n 0, 1) := by decide +kernel
theorem dL_law_295 : decode cL_law 295 = .ok (.iload_n 3, 1) := by decide +kernel
theorem dL_law_296 : decode cL_law 296 = .ok (.iconst 3, 1) := by decide +kernel
theorem dL_law_297 : decode cL_law 297 = .ok (.iadd, 1) := by decide +kernel
theorem dL_law_298 : decode cL_law 298 = .ok (.iaload, 1) := by decide +kernel
theorem dL_law_299 : decode cL_law 299 = .ok (.invokevirtual 26, 3) := by decide +kernel
theorem dL_law_302 : decode cL_law 302 = .ok (.if_icmp .eq 1018, 3) := by decide +kernel
theorem dL_law_305 : decode cL_law 305 = .ok (.iconst 0, 1) := by decide +kernel
theorem dL_law_306 : decode cL_law 306 = .ok (.ireturn, 1) := by decide +kernel
theorem dL_law_307 : decode cL_law 307 = .ok (.aload_n 1, 1) := by decide +kernel
theorem dL_law_308 : decode cL_law 308 = .ok (.aload_n 0, 1) := by decide +kernel
theorem dL_law_309 : decode cL_law 309 = .ok (.iload_n 3, 1) := by decide +kernel
theorem dL_law_310 : decode cL_law 310 = .ok (.iconst 1, 1) := by decide +kernel
theorem dL_law_311 : decode cL_law 311 = .ok (.iadd, 1) := by decide +kernel
theorem dL_law_312 : decode cL_law 312 = .ok (.iaload, 1) := by decide +kernel
theorem dL_law_313 : decode cL_law 313 = .ok (.invokevirtual 27, 3) := by decide +kernel
theorem dL_law_316 : decode cL_law 316 = .ok (.aload_n 2, 1) := by decide +kernel
theorem dL_law_317 : decode cL_law 317 = .ok (.aload_n 0, 1) := by decide +kernel
theorem dL_law_318 : decode cL_law 318 = .ok (.iload_n 3, 1) := by decide +kernel
theorem dL_law_319 : decode cL_law 319 = .ok (.iconst 1, 1) := by decide +kernel
theorem dL_law_320 : decode cL_law 320 = .ok (.iadd, 1) := by decide +kernel
theorem dL_law_321 : decode cL_law 321 = .ok (.iaload, 1) := by decide +kernel
theorem dL_law_322 : decode cL_law 322 = .ok (.invokevirtual 31, 3) := by decide +kernel
theorem dL_law_325 : decode cL_law 325 = .ok (.if_icmp .eq 995, 3) := by decide +kernel
theorem dL_law_328 : decode cL_law 328 = .ok (.iconst 0, 1) := by decide +kernel
theorem dL_law_329 : decode cL_law 329 = .ok (.ireturn, 1) := by decide +kernel
theorem dL_law_330 : decode cL_law 330 = .ok (.aload_n 1, 1) := by decide +kernel
theorem dL_law_331 : decode cL_law 331 = .ok (.invokevirtual 32, 3) := by decide +kernel
theorem dL_law_334 : decode cL_law 334 = .ok (.aload_n 2, 1) := by decide +kernel
theorem dL_law_335 : decode cL_law 335 = .ok (.invokevirtual 35, 3) := by decide +kernel
theorem dL_law_338 : decode cL_law 338 = .ok (.if_icmp .eq 982, 3) := by decide +kernel
theorem dL_law_341 : decode cL_law 341 = .ok (.iconst 0, 1) := by decide +kernel
theorem dL_law_342 : decode cL_law 342 = .ok (.ireturn, 1) := by decide +kernel
theorem dL_law_343 : decode cL_law 343 = .ok (.aload_n 1, 1) := by decide +kernel
theorem dL_law_344 : decode cL_law 344 = .ok (.invokevirtual 36, 3) := by decide +kernel
theorem dL_law_347 : decode cL_law 347 = .ok (.aload_n 2, 1) := by decide +kernel
theorem dL_law_348 : decode cL_law 348 = .ok (.invokevirtual 39, 3) := by decide +kernel
theorem dL_law_351 : decode cL_law 351 = .ok (.if_icmp .eq 969, 3) := by decide +kernel
theorem dL_law_354 : decode cL_law 354 = .ok (.iconst 0, 1) := by decide +kernel
theorem dL_law_355 : decode cL_law 355 = .ok (.ireturn, 1) := by decide +kernel
theorem dL_law_356 : decode cL_law 356 = .ok (.aload_n 1, 1) := by decide +kernel
theorem dL_law_357 : decode cL_law 357 = .ok (.aload_n 0, 1) := by decide +kernel
theorem dL_law_358 : decode cL_law 358 = .ok (.iload_n 3, 1) := by decide +kernel
theorem dL_law_359 : decode cL_law 359 = .ok (.iconst 1, 1) := by decide +kernel
theorem dL_law_360 : decode cL_law 360 = .ok (.iadd, 1) := by decide +kernel
theorem dL_law_361 : decode cL_law 361 = .ok (.iaload, 1) := by decide +kernel
theorem dL_law_362 : decode cL_law 362 = .ok (.invokevirtual 40, 3) := by decide +kernel
theorem dL_law_365 : decode cL_law 365 = .ok (.aload_n 2, 1) := by decide +kernel
theorem dL_law_366 : decode cL_law 366 = .ok (.aload_n 0, 1) := by decide +kernel
theorem dL_law_367 : decode cL_law 367 = .ok (.iload_n 3, 1) := by decide +kernel
theorem dL_law_368 : decode cL_law 368 = .ok (.iconst 1, 1) := by decide +kernel
theorem dL_law_369 : decode cL_law 369 = .ok (.iadd, 1) := by decide +kernel
theorem dL_law_370 : decode cL_law 370 = .ok (.iaload, 1) := by decide +kernel
theorem dL_law_371 : decode cL_law 371 = .ok (.invokevirtual 43, 3) := by decide +kernel
theorem dL_law_374 : decode cL_law 374 = .ok (.if_icmp .eq 946, 3) := by decide +kernel
theorem dL_law_377 : decode cL_law 377 = .ok (.iconst 0, 1) := by decide +kernel
theorem dL_law_378 : decode cL_law 378 = .ok (.ireturn, 1) := by decide +kernel
theorem dL_law_379 : decode cL_law 379 = .ok (.aload_n 1, 1) := by decide +kernel
theorem dL_law_380 : decode cL_law 380 = .ok (.aload_n 0, 1) := by decide +kernel
theorem dL_law_381 : decode cL_law 381 = .ok (.iload_n 3, 1) := by decide +kernel
theorem dL_law_382 : decode cL_law 382 = .ok (.iconst 1, 1) := by decide +kernel
theorem dL_law_383 : decode cL_law 383 = .ok (.iadd, 1) := by decide +kernel
theorem dL_law_384 : decode cL_law 384 = .ok (.iaload, 1) := by decide +kernel
theorem dL_law_385 : decode cL_law 385 = .ok (.aload_n 0, 1) := by decide +kernel
theorem dL_law_386 : decode cL_law 386 = .ok (.iload_n 3, 1) := by decide +kernel
theorem dL_law_387 : decode cL_law 387 = .ok (.iconst 2, 1) := by decide +kernel
theorem dL_law_388 : decode cL_law 388 = .ok (.iadd, 1) := by decide +kernel
theorem dL_law_389 : decode cL_law 389 = .ok (.iaload, 1) := by decide +kernel
theorem dL_law_390 : decode cL_law 390 = .ok (.invokevirtual 44, 3) := by decide +kernel
theorem dL_law_393 : decode cL_law 393 = .ok (.aload_n 2, 1) := by decide +kernel
theorem dL_law_394 : decode cL_law 394 = .ok (.aload_n 0, 1) := by decide +kernel
theorem dL_law_395 : decode cL_law 395 = .ok (.iload_n 3, 1) := by decide +kernel
theorem dL_law_396 : decode cL_law 396 = .ok (.iconst 1, 1) := by decide +kernel
theorem dL_law_397 : decode cL_law 397 = .ok (.iadd, 1) := by decide +kernel
theorem dL_law_398 : decode cL_law 398 = .ok (.iaload, 1) := by decide +kernel
theorem dL_law_399 : decode cL_law 399 = .ok (.aload_n 0, 1) := by decide +kernel
theorem dL_law_400 : decode cL_law 400 = .ok (.iload_n 3, 1) := by decide +kernel
theorem dL_law_401 : decode cL_law 401 = .ok (.iconst 2, 1) := by decide +kernel
theorem dL_law_402 : decode cL_law 402 = .ok (.iadd, 1) := by decide +kernel
theorem dL_law_403 : decode cL_law 403 = .ok (.iaload, 1) := by decide +kernel
theorem dL_law_404 : decode cL_law 404 = .ok (.invokevirtual 48, 3) := by decide +kernel
theorem dL_law_407 : decode cL_law 407 = .ok (.if_icmp .eq 913, 3) := by decide +kernel
theorem dL_law_410 : decode cL_law 410 = .ok (.iconst 0, 1) := by decide +kernel
theorem dL_law_411 : decode cL_law 411 = .ok (.ireturn, 1) := by decide +kernel
theorem dL_law_412 : decode cL_law 412 = .ok (.aload_n 1, 1) := by decide +kernel
theorem dL_law_413 : decode cL_law 413 = .ok (.aload_n 0, 1) := by decide +kernel
theorem dL_law_414 : decode cL_law 414 = .ok (.iload_n 3, 1) := by decide +kernel
theorem dL_law_415 : decode cL_law 415 = .ok (.iconst 1, 1) := by decide +kernel
theorem dL_law_416 : decode cL_law 416 = .ok (.iadd, 1) := by decide +kernel
theorem dL_law_417 : decode cL_law 417 = .ok (.iaload, 1) := by decide +kernel
theorem dL_law_418 : decode cL_law 418 = .ok (.invokevirtual 49, 3) := by decide +kernel
theorem dL_law_421 : decode cL_law 421 = .ok (.aload_n 2, 1) := by decide +kernel
theorem dL_law_422 : decode cL_law 422 = .ok (.aload_n 0, 1) := by decide +kernel
theorem dL_law_423 : decode cL_law 423 = .ok (.iload_n 3, 1) := by decide +kernel
theorem dL_law_424 : decode cL_law 424 = .ok (.iconst 1, 1) := by decide +kernel
theorem dL_law_425 : decode cL_law 425 = .ok (.iadd, 1) := by decide +kernel
theorem dL_law_426 : decode cL_law 426 = .ok (.iaload, 1) := by decide +kernel
theorem dL_law_427 : decode cL_law 427 = .ok (.invokevirtual 52, 3) := by decide +kernel
theorem dL_law_430 : decode cL_law 430 = .ok (.if_icmp .eq 890, 3) := by decide +kernel
theorem dL_law_433 : decode cL_law 433 = .ok (.iconst 0, 1) := by decide +kernel
theorem dL_law_434 : decode cL_law 434 = .ok (.ireturn, 1) := by decide +kernel
theorem dL_law_435 : decode cL_law 435 = .ok (.aload_n 1, 1) := by decide +kernel
theorem dL_law_436 : decode cL_law 436 = .ok (.aload_n 0, 1) := by decide +kernel
theorem dL_law_437 : decode cL_law 437 = .ok (.iload_n 3, 1) := by decide +kernel
theorem dL_law_438 : decode cL_law 438 = .ok (.iconst 1, 1) := by decide +kernel
theorem dL_law_439 : decode cL_law 439 = .ok (.iadd, 1) := by decide +kernel
theorem dL_law_440 : decode cL_law 440 = .ok (.iaload, 1) := by decide +kernel
theorem dL_law_441 : decode cL_law 441 = .ok (.invokevirtual 53, 3) := by decide +kernel
theorem dL_law_444 : decode cL_law 444 = .ok (.aload_n 2, 1) := by decide +kernel
theorem dL_law_445 : decode cL_law 445 = .ok (.aload_n 0, 1) := by decide +kernel
theorem dL_law_446 : decode cL_law 446 = .ok (.iload_n 3, 1) := by decide +kernel
theorem dL_law_447 : decode cL_law 447 = .ok (.iconst 1, 1) := by decide +kernel
theorem dL_law_448 : decode cL_law 448 = .ok (.iadd, 1) := by decide +kernel
theorem dL_law_449 : decode cL_law 449 = .ok (.iaload, 1) := by decide +kernel
theorem dL_law_450 : decode cL_law 450 = .ok (.invokevirtual 56, 3) := by decide +kernel
theorem dL_law_453 : decode cL_law 453 = .ok (.if_icmp .eq 867, 3) := by decide +kernel
theorem dL_law_456 : decode cL_law 456 = .ok (.iconst 0, 1) := by decide +kernel
theorem dL_law_457 : decode cL_law 457 = .ok (.ireturn, 1) := by decide +kernel
theorem dL_law_458 : decode cL_law 458 = .ok (.aload_n 1, 1) := by decide +kernel
theorem dL_law_459 : decode cL_law 459 = .ok (.invokevirtual 57, 3) := by decide +kernel
theorem dL_law_462 : decode cL_law 462 = .ok (.aload_n 2, 1) := by decide +kernel
theorem dL_law_463 : decode cL_law 463 = .ok (.invokevirtual 60, 3) := by decide +kernel
theorem dL_law_466 : decode cL_law 466 = .ok (.if_icmp .eq 854, 3) := by decide +kernel
theorem dL_law_469 : decode cL_law 469 = .ok (.iconst 0, 1) := by decide +kernel
theorem dL_law_470 : decode cL_law 470 = .ok (.ireturn, 1) := by decide +kernel
theorem dL_law_471 : decode cL_law 471 = .ok (.aload_n 1, 1) := by decide +kernel
theorem dL_law_472 : decode cL_law 472 = .ok (.aload_n 0, 1) := by decide +kernel
theorem dL_law_473 : decode cL_law 473 = .ok (.iload_n 3, 1) := by decide +kernel
theorem dL_law_474 : decode cL_law 474 = .ok (.iconst 1, 1) := by decide +kernel
theorem dL_law_475 : decode cL_law 475 = .ok (.iadd, 1) := by decide +kernel
theorem dL_law_476 : decode cL_law 476 = .ok (.iaload, 1) := by decide +kernel
theorem dL_law_477 : decode cL_law 477 = .ok (.aload_n 0, 1) := by decide +kernel
theorem dL_law_478 : decode cL_law 478 = .ok (.iload_n 3, 1) := by decide +kernel
theorem dL_law_479 : decode cL_law 479 = .ok (.iconst 2, 1) := by decide +kernel
theorem dL_law_480 : decode cL_law 480 = .ok (.iadd, 1) := by decide +kernel
theorem dL_law_481 : decode cL_law 481 = .ok (.iaload, 1) := by decide +kernel
theorem dL_law_482 : decode cL_law 482 = .ok (.invokevirtual 61, 3) := by decide +kernel
theorem dL_law_485 : decode cL_law 485 = .ok (.aload_n 2, 1) := by decide +kernel
theorem dL_law_486 : decode cL_law 486 = .ok (.aload_n 0, 1) := by decide +kernel
theorem dL_law_487 : decode cL_law 487 = .ok (.iload_n 3, 1) := by decide +kernel
theorem dL_law_488 : decode cL_law 488 = .ok (.iconst 1, 1) := by decide +kernel
theorem dL_law_489 : decode cL_law 489 = .ok (.iadd, 1) := by decide +kernel
theorem dL_law_490 : decode cL_law 490 = .ok (.iaload, 1) := by decide +kernel
theorem dL_law_491 : decode cL_law 491 = .ok (.aload_n 0, 1) := by decide +kernel
theorem dL_law_492 : decode cL_law 492 = .ok (.iload_n 3, 1) := by decide +kernel
theorem dL_law_493 : decode cL_law 493 = .ok (.iconst 2, 1) := by decide +kernel
theorem dL_law_494 : decode cL_law 494 = .ok (.iadd, 1) := by decide +kernel
theorem dL_law_495 : decode cL_law 495 = .ok (.iaload, 1) := by decide +kernel
theorem dL_law_496 : decode cL_law 496 = .ok (.invokevirtual 64, 3) := by decide +kernel
theorem dL_law_499 : decode cL_law 499 = .ok (.if_icmp .eq 821, 3) := by decide +kernel
theorem dL_law_502 : decode cL_law 502 = .ok (.iconst 0, 1) := by decide +kernel
theorem dL_law_503 : decode cL_law 503 = .ok (.ireturn, 1) := by decide +kernel
theorem dL_law_504 : decode cL_law 504 = .ok (.aload_n 1, 1) := by decide +kernel
theorem dL_law_505 : decode cL_law 505 = .ok (.aload_n 0, 1) := by decide +kernel
theorem dL_law_506 : decode cL_law 506 = .ok (.iload_n 3, 1) := by decide +kernel
theorem dL_law_507 : decode cL_law 507 = .ok (.iconst 1, 1) := by decide +kernel
theorem dL_law_508 : decode cL_law 508 = .ok (.iadd, 1) := by decide +kernel
theorem dL_law_509 : decode cL_law 509 = .ok (.iaload, 1) := by decide +kernel
theorem dL_law_510 : decode cL_law 510 = .ok (.aload_n 0, 1) := by decide +kernel
theorem dL_law_511 : decode cL_law 511 = .ok (.iload_n 3, 1) := by decide +kernel
theorem dL_law_512 : decode cL_law 512 = .ok (.iconst 2, 1) := by decide +kernel
theorem dL_law_513 : decode cL_law 513 = .ok (.iadd, 1) := by decide +kernel
theorem dL_law_514 : decode cL_law 514 = .ok (.iaload, 1) := by decide +kernel
theorem dL_law_515 : decode cL_law 515 = .ok (.invokevirtual 65, 3) := by decide +kernel
theorem dL_law_518 : decode cL_law 518 = .ok (.aload_n 2, 1) := by decide +kernel
theorem dL_law_519 : decode cL_law 519 = .ok (.aload_n 0, 1) := by decide +kernel
theorem dL_law_520 : decode cL_law 520 = .ok (.iload_n 3, 1) := by decide +kernel
theorem dL_law_521 : decode cL_law 521 = .ok (.iconst 1, 1) := by decide +kernel
theorem dL_law_522 : decode cL_law 522 = .ok (.iadd, 1) := by decide +kernel
theorem dL_law_523 : decode cL_law 523 = .ok (.iaload, 1) := by decide +kernel
theorem dL_law_524 : decode cL_law 524 = .ok (.aload_n 0, 1) := by decide +kernel
theorem dL_law_525 : decode cL_law 525 = .ok (.iload_n 3, 1) := by decide +kernel
theorem dL_law_526 : decode cL_law 526 = .ok (.iconst 2, 1) := by decide +kernel
theorem dL_law_527 : decode cL_law 527 = .ok (.iadd, 1) := by decide +kernel
theorem dL_law_528 : decode cL_law 528 = .ok (.iaload, 1) := by decide +kernel
theorem dL_law_529 : decode cL_law 529 = .ok (.invokevirtual 68, 3) := by decide +kernel
theorem dL_law_532 : decode cL_law 532 = .ok (.if_icmp .eq 788, 3) := by decide +kernel
theorem dL_law_535 : decode cL_law 535 = .ok (.iconst 0, 1) := by decide +kernel
theorem dL_law_536 : decode cL_law 536 = .ok (.ireturn, 1) := by decide +kernel
theorem dL_law_537 : decode cL_law 537 = .ok (.aload_n 1, 1) := by decide +kernel
theorem dL_law_538 : decode cL_law 538 = .ok (.aload_n 0, 1) := by decide +kernel
theorem dL_law_539 : decode cL_law 539 = .ok (.iload_n 3, 1) := by decide +kernel
theorem dL_law_540 : decode cL_law 540 = .ok (.iconst 1, 1) := by decide +kernel
theorem dL_law_541 : decode cL_law 541 = .ok (.iadd, 1) := by decide +kernel
theorem dL_law_542 : decode cL_law 542 = .ok (.iaload, 1) := by decide +kernel
theorem dL_law_543 : decode cL_law 543 = .ok (.aload_n 0, 1) := by decide +kernel
theorem dL_law_544 : decode cL_law 544 = .ok (.iload_n 3, 1) := by decide +kernel
theorem dL_law_545 : decode cL_law 545 = .ok (.iconst 2, 1) := by decide +kernel
theorem dL_law_546 : decode cL_law 546 = .ok (.iadd, 1) := by decide +kernel
theorem dL_law_547 : decode cL_law 547 = .ok (.iaload, 1) := by decide +kernel
theorem dL_law_548 : decode cL_law 548 = .ok (.aload_n 0, 1) := by decide +kernel
theorem dL_law_549 : decode cL_law 549 = .ok (.iload_n 3, 1) := by decide +kernel
theorem dL_law_550 : decode cL_law 550 = .ok (.iconst 3, 1) := by decide +kernel
theorem dL_law_551 : decode cL_law 551 = .ok (.iadd, 1) := by decide +kernel
theorem dL_law_552 : decode cL_law 552 = .ok (.iaload, 1) := by decide +kernel
theorem dL_law_553 : decode cL_law 553 = .ok (.invokevirtual 69, 3) := by decide +kernel
theorem dL_law_556 : decode cL_law 556 = .ok (.aload_n 2, 1) := by decide +kernel
theorem dL_law_557 : decode cL_law 557 = .ok (.aload_n 0, 1) := by decide +kernel
theorem dL_law_558 : decode cL_law 558 = .ok (.iload_n 3, 1) := by decide +kernel
theorem dL_law_559 : decode cL_law 559 = .ok (.iconst 1, 1) := by decide +kernel
theorem dL_law_560 : decode cL_law 560 = .ok (.iadd, 1) := by decide +kernel
theorem dL_law_561 : decode cL_law 561 = .ok (.iaload, 1) := by decide +kernel
theorem dL_law_562 : decode cL_law 562 = .ok (.aload_n 0, 1) := by decide +kernel
theorem dL_law_563 : decode cL_law 563 = .ok (.iload_n 3, 1) := by decide +kernel
theorem dL_law_564 : decode cL_law 564 = .ok (.iconst 2, 1) := by decide +kernel
theorem dL_law_565 : decode cL_law 565 = .ok (.iadd, 1) := by decide +kernel
theorem dL_law_566 : decode cL_law 566 = .ok (.iaload, 1) := by decide +kernel
theorem dL_law_567 : decode cL_law 567 = .ok (.aload_n 0, 1) := by decide +kernel
theorem dL_law_568 : decode cL_law 568 = .ok (.iload_n 3, 1) := by decide +kernel
theorem dL_law_569 : decode cL_law 569 = .ok (.iconst 3, 1) := by decide +kernel
theorem dL_law_570 : decode cL_law 570 = .ok (.iadd, 1) := by decide +kernel
theorem dL_law_571 : decode cL_law 571 = .ok (.iaload, 1) := by decide +kernel
theorem dL_law_572 : decode cL_law 572 = .ok (.invokevirtual 72, 3) := by decide +kernel
theorem dL_law_575 : decode cL_law 575 = .ok (.if_icmp .eq 745, 3) := by decide +kernel
theorem dL_law_578 : decode cL_law 578 = .ok (.iconst 0, 1) := by decide +kernel
theorem dL_law_579 : decode cL_law 579 = .ok (.ireturn, 1) := by decide +kernel
theorem dL_law_580 : decode cL_law 580 = .ok (.aload_n 1, 1) := by decide +kernel
theorem dL_law_581 : decode cL_law 581 = .ok (.aload_n 0, 1) := by decide +kernel
theorem dL_law_582 : decode cL_law 582 = .ok (.iload_n 3, 1) := by decide +kernel
theorem dL_law_583 : decode cL_law 583 = .ok (.iconst 1, 1) := by decide +kernel
theorem dL_law_584 : decode cL_law 584 = .ok (.iadd, 1) := by decide +kernel
theorem dL_law_585 : decode cL_law 585 = .ok (.iaload, 1) := by decide +kernel
theorem dL_law_586 : decode cL_law 586 = .ok (.aload_n 0, 1) := by decide +kernel
theorem dL_law_587 : decode cL_law 587 = .ok (.iload_n 3, 1) := by decide +kernel
theorem dL_law_588 : decode cL_law 588 = .ok (.iconst 2, 1) := by decide +kernel
theorem dL_law_589 : decode cL_law 589 = .ok (.iadd, 1) := by decide +kernel
theorem dL_law_590 : decode cL_law 590 = .ok (.iaload, 1) := by decide +kernel
theorem dL_law_591 : decode cL_law 591 = .ok (.invokevirtual 73, 3) := by decide +kernel
theorem dL_law_594 : decode cL_law 594 = .ok (.aload_n 2, 1) := by decide +kernel
theorem dL_law_595 : decode cL_law 595 = .ok (.aload_n 0, 1) := by decide +kernel
theorem dL_law_596 : decode cL_law 596 = .ok (.iload_n 3, 1) := by decide +kernel
theorem dL_law_597 : decode cL_law 597 = .ok (.iconst 1, 1) := by decide +kernel
theorem dL_law_598 : decode cL_law 598 = .ok (.iadd, 1) := by decide +kernel
theorem dL_law_599 : decode cL_law 599 = .ok (.iaload, 1) := by decide +kernel
theorem dL_law_600 : decode cL_law 600 = .ok (.aload_n 0, 1) := by decide +kernel
theorem dL_law_601 : decode cL_law 601 = .ok (.iload_n 3, 1) := by decide +kernel
theorem dL_law_602 : decode cL_law 602 = .ok (.iconst 2, 1) := by decide +kernel
theorem dL_law_603 : decode cL_law 603 = .ok (.iadd, 1) := by decide +kernel
theorem dL_law_604 : decode cL_law 604 = .ok (.iaload, 1) := by decide +kernel
theorem dL_law_605 : decode cL_law 605 = .ok (.invokevirtual 76, 3) := by decide +kernel
theorem dL_law_608 : decode cL_law 608 = .ok (.if_icmp .eq 712, 3) := by decide +kernel
theorem dL_law_611 : decode cL_law 611 = .ok (.iconst 0, 1) := by decide +kernel
theorem dL_law_612 : decode cL_law 612 = .ok (.ireturn, 1) := by decide +kernel
theorem dL_law_613 : decode cL_law 613 = .ok (.aload_n 1, 1) := by decide +kernel
theorem dL_law_614 : decode cL_law 614 = .ok (.aload_n 0, 1) := by decide +kernel
theorem dL_law_615 : decode cL_law 615 = .ok (.iload_n 3, 1) := by decide +kernel
theorem dL_law_616 : decode cL_law 616 = .ok (.iconst 1, 1) := by decide +kernel
theorem dL_law_617 : decode cL_law 617 = .ok (.iadd, 1) := by decide +kernel
theorem dL_law_618 : decode cL_law 618 = .ok (.iaload, 1) := by decide +kernel
theorem dL_law_619 : decode cL_law 619 = .ok (.aload_n 0, 1) := by decide +kernel
theorem dL_law_620 : decode cL_law 620 = .ok (.iload_n 3, 1) := by decide +kernel
theorem dL_law_621 : decode cL_law 621 = .ok (.iconst 2, 1) := by decide +kernel
theorem dL_law_622 : decode cL_law 622 = .ok (.iadd, 1) := by decide +kernel
theorem dL_law_623 : decode cL_law 623 = .ok (.iaload, 1) := by decide +kernel
theorem dL_law_624 : decode cL_law 624 = .ok (.invokevirtual 77, 3) := by decide +kernel
theorem dL_law_627 : decode cL_law 627 = .ok (.aload_n 2, 1) := by decide +kernel
theorem dL_law_628 : decode cL_law 628 = .ok (.aload_n 0, 1) := by decide +kernel
theorem dL_law_629 : decode cL_law 629 = .ok (.iload_n 3, 1) := by decide +kernel
theorem dL_law_630 : decode cL_law 630 = .ok (.iconst 1, 1) := by decide +kernel
theorem dL_law_631 : decode cL_law 631 = .ok (.iadd, 1) := by decide +kernel
theorem dL_law_632 : decode cL_law 632 = .ok (.iaload, 1) := by decide +kernel
theorem dL_law_633 : decode cL_law 633 = .ok (.aload_n 0, 1) := by decide +kernel
theorem dL_law_634 : decode cL_law 634 = .ok (.iload_n 3, 1) := by decide +kernel
theorem dL_law_635 : decode cL_law 635 = .ok (.iconst 2, 1) := by decide +kernel
theorem dL_law_636 : decode cL_law 636 = .ok (.iadd, 1) := by decide +kernel
theorem dL_law_637 : decode cL_law 637 = .ok (.iaload, 1) := by decide +kernel
theorem dL_law_638 : decode cL_law 638 = .ok (.invokevirtual 80, 3) := by decide +kernel
theorem dL_law_641 : decode cL_law 641 = .ok (.if_icmp .eq 679, 3) := by decide +kernel
theorem dL_law_644 : decode cL_law 644 = .ok (.iconst 0, 1) := by decide +kernel
theorem dL_law_645 : decode cL_law 645 = .ok (.ireturn, 1) := by decide +kernel
theorem dL_law_646 : decode cL_law 646 = .ok (.aload_n 1, 1) := by decide +kernel
theorem dL_law_647 : decode cL_law 647 = .ok (.aload_n 0, 1) := by decide +kernel
theorem dL_law_648 : decode cL_law 648 = .ok (.iload_n 3, 1) := by decide +kernel
theorem dL_law_649 : decode cL_law 649 = .ok (.iconst 1, 1) := by decide +kernel
theorem dL_law_650 : decode cL_law 650 = .ok (.iadd, 1) := by decide +kernel
theorem dL_law_651 : decode cL_law 651 = .ok (.iaload, 1) := by decide +kernel
theorem dL_law_652 : decode cL_law 652 = .ok (.invokevirtual 81, 3) := by decide +kernel
theorem dL_law_655 : decode cL_law 655 = .ok (.aload_n 2, 1) := by decide +kernel
theorem dL_law_656 : decode cL_law 656 = .ok (.aload_n 0, 1) := by decide +kernel
theorem dL_law_657 : decode cL_law 657 = .ok (.iload_n 3, 1) := by decide +kernel
theorem dL_law_658 : decode cL_law 658 = .ok (.iconst 1, 1) := by decide +kernel
theorem dL_law_659 : decode cL_law 659 = .ok (.iadd, 1) := by decide +kernel
theorem dL_law_660 : decode cL_law 660 = .ok (.iaload, 1) := by decide +kernel
theorem dL_law_661 : decode cL_law 661 = .ok (.invokevirtual 84, 3) := by decide +kernel
theorem dL_law_664 : decode cL_law 664 = .ok (.if_icmp .eq 656, 3) := by decide +kernel
theorem dL_law_667 : decode cL_law 667 = .ok (.iconst 0, 1) := by decide +kernel
theorem dL_law_668 : decode cL_law 668 = .ok (.ireturn, 1) := by decide +kernel
theorem dL_law_669 : decode cL_law 669 = .ok (.aload_n 1, 1) := by decide +kernel
theorem dL_law_670 : decode cL_law 670 = .ok (.aload_n 0, 1) := by decide +kernel
theorem dL_law_671 : decode cL_law 671 = .ok (.iload_n 3, 1) := by decide +kernel
theorem dL_law_672 : decode cL_law 672 = .ok (.iconst 1, 1) := by decide +kernel
theorem dL_law_673 : decode cL_law 673 = .ok (.iadd, 1) := by decide +kernel
theorem dL_law_674 : decode cL_law 674 = .ok (.iaload, 1) := by decide +kernel
theorem dL_law_675 : decode cL_law 675 = .ok (.aload_n 0, 1) := by decide +kernel
theorem dL_law_676 : decode cL_law 676 = .ok (.iload_n 3, 1) := by decide +kernel
theorem dL_law_677 : decode cL_law 677 = .ok (.iconst 2, 1) := by decide +kernel
theorem dL_law_678 : decode cL_law 678 = .ok (.iadd, 1) := by decide +kernel
theorem dL_law_679 : decode cL_law 679 = .ok (.iaload, 1) := by decide +kernel
theorem dL_law_680 : decode cL_law 680 = .ok (.aload_n 0, 1) := by decide +kernel
theorem dL_law_681 : decode cL_law 681 = .ok (.iload_n 3, 1) := by decide +kernel
theorem dL_law_682 : decode cL_law 682 = .ok (.iconst 3, 1) := by decide +kernel
theorem dL_law_683 : decode cL_law 683 = .ok (.iadd, 1) := by decide +kernel
theorem dL_law_684 : decode cL_law 684 = .ok (.iaload, 1) := by decide +kernel
theorem dL_law_685 : decode cL_law 685 = .ok (.invokevirtual 85, 3) := by decide +kernel
theorem dL_law_688 : decode cL_law 688 = .ok (.aload_n 2, 1) := by decide +kernel
theorem dL_law_689 : decode cL_law 689 = .ok (.aload_n 0, 1) := by decide +kernel
theorem dL_law_690 : decode cL_law 690 = .ok (.iload_n 3, 1) := by decide +kernel
theorem dL_law_691 : decode cL_law 691 = .ok (.iconst 1, 1) := by decide +kernel
theorem dL_law_692 : decode cL_law 692 = .ok (.iadd, 1) := by decide +kernel
theorem dL_law_693 : decode cL_law 693 = .ok (.iaload, 1) := by decide +kernel
theorem dL_law_694 : decode cL_law 694 = .ok (.aload_n 0, 1) := by decide +kernel
theorem dL_law_695 : decode cL_law 695 = .ok (.iload_n 3, 1) := by decide +kernel
theorem dL_law_696 : decode cL_law 696 = .ok (.iconst 2, 1) := by decide +kernel
theorem dL_law_697 : decode cL_law 697 = .ok (.iadd, 1) := by decide +kernel
theorem dL_law_698 : decode cL_law 698 = .ok (.iaload, 1) := by decide +kernel
theorem dL_law_699 : decode cL_law 699 = .ok (.aload_n 0, 1) := by decide +kernel
theorem dL_law_700 : decode cL_law 700 = .ok (.iload_n 3, 1) := by decide +kernel
theorem dL_law_701 : decode cL_law 701 = .ok (.iconst 3, 1) := by decide +kernel
theorem dL_law_702 : decode cL_law 702 = .ok (.iadd, 1) := by decide +kernel
theorem dL_law_703 : decode cL_law 703 = .ok (.iaload, 1) := by decide +kernel
theorem dL_law_704 : decode cL_law 704 = .ok (.invokevirtual 88, 3) := by decide +kernel
theorem dL_law_707 : decode cL_law 707 = .ok (.if_icmp .eq 613, 3) := by decide +kernel
theorem dL_law_710 : decode cL_law 710 = .ok (.iconst 0, 1) := by decide +kernel
theorem dL_law_711 : decode cL_law 711 = .ok (.ireturn, 1) := by decide +kernel
theorem dL_law_712 : decode cL_law 712 = .ok (.aload_n 1, 1) := by decide +kernel
theorem dL_law_713 : decode cL_law 713 = .ok (.aload_n 0, 1) := by decide +kernel
theorem dL_law_714 : decode cL_law 714 = .ok (.iload_n 3, 1) := by decide +kernel
theorem dL_law_715 : decode cL_law 715 = .ok (.iconst 1, 1) := by decide +kernel
theorem dL_law_716 : decode cL_law 716 = .ok (.iadd, 1) := by decide +kernel
theorem dL_law_717 : decode cL_law 717 = .ok (.iaload, 1) := by decide +kernel
theorem dL_law_718 : decode cL_law 718 = .ok (.invokevirtual 89, 3) := by decide +kernel
theorem dL_law_721 : decode cL_law 721 = .ok (.aload_n 2, 1) := by decide +kernel
theorem dL_law_722 : decode cL_law 722 = .ok (.aload_n 0, 1) := by decide +kernel
theorem dL_law_723 : decode cL_law 723 = .ok (.iload_n 3, 1) := by decide +kernel
theorem dL_law_724 : decode cL_law 724 = .ok (.iconst 1, 1) := by decide +kernel
theorem dL_law_725 : decode cL_law 725 = .ok (.iadd, 1) := by decide +kernel
theorem dL_law_726 : decode cL_law 726 = .ok (.iaload, 1) := by decide +kernel
theorem dL_law_727 : decode cL_law 727 = .ok (.invokevirtual 92, 3) := by decide +kernel
theorem dL_law_730 : decode cL_law 730 = .ok (.if_icmp .eq 590, 3) := by decide +kernel
theorem dL_law_733 : decode cL_law 733 = .ok (.iconst 0, 1) := by decide +kernel
theorem dL_law_734 : decode cL_law 734 = .ok (.ireturn, 1) := by decide +kernel
theorem dL_law_735 : decode cL_law 735 = .ok (.aload_n 1, 1) := by decide +kernel
theorem dL_law_736 : decode cL_law 736 = .ok (.aload_n 0, 1) := by decide +kernel
theorem dL_law_737 : decode cL_law 737 = .ok (.iload_n 3, 1) := by decide +kernel
theorem dL_law_738 : decode cL_law 738 = .ok (.iconst 1, 1) := by decide +kernel
theorem dL_law_739 : decode cL_law 739 = .ok (.iadd, 1) := by decide +kernel
theorem dL_law_740 : decode cL_law 740 = .ok (.iaload, 1) := by decide +kernel
theorem dL_law_741 : decode cL_law 741 = .ok (.invokevirtual 93, 3) := by decide +kernel
theorem dL_law_744 : decode cL_law 744 = .ok (.aload_n 2, 1) := by decide +kernel
theorem dL_law_745 : decode cL_law 745 = .ok (.aload_n 0, 1) := by decide +kernel
theorem dL_law_746 : decode cL_law 746 = .ok (.iload_n 3, 1) := by decide +kernel
theorem dL_law_747 : decode cL_law 747 = .ok (.iconst 1, 1) := by decide +kernel
theorem dL_law_748 : decode cL_law 748 = .ok (.iadd, 1) := by decide +kernel
theorem dL_law_749 : decode cL_law 749 = .ok (.iaload, 1) := by decide +kernel
theorem dL_law_750 : decode cL_law 750 = .ok (.invokevirtual 96, 3) := by decide +kernel
theorem dL_law_753 : decode cL_law 753 = .ok (.if_icmp .eq 567, 3) := by decide +kernel
theorem dL_law_756 : decode cL_law 756 = .ok (.iconst 0, 1) := by decide +kernel
theorem dL_law_757 : decode cL_law 757 = .ok (.ireturn, 1) := by decide +kernel
theorem dL_law_758 : decode cL_law 758 = .ok (.aload_n 1, 1) := by decide +kernel
theorem dL_law_759 : decode cL_law 759 = .ok (.aload_n 0, 1) := by decide +kernel
theorem dL_law_760 : decode cL_law 760 = .ok (.iload_n 3, 1) := by decide +kernel
theorem dL_law_761 : decode cL_law 761 = .ok (.iconst 1, 1) := by decide +kernel
theorem dL_law_762 : decode cL_law 762 = .ok (.iadd, 1) := by decide +kernel
theorem dL_law_763 : decode cL_law 763 = .ok (.iaload, 1) := by decide +kernel
theorem dL_law_764 : decode cL_law 764 = .ok (.invokevirtual 97, 3) := by decide +kernel
theorem dL_law_767 : decode cL_law 767 = .ok (.aload_n 2, 1) := by decide +kernel
theorem dL_law_768 : decode cL_law 768 = .ok (.aload_n 0, 1) := by decide +kernel
theorem dL_law_769 : decode cL_law 769 = .ok (.iload_n 3, 1) := by decide +kernel
theorem dL_law_770 : decode cL_law 770 = .ok (.iconst 1, 1) := by decide +kernel
theorem dL_law_771 : decode cL_law 771 = .ok (.iadd, 1) := by decide +kernel
theorem dL_law_772 : decode cL_law 772 = .ok (.iaload, 1) := by decide +kernel
theorem dL_law_773 : decode cL_law 773 = .ok (.invokevirtual 100, 3) := by decide +kernel
theorem dL_law_776 : decode cL_law 776 = .ok (.if_icmp .eq 544, 3) := by decide +kernel
theorem dL_law_779 : decode cL_law 779 = .ok (.iconst 0, 1) := by decide +kernel
theorem dL_law_780 : decode cL_law 780 = .ok (.ireturn, 1) := by decide +kernel
theorem dL_law_781 : decode cL_law 781 = .ok (.aload_n 1, 1) := by decide +kernel
theorem dL_law_782 : decode cL_law 782 = .ok (.invokevirtual 101, 3) := by decide +kernel
theorem dL_law_785 : decode cL_law 785 = .ok (.aload_n 2, 1) := by decide +kernel
theorem dL_law_786 : decode cL_law 786 = .ok (.invokevirtual 104, 3) := by decide +kernel
theorem dL_law_789 : decode cL_law 789 = .ok (.if_icmp .eq 531, 3) := by decide +kernel
theorem dL_law_792 : decode cL_law 792 = .ok (.iconst 0, 1) := by decide +kernel
theorem dL_law_793 : decode cL_law 793 = .ok (.ireturn, 1) := by decide +kernel
theorem dL_law_794 : decode cL_law 794 = .ok (.aload_n 1, 1) := by decide +kernel
theorem dL_law_795 : decode cL_law 795 = .ok (.aload_n 0, 1) := by decide +kernel
theorem dL_law_796 : decode cL_law 796 = .ok (.iload_n 3, 1) := by decide +kernel
theorem dL_law_797 : decode cL_law 797 = .ok (.iconst 1, 1) := by decide +kernel
theorem dL_law_798 : decode cL_law 798 = .ok (.iadd, 1) := by decide +kernel
theorem dL_law_799 : decode cL_law 799 = .ok (.iaload, 1) := by decide +kernel
theorem dL_law_800 : decode cL_law 800 = .ok (.aload_n 0, 1) := by decide +kernel
theorem dL_law_801 : decode cL_law 801 = .ok (.iload_n 3, 1) := by decide +kernel
theorem dL_law_802 : decode cL_law 802 = .ok (.iconst 2, 1) := by decide +kernel
theorem dL_law_803 : decode cL_law 803 = .ok (.iadd, 1) := by decide +kernel
theorem dL_law_804 : decode cL_law 804 = .ok (.iaload, 1) := by decide +kernel
theorem dL_law_805 : decode cL_law 805 = .ok (.aload_n 0, 1) := by decide +kernel
theorem dL_law_806 : decode cL_law 806 = .ok (.iload_n 3, 1) := by decide +kernel
theorem dL_law_807 : decode cL_law 807 = .ok (.iconst 3, 1) := by decide +kernel
theorem dL_law_808 : decode cL_law 808 = .ok (.iadd, 1) := by decide +kernel
theorem dL_law_809 : decode cL_law 809 = .ok (.iaload, 1) := by decide +kernel
theorem dL_law_810 : decode cL_law 810 = .ok (.invokevirtual 105, 3) := by decide +kernel
theorem dL_law_813 : decode cL_law 813 = .ok (.aload_n 2, 1) := by decide +kernel
theorem dL_law_814 : decode cL_law 814 = .ok (.aload_n 0, 1) := by decide +kernel
theorem dL_law_815 : decode cL_law 815 = .ok (.iload_n 3, 1) := by decide +kernel
theorem dL_law_816 : decode cL_law 816 = .ok (.iconst 1, 1) := by decide +kernel
theorem dL_law_817 : decode cL_law 817 = .ok (.iadd, 1) := by decide +kernel
theorem dL_law_818 : decode cL_law 818 = .ok (.iaload, 1) := by decide +kernel
theorem dL_law_819 : decode cL_law 819 = .ok (.aload_n 0, 1) := by decide +kernel
theorem dL_law_820 : decode cL_law 820 = .ok (.iload_n 3, 1) := by decide +kernel
theorem dL_law_821 : decode cL_law 821 = .ok (.iconst 2, 1) := by decide +kernel
theorem dL_law_822 : decode cL_law 822 = .ok (.iadd, 1) := by decide +kernel
theorem dL_law_823 : decode cL_law 823 = .ok (.iaload, 1) := by decide +kernel
theorem dL_law_824 : decode cL_law 824 = .ok (.aload_n 0, 1) := by decide +kernel
theorem dL_law_825 : decode cL_law 825 = .ok (.iload_n 3, 1) := by decide +kernel
theorem dL_law_826 : decode cL_law 826 = .ok (.iconst 3, 1) := by decide +kernel
theorem dL_law_827 : decode cL_law 827 = .ok (.iadd, 1) := by decide +kernel
theorem dL_law_828 : decode cL_law 828 = .ok (.iaload, 1) := by decide +kernel
theorem dL_law_829 : decode cL_law 829 = .ok (.invokevirtual 108, 3) := by decide +kernel
theorem dL_law_832 : decode cL_law 832 = .ok (.if_icmp .eq 488, 3) := by decide +kernel
theorem dL_law_835 : decode cL_law 835 = .ok (.iconst 0, 1) := by decide +kernel
theorem dL_law_836 : decode cL_law 836 = .ok (.ireturn, 1) := by decide +kernel
theorem dL_law_837 : decode cL_law 837 = .ok (.aload_n 1, 1) := by decide +kernel
theorem dL_law_838 : decode cL_law 838 = .ok (.aload_n 0, 1) := by decide +kernel
theorem dL_law_839 : decode cL_law 839 = .ok (.iload_n 3, 1) := by decide +kernel
theorem dL_law_840 : decode cL_law 840 = .ok (.iconst 1, 1) := by decide +kernel
theorem dL_law_841 : decode cL_law 841 = .ok (.iadd, 1) := by decide +kernel
theorem dL_law_842 : decode cL_law 842 = .ok (.iaload, 1) := by decide +kernel
theorem dL_law_843 : decode cL_law 843 = .ok (.invokevirtual 109, 3) := by decide +kernel
theorem dL_law_846 : decode cL_law 846 = .ok (.aload_n 2, 1) := by decide +kernel
theorem dL_law_847 : decode cL_law 847 = .ok (.aload_n 0, 1) := by decide +kernel
theorem dL_law_848 : decode cL_law 848 = .ok (.iload_n 3, 1) := by decide +kernel
theorem dL_law_849 : decode cL_law 849 = .ok (.iconst 1, 1) := by decide +kernel
theorem dL_law_850 : decode cL_law 850 = .ok (.iadd, 1) := by decide +kernel
theorem dL_law_851 : decode cL_law 851 = .ok (.iaload, 1) := by decide +kernel
theorem dL_law_852 : decode cL_law 852 = .ok (.invokevirtual 112, 3) := by decide +kernel
theorem dL_law_855 : decode cL_law 855 = .ok (.if_icmp .eq 465, 3) := by decide +kernel
theorem dL_law_858 : decode cL_law 858 = .ok (.iconst 0, 1) := by decide +kernel
theorem dL_law_859 : decode cL_law 859 = .ok (.ireturn, 1) := by decide +kernel
theorem dL_law_860 : decode cL_law 860 = .ok (.aload_n 1, 1) := by decide +kernel
theorem dL_law_861 : decode cL_law 861 = .ok (.aload_n 0, 1) := by decide +kernel
theorem dL_law_862 : decode cL_law 862 = .ok (.iload_n 3, 1) := by decide +kernel
theorem dL_law_863 : decode cL_law 863 = .ok (.iconst 1, 1) := by decide +kernel
theorem dL_law_864 : decode cL_law 864 = .ok (.iadd, 1) := by decide +kernel
theorem dL_law_865 : decode cL_law 865 = .ok (.iaload, 1) := by decide +kernel
theorem dL_law_866 : decode cL_law 866 = .ok (.aload_n 0, 1) := by decide +kernel
theorem dL_law_867 : decode cL_law 867 = .ok (.iload_n 3, 1) := by decide +kernel
theorem dL_law_868 : decode cL_law 868 = .ok (.iconst 2, 1) := by decide +kernel
theorem dL_law_869 : decode cL_law 869 = .ok (.iadd, 1) := by decide +kernel
theorem dL_law_870 : decode cL_law 870 = .ok (.iaload, 1) := by decide +kernel
theorem dL_law_871 : decode cL_law 871 = .ok (.aload_n 0, 1) := by decide +kernel
theorem dL_law_872 : decode cL_law 872 = .ok (.iload_n 3, 1) := by decide +kernel
theorem dL_law_873 : decode cL_law 873 = .ok (.iconst 3, 1) := by decide +kernel
theorem dL_law_874 : decode cL_law 874 = .ok (.iadd, 1) := by decide +kernel
theorem dL_law_875 : decode cL_law 875 = .ok (.iaload, 1) := by decide +kernel
theorem dL_law_876 : decode cL_law 876 = .ok (.aload_n 0, 1) := by decide +kernel
theorem dL_law_877 : decode cL_law 877 = .ok (.iload_n 3, 1) := by decide +kernel
theorem dL_law_878 : decode cL_law 878 = .ok (.iconst 4, 1) := by decide +kernel
theorem dL_law_879 : decode cL_law 879 = .ok (.iadd, 1) := by decide +kernel
theorem dL_law_880 : decode cL_law 880 = .ok (.iaload, 1) := by decide +kernel
theorem dL_law_881 : decode cL_law 881 = .ok (.aload_n 0, 1) := by decide +kernel
theorem dL_law_882 : decode cL_law 882 = .ok (.iload_n 3, 1) := by decide +kernel
theorem dL_law_883 : decode cL_law 883 = .ok (.iconst 5, 1) := by decide +kernel
theorem dL_law_884 : decode cL_law 884 = .ok (.iadd, 1) := by decide +kernel
theorem dL_law_885 : decode cL_law 885 = .ok (.iaload, 1) := by decide +kernel
theorem dL_law_886 : decode cL_law 886 = .ok (.invokevirtual 113, 3) := by decide +kernel
theorem dL_law_889 : decode cL_law 889 = .ok (.aload_n 2, 1) := by decide +kernel
theorem dL_law_890 : decode cL_law 890 = .ok (.aload_n 0, 1) := by decide +kernel
theorem dL_law_891 : decode cL_law 891 = .ok (.iload_n 3, 1) := by decide +kernel
theorem dL_law_892 : decode cL_law 892 = .ok (.iconst 1, 1) := by decide +kernel
theorem dL_law_893 : decode cL_law 893 = .ok (.iadd, 1) := by decide +kernel
theorem dL_law_894 : decode cL_law 894 = .ok (.iaload, 1) := by decide +kernel
theorem dL_law_895 : decode cL_law 895 = .ok (.aload_n 0, 1) := by decide +kernel
theorem dL_law_896 : decode cL_law 896 = .ok (.iload_n 3, 1) := by decide +kernel
theorem dL_law_897 : decode cL_law 897 = .ok (.iconst 2, 1) := by decide +kernel
theorem dL_law_898 : decode cL_law 898 = .ok (.iadd, 1) := by decide +kernel
theorem dL_law_899 : decode cL_law 899 = .ok (.iaload, 1) := by decide +kernel
theorem dL_law_900 : decode cL_law 900 = .ok (.aload_n 0, 1) := by decide +kernel
theorem dL_law_901 : decode cL_law 901 = .ok (.iload_n 3, 1) := by decide +kernel
theorem dL_law_902 : decode cL_law 902 = .ok (.iconst 3, 1) := by decide +kernel
theorem dL_law_903 : decode cL_law 903 = .ok (.iadd, 1) := by decide +kernel
theorem dL_law_904 : decode cL_law 904 = .ok (.iaload, 1) := by decide +kernel
theorem dL_law_905 : decode cL_law 905 = .ok (.aload_n 0, 1) := by decide +kernel
theorem dL_law_906 : decode cL_law 906 = .ok (.iload_n 3, 1) := by decide +kernel
theorem dL_law_907 : decode cL_law 907 = .ok (.iconst 4, 1) := by decide +kernel
theorem dL_law_908 : decode cL_law 908 = .ok (.iadd, 1) := by decide +kernel
theorem dL_law_909 : decode cL_law 909 = .ok (.iaload, 1) := by decide +kernel
theorem dL_law_910 : decode cL_law 910 = .ok (.aload_n 0, 1) := by decide +kernel
theorem dL_law_911 : decode cL_law 911 = .ok (.iload_n 3, 1) := by decide +kernel
theorem dL_law_912 : decode cL_law 912 = .ok (.iconst 5, 1) := by decide +kernel
theorem dL_law_913 : decode cL_law 913 = .ok (.iadd, 1) := by decide +kernel
theorem dL_law_914 : decode cL_law 914 = .ok (.iaload, 1) := by decide +kernel
theorem dL_law_915 : decode cL_law 915 = .ok (.invokevirtual 117, 3) := by decide +kernel
theorem dL_law_918 : decode cL_law 918 = .ok (.if_icmp .eq 402, 3) := by decide +kernel
theorem dL_law_921 : decode cL_law 921 = .ok (.iconst 0, 1) := by decide +kernel
theorem dL_law_922 : decode cL_law 922 = .ok (.ireturn, 1) := by decide +kernel
theorem dL_law_923 : decode cL_law 923 = .ok (.aload_n 1, 1) := by decide +kernel
theorem dL_law_924 : decode cL_law 924 = .ok (.aload_n 0, 1) := by decide +kernel
theorem dL_law_925 : decode cL_law 925 = .ok (.iload_n 3, 1) := by decide +kernel
theorem dL_law_926 : decode cL_law 926 = .ok (.iconst 1, 1) := by decide +kernel
theorem dL_law_927 : decode cL_law 927 = .ok (.iadd, 1) := by decide +kernel
theorem dL_law_928 : decode cL_law 928 = .ok (.iaload, 1) := by decide +kernel
theorem dL_law_929 : decode cL_law 929 = .ok (.aload_n 0, 1) := by decide +kernel
theorem dL_law_930 : decode cL_law 930 = .ok (.iload_n 3, 1) := by decide +kernel
theorem dL_law_931 : decode cL_law 931 = .ok (.iconst 2, 1) := by decide +kernel
theorem dL_law_932 : decode cL_law 932 = .ok (.iadd, 1) := by decide +kernel
theorem dL_law_933 : decode cL_law 933 = .ok (.iaload, 1) := by decide +kernel
theorem dL_law_934 : decode cL_law 934 = .ok (.aload_n 0, 1) := by decide +kernel
theorem dL_law_935 : decode cL_law 935 = .ok (.iload_n 3, 1) := by decide +kernel
theorem dL_law_936 : decode cL_law 936 = .ok (.iconst 3, 1) := by decide +kernel
theorem dL_law_937 : decode cL_law 937 = .ok (.iadd, 1) := by decide +kernel
theorem dL_law_938 : decode cL_law 938 = .ok (.iaload, 1) := by decide +kernel
theorem dL_law_939 : decode cL_law 939 = .ok (.aload_n 0, 1) := by decide +kernel
theorem dL_law_940 : decode cL_law 940 = .ok (.iload_n 3, 1) := by decide +kernel
theorem dL_law_941 : decode cL_law 941 = .ok (.iconst 4, 1) := by decide +kernel
theorem dL_law_942 : decode cL_law 942 = .ok (.iadd, 1) := by decide +kernel
theorem dL_law_943 : decode cL_law 943 = .ok (.iaload, 1) := by decide +kernel
theorem dL_law_944 : decode cL_law 944 = .ok (.invokevirtual 118, 3) := by decide +kernel
theorem dL_law_947 : decode cL_law 947 = .ok (.aload_n 2, 1) := by decide +kernel
theorem dL_law_948 : decode cL_law 948 = .ok (.aload_n 0, 1) := by decide +kernel
theorem dL_law_949 : decode cL_law 949 = .ok (.iload_n 3, 1) := by decide +kernel
theorem dL_law_950 : decode cL_law 950 = .ok (.iconst 1, 1) := by decide +kernel
theorem dL_law_951 : decode cL_law 951 = .ok (.iadd, 1) := by decide +kernel
theorem dL_law_952 : decode cL_law 952 = .ok (.iaload, 1) := by decide +kernel
theorem dL_law_953 : decode cL_law 953 = .ok (.aload_n 0, 1) := by decide +kernel
theorem dL_law_954 : decode cL_law 954 = .ok (.iload_n 3, 1) := by decide +kernel
theorem dL_law_955 : decode cL_law 955 = .ok (.iconst 2, 1) := by decide +kernel
theorem dL_law_956 : decode cL_law 956 = .ok (.iadd, 1) := by decide +kernel
theorem dL_law_957 : decode cL_law 957 = .ok (.iaload, 1) := by decide +kernel
theorem dL_law_958 : decode cL_law 958 = .ok (.aload_n 0, 1) := by decide +kernel
theorem dL_law_959 : decode cL_law 959 = .ok (.iload_n 3, 1) := by decide +kernel
theorem dL_law_960 : decode cL_law 960 = .ok (.iconst 3, 1) := by decide +kernel
theorem dL_law_961 : decode cL_law 961 = .ok (.iadd, 1) := by decide +kernel
theorem dL_law_962 : decode cL_law 962 = .ok (.iaload, 1) := by decide +kernel
theorem dL_law_963 : decode cL_law 963 = .ok (.aload_n 0, 1) := by decide +kernel
theorem dL_law_964 : decode cL_law 964 = .ok (.iload_n 3, 1) := by decide +kernel
theorem dL_law_965 : decode cL_law 965 = .ok (.iconst 4, 1) := by decide +kernel
theorem dL_law_966 : decode cL_law 966 = .ok (.iadd, 1) := by decide +kernel
theorem dL_law_967 : decode cL_law 967 = .ok (.iaload, 1) := by decide +kernel
theorem dL_law_968 : decode cL_law 968 = .ok (.invokevirtual 122, 3) := by decide +kernel
theorem dL_law_971 : decode cL_law 971 = .ok (.if_icmp .eq 349, 3) := by decide +kernel
theorem dL_law_974 : decode cL_law 974 = .ok (.iconst 0, 1) := by decide +kernel
theorem dL_law_975 : decode cL_law 975 = .ok (.ireturn, 1) := by decide +kernel
theorem dL_law_976 : decode cL_law 976 = .ok (.aload_n 1, 1) := by decide +kernel
theorem dL_law_977 : decode cL_law 977 = .ok (.aload_n 0, 1) := by decide +kernel
theorem dL_law_978 : decode cL_law 978 = .ok (.iload_n 3, 1) := by decide +kernel
theorem dL_law_979 : decode cL_law 979 = .ok (.iconst 1, 1) := by decide +kernel
theorem dL_law_980 : decode cL_law 980 = .ok (.iadd, 1) := by decide +kernel
theorem dL_law_981 : decode cL_law 981 = .ok (.iaload, 1) := by decide +kernel
theorem dL_law_982 : decode cL_law 982 = .ok (.invokevirtual 123, 3) := by decide +kernel
theorem dL_law_985 : decode cL_law 985 = .ok (.aload_n 2, 1) := by decide +kernel
theorem dL_law_986 : decode cL_law 986 = .ok (.aload_n 0, 1) := by decide +kernel
theorem dL_law_987 : decode cL_law 987 = .ok (.iload_n 3, 1) := by decide +kernel
theorem dL_law_988 : decode cL_law 988 = .ok (.iconst 1, 1) := by decide +kernel
theorem dL_law_989 : decode cL_law 989 = .ok (.iadd, 1) := by decide +kernel
theorem dL_law_990 : decode cL_law 990 = .ok (.iaload, 1) := by decide +kernel
theorem dL_law_991 : decode cL_law 991 = .ok (.invokevirtual 126, 3) := by decide +kernel
theorem dL_law_994 : decode cL_law 994 = .ok (.if_icmp .eq 326, 3) := by decide +kernel
theorem dL_law_997 : decode cL_law 997 = .ok (.iconst 0, 1) := by decide +kernel
theorem dL_law_998 : decode cL_law 998 = .ok (.ireturn, 1) := by decide +kernel
theorem dL_law_999 : decode cL_law 999 = .ok (.aload_n 1, 1) := by decide +kernel
theorem dL_law_1000 : decode cL_law 1000 = .ok (.aload_n 0, 1) := by decide +kernel
theorem dL_law_1001 : decode cL_law 1001 = .ok (.iload_n 3, 1) := by decide +kernel
theorem dL_law_1002 : decode cL_law 1002 = .ok (.iconst 1, 1) := by decide +kernel
theorem dL_law_1003 : decode cL_law 1003 = .ok (.iadd, 1) := by decide +kernel
theorem dL_law_1004 : decode cL_law 1004 = .ok (.iaload, 1) := by decide +kernel
theorem dL_law_1005 : decode cL_law 1005 = .ok (.invokevirtual 127, 3) := by decide +kernel
theorem dL_law_1008 : decode cL_law 1008 = .ok (.aload_n 2, 1) := by decide +kernel
theorem dL_law_1009 : decode cL_law 1009 = .ok (.aload_n 0, 1) := by decide +kernel
theorem dL_law_1010 : decode cL_law 1010 = .ok (.iload_n 3, 1) := by decide +kernel
theorem dL_law_1011 : decode cL_law 1011 = .ok (.iconst 1, 1) := by decide +kernel
theorem dL_law_1012 : decode cL_law 1012 = .ok (.iadd, 1) := by decide +kernel
theorem dL_law_1013 : decode cL_law 1013 = .ok (.iaload, 1) := by decide +kernel
theorem dL_law_1014 : decode cL_law 1014 = .ok (.invokevirtual 130, 3) := by decide +kernel
theorem dL_law_1017 : decode cL_law 1017 = .ok (.if_icmp .eq 303, 3) := by decide +kernel
theorem dL_law_1020 : decode cL_law 1020 = .ok (.iconst 0, 1) := by decide +kernel
theorem dL_law_1021 : decode cL_law 1021 = .ok (.ireturn, 1) := by decide +kernel
theorem dL_law_1022 : decode cL_law 1022 = .ok (.aload_n 1, 1) := by decide +kernel
theorem dL_law_1023 : decode cL_law 1023 = .ok (.aload_n 0, 1) := by decide +kernel
theorem dL_law_1024 : decode cL_law 1024 = .ok (.iload_n 3, 1) := by decide +kernel
theorem dL_law_1025 : decode cL_law 1025 = .ok (.iconst 1, 1) := by decide +kernel
theorem dL_law_1026 : decode cL_law 1026 = .ok (.iadd, 1) := by decide +kernel
theorem dL_law_1027 : decode cL_law 1027 = .ok (.iaload, 1) := by decide +kernel
theorem dL_law_1028 : decode cL_law 1028 = .ok (.invokevirtual 131, 3) := by decide +kernel
theorem dL_law_1031 : decode cL_law 1031 = .ok (.aload_n 2, 1) := by decide +kernel
theorem dL_law_1032 : decode cL_law 1032 = .ok (.aload_n 0, 1) := by decide +kernel
theorem dL_law_1033 : decode cL_law 1033 = .ok (.iload_n 3, 1) := by decide +kernel
theorem dL_law_1034 : decode cL_law 1034 = .ok (.iconst 1, 1) := by decide +kernel
theorem dL_law_1035 : decode cL_law 1035 = .ok (.iadd, 1) := by decide +kernel
theorem dL_law_1036 : decode cL_law 1036 = .ok (.iaload, 1) := by decide +kernel
theorem dL_law_1037 : decode cL_law 1037 = .ok (.invokevirtual 134, 3) := by decide +kernel
theorem dL_law_1040 : decode cL_law 1040 = .ok (.if_icmp .eq 280, 3) := by decide +kernel
theorem dL_law_1043 : decode cL_law 1043 = .ok (.iconst 0, 1) := by decide +kernel
theorem dL_law_1044 : decode cL_law 1044 = .ok (.ireturn, 1) := by decide +kernel
theorem dL_law_1045 : decode cL_law 1045 = .ok (.aload_n 1, 1) := by decide +kernel
theorem dL_law_1046 : decode cL_law 1046 = .ok (.aload_n 0, 1) := by decide +kernel
theorem dL_law_1047 : decode cL_law 1047 = .ok (.iload_n 3, 1) := by decide +kernel
theorem dL_law_1048 : decode cL_law 1048 = .ok (.iconst 1, 1) := by decide +kernel
theorem dL_law_1049 : decode cL_law 1049 = .ok (.iadd, 1) := by decide +kernel
theorem dL_law_1050 : decode cL_law 1050 = .ok (.iaload, 1) := by decide +kernel
theorem dL_law_1051 : decode cL_law 1051 = .ok (.invokevirtual 135, 3) := by decide +kernel
theorem dL_law_1054 : decode cL_law 1054 = .ok (.aload_n 2, 1) := by decide +kernel
theorem dL_law_1055 : decode cL_law 1055 = .ok (.aload_n 0, 1) := by decide +kernel
theorem dL_law_1056 : decode cL_law 1056 = .ok (.iload_n 3, 1) := by decide +kernel
theorem dL_law_1057 : decode cL_law 1057 = .ok (.iconst 1, 1) := by decide +kernel
theorem dL_law_1058 : decode cL_law 1058 = .ok (.iadd, 1) := by decide +kernel
theorem dL_law_1059 : decode cL_law 1059 = .ok (.iaload, 1) := by decide +kernel
theorem dL_law_1060 : decode cL_law 1060 = .ok (.invokevirtual 138, 3) := by decide +kernel
theorem dL_law_1063 : decode cL_law 1063 = .ok (.if_icmp .eq 257, 3) := by decide +kernel
theorem dL_law_1066 : decode cL_law 1066 = .ok (.iconst 0, 1) := by decide +kernel
theorem dL_law_1067 : decode cL_law 1067 = .ok (.ireturn, 1) := by decide +kernel
theorem dL_law_1068 : decode cL_law 1068 = .ok (.aload_n 1, 1) := by decide +kernel
theorem dL_law_1069 : decode cL_law 1069 = .ok (.aload_n 0, 1) := by decide +kernel
theorem dL_law_1070 : decode cL_law 1070 = .ok (.iload_n 3, 1) := by decide +kernel
theorem dL_law_1071 : decode cL_law 1071 = .ok (.iconst 1, 1) := by decide +kernel
theorem dL_law_1072 : decode cL_law 1072 = .ok (.iadd, 1) := by decide +kernel
theorem dL_law_1073 : decode cL_law 1073 = .ok (.iaload, 1) := by decide +kernel
theorem dL_law_1074 : decode cL_law 1074 = .ok (.invokevirtual 139, 3) := by decide +kernel
theorem dL_law_1077 : decode cL_law 1077 = .ok (.aload_n 2, 1) := by decide +kernel
theorem dL_law_1078 : decode cL_law 1078 = .ok (.aload_n 0, 1) := by decide +kernel
theorem dL_law_1079 : decode cL_law 1079 = .ok (.iload_n 3, 1) := by decide +kernel
theorem dL_law_1080 : decode cL_law 1080 = .ok (.iconst 1, 1) := by decide +kernel
theorem dL_law_1081 : decode cL_law 1081 = .ok (.iadd, 1) := by decide +kernel
theorem dL_law_1082 : decode cL_law 1082 = .ok (.iaload, 1) := by decide +kernel
theorem dL_law_1083 : decode cL_law 1083 = .ok (.invokevirtual 142, 3) := by decide +kernel
theorem dL_law_1086 : decode cL_law 1086 = .ok (.if_icmp .eq 234, 3) := by decide +kernel
theorem dL_law_1089 : decode cL_law 1089 = .ok (.iconst 0, 1) := by decide +kernel
theorem dL_law_1090 : decode cL_law 1090 = .ok (.ireturn, 1) := by decide +kernel
theorem dL_law_1091 : decode cL_law 1091 = .ok (.aload_n 1, 1) := by decide +kernel
theorem dL_law_1092 : decode cL_law 1092 = .ok (.aload_n 0, 1) := by decide +kernel
theorem dL_law_1093 : decode cL_law 1093 = .ok (.iload_n 3, 1) := by decide +kernel
theorem dL_law_1094 : decode cL_law 1094 = .ok (.iconst 1, 1) := by decide +kernel
theorem dL_law_1095 : decode cL_law 1095 = .ok (.iadd, 1) := by decide +kernel
theorem dL_law_1096 : decode cL_law 1096 = .ok (.iaload, 1) := by decide +kernel
theorem dL_law_1097 : decode cL_law 1097 = .ok (.invokevirtual 143, 3) := by decide +kernel
theorem dL_law_1100 : decode cL_law 1100 = .ok (.aload_n 2, 1) := by decide +kernel
theorem dL_law_1101 : decode cL_law 1101 = .ok (.aload_n 0, 1) := by decide +kernel
theorem dL_law_1102 : decode cL_law 1102 = .ok (.iload_n 3, 1) := by decide +kernel
theorem dL_law_1103 : decode cL_law 1103 = .ok (.iconst 1, 1) := by decide +kernel
theorem dL_law_1104 : decode cL_law 1104 = .ok (.iadd, 1) := by decide +kernel
theorem dL_law_1105 : decode cL_law 1105 = .ok (.iaload, 1) := by decide +kernel
theorem dL_law_1106 : decode cL_law 1106 = .ok (.invokevirtual 146, 3) := by decide +kernel
theorem dL_law_1109 : decode cL_law 1109 = .ok (.if_icmp .eq 211, 3) := by decide +kernel
theorem dL_law_1112 : decode cL_law 1112 = .ok (.iconst 0, 1) := by decide +kernel
theorem dL_law_1113 : decode cL_law 1113 = .ok (.ireturn, 1) := by decide +kernel
theorem dL_law_1114 : decode cL_law 1114 = .ok (.aload_n 1, 1) := by decide +kernel
theorem dL_law_1115 : decode cL_law 1115 = .ok (.aload_n 0, 1) := by decide +kernel
theorem dL_law_1116 : decode cL_law 1116 = .ok (.iload_n 3, 1) := by decide +kernel
theorem dL_law_1117 : decode cL_law 1117 = .ok (.iconst 1, 1) := by decide +kernel
theorem dL_law_1118 : decode cL_law 1118 = .ok (.iadd, 1) := by decide +kernel
theorem dL_law_1119 : decode cL_law 1119 = .ok (.iaload, 1) := by decide +kernel
theorem dL_law_1120 : decode cL_law 1120 = .ok (.aload_n 0, 1) := by decide +kernel
theorem dL_law_1121 : decode cL_law 1121 = .ok (.iload_n 3, 1) := by decide +kernel
theorem dL_law_1122 : decode cL_law 1122 = .ok (.iconst 2, 1) := by decide +kernel
theorem dL_law_1123 : decode cL_law 1123 = .ok (.iadd, 1) := by decide +kernel
theorem dL_law_1124 : decode cL_law 1124 = .ok (.iaload, 1) := by decide +kernel
theorem dL_law_1125 : decode cL_law 1125 = .ok (.aload_n 0, 1) := by decide +kernel
theorem dL_law_1126 : decode cL_law 1126 = .ok (.iload_n 3, 1) := by decide +kernel
theorem dL_law_1127 : decode cL_law 1127 = .ok (.iconst 3, 1) := by decide +kernel
theorem dL_law_1128 : decode cL_law 1128 = .ok (.iadd, 1) := by decide +kernel
theorem dL_law_1129 : decode cL_law 1129 = .ok (.iaload, 1) := by decide +kernel
theorem dL_law_1130 : decode cL_law 1130 = .ok (.invokevirtual 147, 3) := by decide +kernel
theorem dL_law_1133 : decode cL_law 1133 = .ok (.aload_n 2, 1) := by decide +kernel
theorem dL_law_1134 : decode cL_law 1134 = .ok (.aload_n 0, 1) := by decide +kernel
theorem dL_law_1135 : decode cL_law 1135 = .ok (.iload_n 3, 1) := by decide +kernel
theorem dL_law_1136 : decode cL_law 1136 = .ok (.iconst 1, 1) := by decide +kernel
theorem dL_law_1137 : decode cL_law 1137 = .ok (.iadd, 1) := by decide +kernel
theorem dL_law_1138 : decode cL_law 1138 = .ok (.iaload, 1) := by decide +kernel
theorem dL_law_1139 : decode cL_law 1139 = .ok (.aload_n 0, 1) := by decide +kernel
theorem dL_law_1140 : decode cL_law 1140 = .ok (.iload_n 3, 1) := by decide +kernel
theorem dL_law_1141 : decode cL_law 1141 = .ok (.iconst 2, 1) := by decide +kernel
theorem dL_law_1142 : decode cL_law 1142 = .ok (.iadd, 1) := by decide +kernel
theorem dL_law_1143 : decode cL_law 1143 = .ok (.iaload, 1) := by decide +kernel
theorem dL_law_1144 : decode cL_law 1144 = .ok (.aload_n 0, 1) := by decide +kernel
theorem dL_law_1145 : decode cL_law 1145 = .ok (.iload_n 3, 1) := by decide +kernel
theorem dL_law_1146 : decode cL_law 1146 = .ok (.iconst 3, 1) := by decide +kernel
theorem dL_law_1147 : decode cL_law 1147 = .ok (.iadd, 1) := by decide +kernel
theorem dL_law_1148 : decode cL_law 1148 = .ok (.iaload, 1) := by decide +kernel
theorem dL_law_1149 : decode cL_law 1149 = .ok (.invokevirtual 150, 3) := by decide +kernel
theorem dL_law_1152 : decode cL_law 1152 = .ok (.if_icmp .eq 168, 3) := by decide +kernel
theorem dL_law_1155 : decode cL_law 1155 = .ok (.iconst 0, 1) := by decide +kernel
theorem dL_law_1156 : decode cL_law 1156 = .ok (.ireturn, 1) := by decide +kernel
theorem dL_law_1157 : decode cL_law 1157 = .ok (.aload_n 1, 1) := by decide +kernel
theorem dL_law_1158 : decode cL_law 1158 = .ok (.aload_n 0, 1) := by decide +kernel
theorem dL_law_1159 : decode cL_law 1159 = .ok (.iload_n 3, 1) := by decide +kernel
theorem dL_law_1160 : decode cL_law 1160 = .ok (.iconst 1, 1) := by decide +kernel
theorem dL_law_1161 : decode cL_law 1161 = .ok (.iadd, 1) := by decide +kernel
theorem dL_law_1162 : decode cL_law 1162 = .ok (.iaload, 1) := by decide +kernel
theorem dL_law_1163 : decode cL_law 1163 = .ok (.aload_n 0, 1) := by decide +kernel
theorem dL_law_1164 : decode cL_law 1164 = .ok (.iload_n 3, 1) := by decide +kernel
theorem dL_law_1165 : decode cL_law 1165 = .ok (.iconst 2, 1) := by decide +kernel
theorem dL_law_1166 : decode cL_law 1166 = .ok (.iadd, 1) := by decide +kernel
theorem dL_law_1167 : decode cL_law 1167 = .ok (.iaload, 1) := by decide +kernel
theorem dL_law_1168 : decode cL_law 1168 = .ok (.invokevirtual 151, 3) := by decide +kernel
theorem dL_law_1171 : decode cL_law 1171 = .ok (.aload_n 2, 1) := by decide +kernel
theorem dL_law_1172 : decode cL_law 1172 = .ok (.aload_n 0, 1) := by decide +kernel
theorem dL_law_1173 : decode cL_law 1173 = .ok (.iload_n 3, 1) := by decide +kernel
theorem dL_law_1174 : decode cL_law 1174 = .ok (.iconst 1, 1) := by decide +kernel
theorem dL_law_1175 : decode cL_law 1175 = .ok (.iadd, 1) := by decide +kernel
theorem dL_law_1176 : decode cL_law 1176 = .ok (.iaload, 1) := by decide +kernel
theorem dL_law_1177 : decode cL_law 1177 = .ok (.aload_n 0, 1) := by decide +kernel
theorem dL_law_1178 : decode cL_law 1178 = .ok (.iload_n 3, 1) := by decide +kernel
theorem dL_law_1179 : decode cL_law 1179 = .ok (.iconst 2, 1) := by decide +kernel
theorem dL_law_1180 : decode cL_law 1180 = .ok (.iadd, 1) := by decide +kernel
theorem dL_law_1181 : decode cL_law 1181 = .ok (.iaload, 1) := by decide +kernel
theorem dL_law_1182 : decode cL_law 1182 = .ok (.invokevirtual 154, 3) := by decide +kernel
theorem dL_law_1185 : decode cL_law 1185 = .ok (.if_icmp .eq 135, 3) := by decide +kernel
theorem dL_law_1188 : decode cL_law 1188 = .ok (.iconst 0, 1) := by decide +kernel
theorem dL_law_1189 : decode cL_law 1189 = .ok (.ireturn, 1) := by decide +kernel
theorem dL_law_1190 : decode cL_law 1190 = .ok (.aload_n 1, 1) := by decide +kernel
theorem dL_law_1191 : decode cL_law 1191 = .ok (.aload_n 0, 1) := by decide +kernel
theorem dL_law_1192 : decode cL_law 1192 = .ok (.iload_n 3, 1) := by decide +kernel
theorem dL_law_1193 : decode cL_law 1193 = .ok (.iconst 1, 1) := by decide +kernel
theorem dL_law_1194 : decode cL_law 1194 = .ok (.iadd, 1) := by decide +kernel
theorem dL_law_1195 : decode cL_law 1195 = .ok (.iaload, 1) := by decide +kernel
theorem dL_law_1196 : decode cL_law 1196 = .ok (.invokevirtual 155, 3) := by decide +kernel
theorem dL_law_1199 : decode cL_law 1199 = .ok (.aload_n 2, 1) := by decide +kernel
theorem dL_law_1200 : decode cL_law 1200 = .ok (.aload_n 0, 1) := by decide +kernel
theorem dL_law_1201 : decode cL_law 1201 = .ok (.iload_n 3, 1) := by decide +kernel
theorem dL_law_1202 : decode cL_law 1202 = .ok (.iconst 1, 1) := by decide +kernel
theorem dL_law_1203 : decode cL_law 1203 = .ok (.iadd, 1) := by decide +kernel
theorem dL_law_1204 : decode cL_law 1204 = .ok (.iaload, 1) := by decide +kernel
theorem dL_law_1205 : decode cL_law 1205 = .ok (.invokevirtual 159, 3) := by decide +kernel
theorem dL_law_1208 : decode cL_law 1208 = .ok (.lcmp, 1) := by decide +kernel
theorem dL_law_1209 : decode cL_law 1209 = .ok (.ifCond .eq 111, 3) := by decide +kernel
theorem dL_law_1212 : decode cL_law 1212 = .ok (.iconst 0, 1) := by decide +kernel
theorem dL_law_1213 : decode cL_law 1213 = .ok (.ireturn, 1) := by decide +kernel
theorem dL_law_1214 : decode cL_law 1214 = .ok (.aload_n 1, 1) := by decide +kernel
theorem dL_law_1215 : decode cL_law 1215 = .ok (.aload_n 0, 1) := by decide +kernel
theorem dL_law_1216 : decode cL_law 1216 = .ok (.iload_n 3, 1) := by decide +kernel
theorem dL_law_1217 : decode cL_law 1217 = .ok (.iconst 1, 1) := by decide +kernel
theorem dL_law_1218 : decode cL_law 1218 = .ok (.iadd, 1) := by decide +kernel
theorem dL_law_1219 : decode cL_law 1219 = .ok (.iaload, 1) := by decide +kernel
theorem dL_law_1220 : decode cL_law 1220 = .ok (.invokevirtual 160, 3) := by decide +kernel
theorem dL_law_1223 : decode cL_law 1223 = .ok (.aload_n 2, 1) := by decide +kernel
theorem dL_law_1224 : decode cL_law 1224 = .ok (.aload_n 0, 1) := by decide +kernel
theorem dL_law_1225 : decode cL_law 1225 = .ok (.iload_n 3, 1) := by decide +kernel
theorem dL_law_1226 : decode cL_law 1226 = .ok (.iconst 1, 1) := by decide +kernel
theorem dL_law_1227 : decode cL_law 1227 = .ok (.iadd, 1) := by decide +kernel
theorem dL_law_1228 : decode cL_law 1228 = .ok (.iaload, 1) := by decide +kernel
theorem dL_law_1229 : decode cL_law 1229 = .ok (.invokevirtual 163, 3) := by decide +kernel
theorem dL_law_1232 : decode cL_law 1232 = .ok (.if_icmp .eq 88, 3) := by decide +kernel
theorem dL_law_1235 : decode cL_law 1235 = .ok (.iconst 0, 1) := by decide +kernel
theorem dL_law_1236 : decode cL_law 1236 = .ok (.ireturn, 1) := by decide +kernel
theorem dL_law_1237 : decode cL_law 1237 = .ok (.aload_n 1, 1) := by decide +kernel
theorem dL_law_1238 : decode cL_law 1238 = .ok (.aload_n 0, 1) := by decide +kernel
theorem dL_law_1239 : decode cL_law 1239 = .ok (.iload_n 3, 1) := by decide +kernel
theorem dL_law_1240 : decode cL_law 1240 = .ok (.iconst 1, 1) := by decide +kernel
theorem dL_law_1241 : decode cL_law 1241 = .ok (.iadd, 1) := by decide +kernel
theorem dL_law_1242 : decode cL_law 1242 = .ok (.iaload, 1) := by decide +kernel
theorem dL_law_1243 : decode cL_law 1243 = .ok (.invokevirtual 164, 3) := by decide +kernel
theorem dL_law_1246 : decode cL_law 1246 = .ok (.aload_n 2, 1) := by decide +kernel
theorem dL_law_1247 : decode cL_law 1247 = .ok (.aload_n 0, 1) := by decide +kernel
theorem dL_law_1248 : decode cL_law 1248 = .ok (.iload_n 3, 1) := by decide +kernel
theorem dL_law_1249 : decode cL_law 1249 = .ok (.iconst 1, 1) := by decide +kernel
theorem dL_law_1250 : decode cL_law 1250 = .ok (.iadd, 1) := by decide +kernel
theorem dL_law_1251 : decode cL_law 1251 = .ok (.iaload, 1) := by decide +kernel
theorem dL_law_1252 : decode cL_law 1252 = .ok (.invokevirtual 167, 3) := by decide +kernel
theorem dL_law_1255 : decode cL_law 1255 = .ok (.if_icmp .eq 65, 3) := by decide +kernel
theorem dL_law_1258 : decode cL_law 1258 = .ok (.iconst 0, 1) := by decide +kernel
theorem dL_law_1259 : decode cL_law 1259 = .ok (.ireturn, 1) := by decide +kernel
theorem dL_law_1260 : decode cL_law 1260 = .ok (.aload_n 1, 1) := by decide +kernel
theorem dL_law_1261 : decode cL_law 1261 = .ok (.aload_n 0, 1) := by decide +kernel
theorem dL_law_1262 : decode cL_law 1262 = .ok (.iload_n 3, 1) := by decide +kernel
theorem dL_law_1263 : decode cL_law 1263 = .ok (.iconst 1, 1) := by decide +kernel
theorem dL_law_1264 : decode cL_law 1264 = .ok (.iadd, 1) := by decide +kernel
theorem dL_law_1265 : decode cL_law 1265 = .ok (.iaload, 1) := by decide +kernel
theorem dL_law_1266 : decode cL_law 1266 = .ok (.invokevirtual 168, 3) := by decide +kernel
theorem dL_law_1269 : decode cL_law 1269 = .ok (.aload_n 2, 1) := by decide +kernel
theorem dL_law_1270 : decode cL_law 1270 = .ok (.aload_n 0, 1) := by decide +kernel
theorem dL_law_1271 : decode cL_law 1271 = .ok (.iload_n 3, 1) := by decide +kernel
theorem dL_law_1272 : decode cL_law 1272 = .ok (.iconst 1, 1) := by decide +kernel
theorem dL_law_1273 : decode cL_law 1273 = .ok (.iadd, 1) := by decide +kernel
theorem dL_law_1274 : decode cL_law 1274 = .ok (.iaload, 1) := by decide +kernel
theorem dL_law_1275 : decode cL_law 1275 = .ok (.invokevirtual 171, 3) := by decide +kernel
theorem dL_law_1278 : decode cL_law 1278 = .ok (.if_icmp .eq 42, 3) := by decide +kernel
theorem dL_law_1281 : decode cL_law 1281 = .ok (.iconst 0, 1) := by decide +kernel
theorem dL_law_1282 : decode cL_law 1282 = .ok (.ireturn, 1) := by decide +kernel
theorem dL_law_1283 : decode cL_law 1283 = .ok (.aload_n 1, 1) := by decide +kernel
theorem dL_law_1284 : decode cL_law 1284 = .ok (.aload_n 0, 1) := by decide +kernel
theorem dL_law_1285 : decode cL_law 1285 = .ok (.iload_n 3, 1) := by decide +kernel
theorem dL_law_1286 : decode cL_law 1286 = .ok (.iconst 1, 1) := by decide +kernel
theorem dL_law_1287 : decode cL_law 1287 = .ok (.iadd, 1) := by decide +kernel
theorem dL_law_1288 : decode cL_law 1288 = .ok (.iaload, 1) := by decide +kernel
theorem dL_law_1289 : decode cL_law 1289 = .ok (.invokevirtual 172, 3) := by decide +kernel
theorem dL_law_1292 : decode cL_law 1292 = .ok (.aload_n 2, 1) := by decide +kernel
theorem dL_law_1293 : decode cL_law 1293 = .ok (.aload_n 0, 1) := by decide +kernel
theorem dL_law_1294 : decode cL_law 1294 = .ok (.iload_n 3, 1) := by decide +kernel
theorem dL_law_1295 : decode cL_law 1295 = .ok (.iconst 1, 1) := by decide +kernel
theorem dL_law_1296 : decode cL_law 1296 = .ok (.iadd, 1) := by decide +kernel
theorem dL_law_1297 : decode cL_law 1297 = .ok (.iaload, 1) := by decide +kernel
theorem dL_law_1298 : decode cL_law 1298 = .ok (.invokevirtual 175, 3) := by decide +kernel
theorem dL_law_1301 : decode cL_law 1301 = .ok (.if_icmp .eq 19, 3) := by decide +kernel
theorem dL_law_1304 : decode cL_law 1304 = .ok (.iconst 0, 1) := by decide +kernel
theorem dL_law_1305 : decode cL_law 1305 = .ok (.ireturn, 1) := by decide +kernel
theorem dL_law_1306 : decode cL_law 1306 = .ok (.aload_n 1, 1) := by decide +kernel
theorem dL_law_1307 : decode cL_law 1307 = .ok (.invokevirtual 176, 3) := by decide +kernel
theorem dL_law_1310 : decode cL_law 1310 = .ok (.aload_n 2, 1) := by decide +kernel
theorem dL_law_1311 : decode cL_law 1311 = .ok (.invokevirtual 180, 3) := by decide +kernel
theorem dL_law_1314 : decode cL_law 1314 = .ok (.lcmp, 1) := by decide +kernel
theorem dL_law_1315 : decode cL_law 1315 = .ok (.ifCond .eq 5, 3) := by decide +kernel
theorem dL_law_1318 : decode cL_law 1318 = .ok (.iconst 0, 1) := by decide +kernel
theorem dL_law_1319 : decode cL_law 1319 = .ok (.ireturn, 1) := by decide +kernel
theorem dL_law_1320 : decode cL_law 1320 = .ok (.iinc 3 6, 3) := by decide +kernel
theorem dL_law_1323 : decode cL_law 1323 = .ok (.goto (-1305), 3) := by decide +kernel
theorem dL_law_1326 : decode cL_law 1326 = .ok (.iconst 1, 1) := by decide +kernel
theorem dL_law_1327 : decode cL_law 1327 = .ok (.ireturn, 1) := by decide +kernel
end
section
/-! ===== the worlds: class cells 0 to 77, model cells 78 to 90; 91 the table of factorials; 100.. the words, 110.. their bytes ===== -/
abbrev SS : Type := (Nat → Nat → Int32) × (Nat → Nat → Int64)
def gI (σ : SS) (c k : Nat) : Int32 := σ.1 c k
def gL (σ : SS) (c k : Nat) : Int64 := σ.2 c k
def pA (σ : SS) (c : Nat) (f : Nat → Int32) : SS := (fun d => if d = c then f else σ.1 d, σ.2)
def pI (σ : SS) (c k : Nat) (v : Int32) : SS := pA σ c (upd (gI σ c) k v)
def pL (σ : SS) (c k : Nat) (v : Int64) : SS := (σ.1, fun d => if d = c then vp_updL (gL σ c) k v else σ.2 d)
theorem gI_pA (σ : SS) (c : Nat) (f : Nat → Int32) (d : Nat) : gI (pA σ c f) d = if d = c then f else gI σ d := by
  funext k; simp only [gI, pA]; split <;> rfl
theorem gL_pA (σ : SS) (c : Nat) (f : Nat → Int32) (d : Nat) : gL (pA σ c f) d = gL σ d := rfl
theorem gI_pL (σ : SS) (c k : Nat) (v : Int64) (d : Nat) : gI (pL σ c k v) d = gI σ d := rfl
theorem gL_pL (σ : SS) (c k : Nat) (v : Int64) (d : Nat) : gL (pL σ c k v) d = if d = c then vp_updL (gL σ c) k v else gL σ d := by
  funext j; simp only [gL, pL]; split <;> rfl
def kd (c : Nat) : Nat := ([9, 4, 20, 20, 7, 20, 7, 20, 7, 20, 7, 20, 7, 20, 7, 20, 4, 20, 20, 7, 20, 7, 20, 7, 20, 7, 20, 7, 20, 7, 20, 4, 20, 20, 7, 20, 7, 20, 7, 20, 7, 20, 7, 20, 7, 20, 8, 20, 0, 20, 20, 20, 5, 4, 20, 20, 7, 20, 7, 20, 7, 20, 7, 20, 7, 20, 7, 20, 2, 7, 20, 20, 6, 20, 20, 1, 20, 3, 10, 21, 21, 21, 22, 21, 21, 21, 21, 21, 21, 21, 21, 30] : List Nat).getD c 99
def ln (c : Nat) : Nat := ([0, 0, 8, 8, 0, 28, 0, 20, 0, 12, 0, 30, 0, 24, 0, 120, 0, 8, 8, 0, 28, 0, 20, 0, 12, 0, 30, 0, 24, 0, 120, 0, 8, 8, 0, 28, 0, 20, 0, 12, 0, 30, 0, 24, 0, 120, 0, 150, 0, 12, 12, 7, 0, 0, 8, 8, 0, 28, 0, 20, 0, 12, 0, 30, 0, 24, 0, 120, 0, 0, 28, 128, 0, 5, 5, 0, 6, 0, 0, 378, 378, 756, 2, 3, 7, 12, 12, 150, 5, 5, 7, 8] : List Nat).getD c 0
def lk (c k : Nat) : Nat := (([[1, 16, 31, 99, 99, 46, 48, 52, 68, 72, 75, 77, 99, 99, 99], [2, 3, 4, 6, 8, 10, 12, 14, 99, 99], [], [], [99, 99, 5, 99], [], [99, 99, 7, 99], [], [99, 99, 9, 99], [], [99, 99, 11, 99], [], [99, 99, 13, 99], [], [99, 99, 15, 99], [], [17, 18, 19, 21, 23, 25, 27, 29, 99, 99], [], [], [99, 99, 20, 99], [], [99, 99, 22, 99], [], [99, 99, 24, 99], [], [99, 99, 26, 99], [], [99, 99, 28, 99], [], [99, 99, 30, 99], [], [32, 33, 34, 36, 38, 40, 42, 44, 99, 99], [], [], [99, 99, 35, 99], [], [99, 99, 37, 99], [], [99, 99, 39, 99], [], [99, 99, 41, 99], [], [99, 99, 43, 99], [], [99, 99, 45, 99], [], [47, 99], [], [49, 50, 51], [], [], [], [46, 48, 53, 99, 99, 99, 99], [54, 55, 56, 58, 60, 62, 64, 66, 99, 99], [], [], [99, 99, 57, 99], [], [99, 99, 59, 99], [], [99, 99, 61, 99], [], [99, 99, 63, 99], [], [99, 99, 65, 99], [], [99, 99, 67, 99], [], [48, 69, 71, 99, 99], [99, 99, 70, 99], [], [], [73, 74, 99, 99], [], [], [48, 76, 99, 99, 99], [], [], [79, 80, 81, 82, 99, 99, 83, 84, 85, 86, 87, 99, 99, 99, 99, 99, 88, 89, 90], [], [], [], [], [], [], [], [], [], [], [], []] : List (List Nat)).getD c []).getD k 99
def ft (ci : Nat) : List Nat := ([[2, 2, 2], [2, 2, 0, 0, 0], [2, 2, 2, 0, 0], [1, 1], [2, 2, 2, 2, 2, 2, 2, 2, 0, 0], [2, 2, 2, 0, 0, 0, 0], [2, 2, 0, 0], [0, 0, 2, 0], [2, 0], [2, 2, 2, 0, 0, 2, 2, 2, 2, 2, 2, 2, 0, 0, 0], [2, 2, 2, 2, 1, 1, 2, 2, 2, 2, 2, 0, 0, 0, 0, 0, 2, 2, 2]] : List (List Nat)).getD ci []
def kw (k : Nat) : Nat := if k < 10 ∨ k = 20 then 0 else if k = 10 ∨ k = 21 ∨ k = 22 then 1 else 2
def wlo (w : Nat) : Nat := if w = 0 then 0 else 78
def wn (w : Nat) : Nat := if w = 0 then 78 else 13
theorem kd_out {c : Nat} (h : 92 ≤ c) : kd c = 99 := by
  unfold kd
  rw [List.getD_eq_getElem?_getD, List.getElem?_eq_none (by simpa using h)]
  rfl
theorem kd_all {P : Nat → Prop} (h : ∀ c, c < 92 → P c) (h9 : ∀ c, kd c = 99 → P c) (c : Nat) : P c := by
  rcases Nat.lt_or_ge c 92 with q | q
  · exact h c q
  · exact h9 c (kd_out q)
theorem kw_in (w : Nat) (hw : w = 0 ∨ w = 1) (c : Nat) (h : kw (kd c) = w) : wlo w ≤ c ∧ c - wlo w < wn w := by
  rcases hw with rfl | rfl
  · revert h
    refine kd_all (P := fun c => kw (kd c) = 0 → wlo 0 ≤ c ∧ c - wlo 0 < wn 0) (by decide +kernel) (fun c h q => ?_) c
    rw [h] at q; exact absurd q (by decide)
  · revert h
    refine kd_all (P := fun c => kw (kd c) = 1 → wlo 1 ≤ c ∧ c - wlo 1 < wn 1) (by decide +kernel) (fun c h q => ?_) c
    rw [h] at q; exact absurd q (by decide)
def sv (α : Nat → Nat) : Value → Value
  | .ref c => .ref (α c)
  | v => v
def fvl (α : Nat → Nat) (σ : SS) (c k t : Nat) : Value := if t = 0 then .int (gI σ c k) else if t = 1 then .long (gL σ c k) else .ref (α (lk c k))
def el (α : Nat → Nat) (cI cZ : ClassId) (σ : SS) (c : Nat) : va_E :=
  if kd c = 20 ∨ kd c = 21 then .inl (cI, ln c, .inl (gI σ c)) else if kd c = 22 then .inl (cZ, ln c, .inl (gI σ c)) else .inr (kd c, (ft (kd c)).mapIdx (fvl α σ c))
def wd (w : Nat) (α : Nat → Nat) (cI cZ : ClassId) (σ : SS) : va_W := (List.range (wn w)).map (fun i => (α (wlo w + i), el α cI cZ σ (wlo w + i)))
theorem wd_get {w : Nat} (hw : w = 0 ∨ w = 1) (α : Nat → Nat) (cI cZ : ClassId) (σ : SS) {c : Nat} (h : kw (kd c) = w) : (wd w α cI cZ σ)[c - wlo w]? = some (α c, el α cI cZ σ c) := by
  obtain ⟨h1, h2⟩ := kw_in w hw c h
  unfold wd
  rw [List.getElem?_map, List.getElem?_range h2]
  show some (α (wlo w + (c - wlo w)), _) = _
  rw [show wlo w + (c - wlo w) = c by omega]
theorem wd_set {w : Nat} (hw : w = 0 ∨ w = 1) (α : Nat → Nat) (cI cZ : ClassId) {σ σ' : SS} {c : Nat} (h : kw (kd c) = w) (e : va_E) (he : e = el α cI cZ σ' c) (ho : ∀ d, d ≠ c → el α cI cZ σ' d = el α cI cZ σ d) : (wd w α cI cZ σ).set (c - wlo w) (α c, e) = wd w α cI cZ σ' := by
  subst he
  obtain ⟨h1, h2⟩ := kw_in w hw c h
  apply List.ext_getElem?
  intro i
  rw [List.getElem?_set]
  by_cases hi : c - wlo w = i
  · subst hi
    rw [if_pos rfl, if_pos (by simpa [wd] using h2), wd_get hw α cI cZ σ' h]
  · rw [if_neg hi]
    unfold wd
    rw [List.getElem?_map, List.getElem?_map]
    by_cases hl : i < wn w
    · rw [List.getElem?_range hl]
      show some (_, el α cI cZ σ (wlo w + i)) = some (_, el α cI cZ σ' (wlo w + i))
      rw [ho (wlo w + i) (by omega)]
    · rw [List.getElem?_eq_none (by simpa using hl)]
      rfl
theorem el_pA_ne (α : Nat → Nat) (cI cZ : ClassId) (σ : SS) (c : Nat) (f : Nat → Int32) (d : Nat) (h : d ≠ c) : el α cI cZ (pA σ c f) d = el α cI cZ σ d := by
  have e : gI (pA σ c f) d = gI σ d := by rw [gI_pA, if_neg h]
  have e2 : fvl α (pA σ c f) d = fvl α σ d := by funext k t; simp only [fvl, e, gL_pA]
  simp only [el, e, e2]
theorem el_pL_ne (α : Nat → Nat) (cI cZ : ClassId) (σ : SS) (c k : Nat) (v : Int64) (d : Nat) (h : d ≠ c) : el α cI cZ (pL σ c k v) d = el α cI cZ σ d := by
  have e : gL (pL σ c k v) d = gL σ d := by rw [gL_pL, if_neg h]
  have e2 : fvl α (pL σ c k v) d = fvl α σ d := by funext j t; simp only [fvl, e, gI_pL]
  simp only [el, gI_pL, e2]
theorem el_arr {w : Nat} (α : Nat → Nat) (cI cZ : ClassId) (σ : SS) {c : Nat} (h : kd c = 20 ∨ kd c = 21) : el α cI cZ σ c = .inl (cI, ln c, .inl (gI σ c)) := by
  unfold el; rw [if_pos h]
theorem el_boo (α : Nat → Nat) (cI cZ : ClassId) (σ : SS) {c : Nat} (h : kd c = 22) : el α cI cZ σ c = .inl (cZ, ln c, .inl (gI σ c)) := by
  unfold el; rw [if_neg (by rw [h]; decide), if_pos h]
theorem el_obj (α : Nat → Nat) (cI cZ : ClassId) (σ : SS) {c ci : Nat} (h : kd c = ci) (hci : ci < 20) : el α cI cZ σ c = .inr (ci, (ft ci).mapIdx (fvl α σ c)) := by
  unfold el; rw [if_neg (by omega), if_neg (by omega), h]
theorem fs_get (α : Nat → Nat) (σ : SS) (c ci k t : Nat) (h : (ft ci)[k]? = some t) : ((ft ci).mapIdx (fvl α σ c))[k]? = some (fvl α σ c k t) := by
  rw [List.getElem?_mapIdx, h]; rfl
theorem fs_set (α : Nat → Nat) (σ σ' : SS) (c ci k t : Nat) (v : Value) (h : (ft ci)[k]? = some t) (hv : v = fvl α σ' c k t) (ho : ∀ j u, j ≠ k → fvl α σ' c j u = fvl α σ c j u) : ((ft ci).mapIdx (fvl α σ c)).set k v = (ft ci).mapIdx (fvl α σ' c) := by
  subst hv
  have hk : k < (ft ci).length := (List.getElem?_eq_some_iff.mp h).1
  apply List.ext_getElem?
  intro i
  rw [List.getElem?_set]
  by_cases hi : k = i
  · subst hi
    rw [if_pos rfl, if_pos (by simpa using hk), fs_get α σ' c ci k t h]
  · rw [if_neg hi, List.getElem?_mapIdx, List.getElem?_mapIdx]
    cases (ft ci)[i]? with
    | none => rfl
    | some u => show some _ = some _; rw [ho i u (fun q => hi q.symm)]
/-! ===== locals ===== -/
def lh (ls : Array Slot) (nL : Nat) (α : Nat → Nat) (L : List (Option Value)) : Prop := ls.size = nL ∧ lv_wf ls ∧ ∀ (i : Nat) (v : Value), L[i]? = some (some v) → ls[i]? = some (.val (sv α v))
def kil (L : List (Option Value)) : Nat → List (Option Value)
  | 0 => L
  | j + 1 => match L[j]? with
    | some (some (.long _)) => L.set j none
    | some (some (.double _)) => L.set j none
    | _ => L
def st1 (L : List (Option Value)) (i : Nat) (v : Value) : List (Option Value) := (kil L i).set i (some v)
def st2 (L : List (Option Value)) (i : Nat) (v : Value) : List (Option Value) := ((kil L i).set i (some v)).set (i + 1) none
theorem sv_cat (α : Nat → Nat) (v : Value) : (sv α v).category = v.category := by cases v <;> rfl
theorem kil_get {L : List (Option Value)} {i j : Nat} {w : Value} (h : (kil L i)[j]? = some (some w)) : L[j]? = some (some w) ∧ ¬ (j + 1 = i ∧ w.category = 2) := by
  cases i with
  | zero => exact ⟨h, fun q => by omega⟩
  | succ i =>
    have key : ∀ (hne : (kil L (i + 1)) = L.set i none), L[j]? = some (some w) ∧ ¬ (j + 1 = i + 1 ∧ w.category = 2) := by
      intro hne
      rw [hne, List.getElem?_set] at h
      by_cases q : i = j
      · rw [if_pos q] at h
        split at h <;> cases h
      · rw [if_neg q] at h
        exact ⟨h, fun z => by omega⟩
    have key2 : ∀ (heq : (kil L (i + 1)) = L) (hc : ∀ w, L[i]? = some (some w) → ¬ w.category = 2), L[j]? = some (some w) ∧ ¬ (j + 1 = i + 1 ∧ w.category = 2) := by
      intro heq hc
      rw [heq] at h
      refine ⟨h, fun z => ?_⟩
      have : j = i := by omega
      subst this
      exact hc w h z.2
    cases hl : L[i]? with
    | none => exact key2 (by simp [kil, hl]) (by simp [hl])
    | some o =>
      cases o with
      | none => exact key2 (by simp [kil, hl]) (by simp [hl])
      | some v =>
        cases v with
        | long x => exact key (by simp [kil, hl])
        | double x => exact key (by simp [kil, hl])
        | _ => exact key2 (by simp [kil, hl]) (fun w hw => by rw [hl] at hw; cases hw; simp [Value.category])
theorem st1_get {L : List (Option Value)} {i j : Nat} {v w : Value} (h : (st1 L i v)[j]? = some (some w)) : (j = i ∧ w = v) ∨ (j ≠ i ∧ L[j]? = some (some w) ∧ ¬ (j + 1 = i ∧ w.category = 2)) := by
  unfold st1 at h
  rw [List.getElem?_set] at h
  by_cases q : i = j
  · rw [if_pos q] at h
    split at h
    · cases h; exact Or.inl ⟨q.symm, rfl⟩
    · cases h
  · rw [if_neg q] at h
    exact Or.inr ⟨fun z => q z.symm, kil_get h⟩
theorem st2_get {L : List (Option Value)} {i j : Nat} {v w : Value} (h : (st2 L i v)[j]? = some (some w)) : (j = i ∧ w = v) ∨ (j ≠ i ∧ j ≠ i + 1 ∧ L[j]? = some (some w) ∧ ¬ (j + 1 = i ∧ w.category = 2)) := by
  unfold st2 at h
  rw [List.getElem?_set] at h
  by_cases q : i + 1 = j
  · rw [if_pos q] at h
    split at h <;> cases h
  · rw [if_neg q] at h
    rcases st1_get (L := L) (i := i) (j := j) (v := v) (w := w) h with z | ⟨z1, z2⟩
    · exact Or.inl z
    · exact Or.inr ⟨z1, fun z => q z.symm, z2⟩
theorem lh_at {ls : Array Slot} {nL : Nat} {α : Nat → Nat} {L : List (Option Value)} (h : lh ls nL α L) {i : Nat} {v : Value} (hi : L[i]? = some (some v)) : ls[i]? = some (.val (sv α v)) := h.2.2 i v hi
theorem lh_st1 {ls : Array Slot} {nL : Nat} {α : Nat → Nat} {L : List (Option Value)} {i : Nat} {v : Value} (h : lh ls nL α L) (hi : i < nL) (hc : v.category = 1) : ∃ ls', storeLocals ls i (sv α v) = some ls' ∧ lh ls' nL α (st1 L i v) := by
  obtain ⟨hs, hw, hl⟩ := h
  have hc' : (sv α v).category = 1 := by rw [sv_cat]; exact hc
  obtain ⟨ls', e1, e2, e3, e4⟩ := lv_store1 (l := []) ⟨hs, hw, fun q hq => by cases hq⟩ hi hc'
  refine ⟨ls', e1, e2, e3, fun j w hj => ?_⟩
  rcases st1_get hj with ⟨rfl, rfl⟩ | ⟨z1, z2, z3⟩
  · exact e4 (j, sv α w) List.mem_cons_self
  · obtain ⟨ls2, f1, f2, f3, f4⟩ := lv_store1 (l := [(j, sv α w)]) ⟨hs, hw, fun q hq => by rw [List.mem_singleton.mp hq]; exact hl j w z2⟩ hi hc'
    have e : ls2 = ls' := Option.some.inj (f1.symm.trans e1)
    subst e
    refine f4 (j, sv α w) (List.mem_cons_of_mem _ (List.mem_filter.mpr ⟨List.mem_singleton.mpr rfl, ?_⟩))
    simp only [Bool.and_eq_true, Bool.not_eq_true', beq_eq_false_iff_ne, ne_eq, Bool.and_eq_false_iff, sv_cat]
    refine ⟨z1, ?_⟩
    by_cases y : j + 1 = i
    · exact Or.inr (fun q => z3 ⟨y, q⟩)
    · exact Or.inl y
theorem lh_st2 {ls : Array Slot} {nL : Nat} {α : Nat → Nat} {L : List (Option Value)} {i : Nat} {x : Int64} (h : lh ls nL α L) (hi : i + 1 < nL) : ∃ ls', storeLocals ls i (.long x) = some ls' ∧ lh ls' nL α (st2 L i (.long x)) := by
  obtain ⟨hs, hw, hl⟩ := h
  obtain ⟨ls', e1, e2, e3, e4⟩ := lv_store2 (l := []) (v := .long x) ⟨hs, hw, fun q hq => by cases hq⟩ hi rfl
  refine ⟨ls', e1, e2, e3, fun j w hj => ?_⟩
  rcases st2_get hj with ⟨rfl, rfl⟩ | ⟨z1, z0, z2, z3⟩
  · exact e4 (j, .long x) List.mem_cons_self
  · obtain ⟨ls2, f1, f2, f3, f4⟩ := lv_store2 (l := [(j, sv α w)]) (v := .long x) ⟨hs, hw, fun q hq => by rw [List.mem_singleton.mp hq]; exact hl j w z2⟩ hi rfl
    have e : ls2 = ls' := Option.some.inj (f1.symm.trans e1)
    subst e
    refine f4 (j, sv α w) (List.mem_cons_of_mem _ (List.mem_filter.mpr ⟨List.mem_singleton.mpr rfl, ?_⟩))
    simp only [Bool.and_eq_true, Bool.not_eq_true', beq_eq_false_iff_ne, ne_eq, Bool.and_eq_false_iff, sv_cat]
    refine ⟨z1, z0, ?_⟩
    by_cases y : j + 1 = i
    · exact Or.inr (fun q => z3 ⟨y, q⟩)
    · exact Or.inl y
/-! ===== what holds of the tables all along ===== -/
def nests : List (String × Nat × MethodName) := [("WindLawyer", 11, ⟨"WindLawyer$Island", "<init>", "()V"⟩), ("WindLawyer", 24, ⟨"WindLawyer$Text", "<init>", "()V"⟩), ("WindLawyer", 31, ⟨"WindLawyer$Blow", "<init>", "()V"⟩), ("WindLawyer$Reader", 11, ⟨"WindLawyer$Island", "<init>", "()V"⟩), ("WindLawyer", 56, ⟨"WindLawyer$Session", "<init>", "()V"⟩), ("WindLawyer", 70, ⟨"WindLawyer$Fraction", "<init>", "()V"⟩), ("WindLawyer$Island", 63, ⟨"WindLawyer", "isHourOfDay", "(I)Z"⟩), ("WindLawyer$Text", 19, ⟨"WindLawyer", "within", "(III)Z"⟩), ("WindLawyer$Reader", 112, ⟨"WindLawyer", "within", "(III)Z"⟩), ("WindLawyer$Blow", 61, ⟨"WindLawyer", "within", "(III)Z"⟩), ("WindLawyer$Forecast", 93, ⟨"WindLawyer", "factorial", "(I)I"⟩), ("WindLawyer$Blow", 65, ⟨"WindLawyer", "isCell", "(I)Z"⟩)]
def facs : Nat → Value := fun j => .int (([1, 1, 2, 6, 24, 120, 720, 5040] : List Int32).getD j 0)
def wo_len : List Nat := [6, 5, 4, 4, 5]
def wo_byt : List (List Int32) := [[105, 115, 108, 97, 110, 100], [119, 105, 110, 100, 115], [117, 115, 101, 114], [115, 117, 105, 116], [104, 111, 117, 114, 115]]
def wo_idx : List Nat := [36, 51, 56, 61, 66]
def wo_txt : List String := ["island", "winds", "user", "suit", "hours"]
def Aw (α : Nat → Nat) (w : Nat) : Nat → Prop := fun q => ∃ i, i < wn w ∧ q = α (wlo w + i)
def Wk (α : Nat → Nat) (w : Nat) : Prop := (w = 0 ∨ w = 1) ∧ ∀ i j, i < wn w → j < wn w → α (wlo w + i) = α (wlo w + j) → i = j
def Kn (D : va_G) (α : Nat → Nat) (cI cZ : ClassId) (w : Nat) (U : State) : Prop :=
  va_K D vwCl [(cI, .int), (cZ, .boolean)] U ∧ (∀ q ∈ nests, va_Nw (.methodLinkNest q.1 q.2.1 q.2.2 "WindLawyer") U) ∧
  (va_Z "WindLawyer" "FACTORIALS" "[I" (.ref (α 91)) (Aw α w) U U.heap ∧ va_T .int (α 91) 8 facs (Aw α w) U U.heap) ∧
  ((∀ i, i < 5 → vk_R "WindLawyer$Reader" (wo_idx.getD i 0) (wo_txt.getD i "") (α (100 + i)) U) ∧ vk_S 5 wo_len wo_byt (fun i => α (100 + i)) (fun i => α (110 + i)) (Aw α w) U U.heap ∧
    va_Z "java/lang/String" "COMPACT_STRINGS" "Z" (.int 1) (Aw α w) U U.heap ∧ ∃ v, va_Z "jdk/internal/util/Preconditions" "SIOOBE_FORMATTER" "Ljava/util/function/BiFunction;" v (Aw α w) U U.heap)
theorem Kn.call {D : va_G} {α : Nat → Nat} {cI cZ : ClassId} {w : Nat} {s U : State} (h : Kn D α cI cZ w s) (hW : s.WarmedH U.vm) (hq : ∀ q : Nat, q < s.heap.size → ¬ Aw α w q → U.heap[q]? = s.heap[q]?) : Kn D α cI cZ w U := by
  obtain ⟨h1, h2, ⟨h3, h4⟩, h5, h6, h7, v, h8⟩ := h
  have m := hW.alike
  refine ⟨va_K.moved m h1, fun q hn => va_Nw.warmM hW (h2 q hn), ⟨(va_Z.moved m h3).kept hq, (va_T.moved m h4).kept hq⟩, fun i hi => (h5 i hi).warm hW, (vk_S.moved m h6).kept hq, (va_Z.moved m h7).kept hq, v, (va_Z.moved m h8).kept hq⟩
theorem Kn.blind {D : va_G} {α : Nat → Nat} {cI cZ : ClassId} {w : Nat} {U V : State} (h : Kn D α cI cZ w U) (hv : V.vm = U.vm) (hh : V.heap = U.heap) : Kn D α cI cZ w V := by
  obtain ⟨h1, h2, ⟨h3, h4⟩, h5, h6, h7, v, h8⟩ := h
  have m : U.vm.Alike V.vm := by rw [hv]; exact Vm.Alike.refl _
  have k : ∀ q : Nat, q < U.heap.size → ¬ Aw α w q → V.heap[q]? = U.heap[q]? := fun q _ _ => by rw [hh]
  refine ⟨va_K.moved m h1, fun q hn => va_Nw.same rfl hv.symm (h2 q hn), ⟨(va_Z.moved m h3).kept k, (va_T.moved m h4).kept k⟩, fun i hi => (h5 i hi).same hv, (vk_S.moved m h6).kept k, (va_Z.moved m h7).kept k, v, (va_Z.moved m h8).kept k⟩
theorem wd_D {α : Nat → Nat} {w : Nat} (h : Wk α w) (cI cZ : ClassId) (σ : SS) : va_D (Aw α w) (wd w α cI cZ σ) := by
  have key : ∀ (k : Nat) (q : Nat × va_E), (wd w α cI cZ σ)[k]? = some q → k < wn w ∧ q.1 = α (wlo w + k) := by
    intro k q hk
    unfold wd at hk
    rw [List.getElem?_map] at hk
    by_cases hl : k < wn w
    · rw [List.getElem?_range hl] at hk
      cases hk
      exact ⟨hl, rfl⟩
    · rw [List.getElem?_eq_none (by simpa using hl)] at hk
      cases hk
  refine ⟨fun i j x y hi hj hxy => ?_, fun k q hk => ?_⟩
  · obtain ⟨a1, a2⟩ := key i x hi
    obtain ⟨b1, b2⟩ := key j y hj
    exact h.2 i j a1 b1 (by rw [← a2, ← b2]; exact hxy)
  · obtain ⟨a1, a2⟩ := key k q hk
    exact ⟨k, a1, a2⟩
end
section
/-! ===== the judgement: from here the method comes to its end, the world being σ; the bundle of what stays ===== -/
abbrev Om : Type := (Program × Launch × Env × Room × State × MethodId) × (Array Value × List Frame × Method × Code) × (va_G × (Nat → Nat) × ClassId × ClassId) × (Nat × Nat × (State → Prop))
def Yx (o : Om) (pc : Nat) (L : List (Option Value)) (st : List Value) (σ : SS) : Prop :=
  ∀ (ls : Array Slot) (H : Heap) (locs : List Loc), lh ls o.2.2.2.2.1 o.2.2.1.2.1 L → va_P o.2.2.1.1 vwCl (wd o.2.2.2.1 o.2.2.1.2.1 o.2.2.1.2.2.1 o.2.2.1.2.2.2 σ) H → va_S (Aw o.2.2.1.2.1 o.2.2.2.1) o.1.2.2.2.2.1.heap H locs →
    W o.1.1 o.1.2.1 o.1.2.2.1 o.1.2.2.2.1 o.1.2.2.2.2.1 o.1.2.2.2.2.2 o.2.1.1 o.2.1.2.1 o.2.1.2.2.1 o.2.1.2.2.2 H locs 0 0 o.2.2.2.2.2 (F0 o.1.2.2.2.2.2 pc ls (st.map (sv o.2.2.1.2.1)))
def Cx (o : Om) (own : String) (cc : ByteArray) (nL : Nat) (rt : Option FieldType) (rm : Room) (w : Nat) : Prop :=
  o.1.1.tables.exec = Jvm.exec ∧ o.2.1.2.2.2.code = cc ∧ o.2.1.2.2.2.maxLocals = nL ∧ o.1.2.2.2.2.1.vm.findClass own = some o.1.2.2.2.2.2.cls ∧ (∀ x ∈ TB, x.before o.2.1.1 o.1.2.2.2.2.1 = true) ∧
  o.1.2.2.2.1 = rm ∧ o.2.1.2.2.1.locks = false ∧ o.2.1.2.2.1.sig.returnType = rt ∧ Kn o.2.2.1.1 o.2.2.1.2.1 o.2.2.1.2.2.1 o.2.2.1.2.2.2 w o.1.2.2.2.2.1 ∧ Wk o.2.2.1.2.1 w ∧ o.2.2.2.1 = w ∧ o.2.2.2.2.1 = nL
def Xo {τ : Type} (f : Option τ) (Z : τ → Prop) (G : Prop) : Prop := ∀ r, f = some r → Z r → G
def gd {τ : Type} (b : Bool) (f : Option τ) : Option τ := if b = true then f else none
def nm {α τ : Type} (e : α) (k : α → Option τ) : Option τ := k e
def bd {α τ : Type} (f : Option α) (k : α → Option τ) : Option τ := f.bind k
def bd2 {α β τ : Type} (f : Option (α × β)) (k : α → β → Option τ) : Option τ := f.bind (fun p => k p.1 p.2)
def inb (i : Int32) (n : Nat) : Bool := !(decide (i < 0) || decide (n ≤ i.toNatClampNeg))
theorem inb_in {i : Int32} {n : Nat} (h : inb i n = true) : vp_in i n := by
  simp only [inb, Bool.not_eq_true', Bool.or_eq_false_iff, decide_eq_false_iff_not] at h
  exact fun q => q.elim h.1 h.2
def cpok (sp dp n : Int32) (a b : Nat) : Bool := decide (¬ sp < 0) && (decide (¬ dp < 0) && (decide (¬ n < 0) && (decide (sp.toNatClampNeg + n.toNatClampNeg ≤ a) && decide (dp.toNatClampNeg + n.toNatClampNeg ≤ b))))
def zb (r : Int32) : Bool := decide (r = 0) || decide (r = 1)
theorem zb_nar {r : Int32} (h : zb r = true) : narrow .boolean (.int r) = .int r := by
  simp only [zb, Bool.or_eq_true, decide_eq_true_eq] at h
  rcases h with rfl | rfl <;> decide +kernel
def imin (x y : Int32) : Int32 := if y < x then y else x
def imax (x y : Int32) : Int32 := if x < y then y else x
def labs (x : Int64) : Int64 := if 0 < x then x else -x
section XG
variable {τ : Type} {f g : Option τ} {Z : τ → Prop} {G G2 : Prop}
theorem Xo.mono (h : G2 → G) (k : Xo f Z G2) : Xo f Z G := fun r hr hz => h (k r hr hz)
theorem Xo.done {t : τ} (h : Z t → G) : Xo (some t) Z G := fun r hr hz => h (by cases hr; exact hz)
theorem Xo.gd {b : Bool} (k : b = true → Xo f Z G) : Xo (gd b f) Z G := by
  intro r hr hz
  change (if b = true then f else none) = some r at hr
  by_cases h : b = true
  · rw [if_pos h] at hr; exact k h r hr hz
  · rw [if_neg h] at hr; cases hr
theorem Xo.ite {c : Prop} [Decidable c] (kt : c → Xo f Z G) (kf : ¬ c → Xo g Z G) : Xo (if c then f else g) Z G := by
  intro r hr hz
  by_cases h : c
  · rw [if_pos h] at hr; exact kt h r hr hz
  · rw [if_neg h] at hr; exact kf h r hr hz
theorem Xo.nm {α : Type} {e : α} {k : α → Option τ} (h : ∀ x, Xo (k x) Z (G)) : Xo (nm e k) Z G := h e
theorem Xo.bd {α : Type} {a : Option α} {k : α → Option τ} {Z1 : α → Prop} (h1 : Xo a Z1 G) (h2 : ∀ x, Xo (k x) Z (Z1 x)) : Xo (bd a k) Z G := by
  intro r hr hz
  change a.bind k = some r at hr
  cases ha : a with
  | none => rw [ha] at hr; cases hr
  | some x => rw [ha] at hr; exact h1 x ha (h2 x r hr hz)
theorem Xo.bd2 {α β : Type} {a : Option (α × β)} {k : α → β → Option τ} {Z1 : α × β → Prop} (h1 : Xo a Z1 G) (h2 : ∀ x y, Xo (k x y) Z (Z1 (x, y))) : Xo (bd2 a k) Z G := by
  intro r hr hz
  change a.bind (fun p => k p.1 p.2) = some r at hr
  cases ha : a with
  | none => rw [ha] at hr; cases hr
  | some x => rw [ha] at hr; exact h1 x ha (h2 x.1 x.2 r hr hz)
end XG
/-! ===== loops ===== -/
def lp {S E : Type} : Nat → (S → Option (S ⊕ E)) → S → Option E
  | 0, _, _ => none
  | n + 1, b, s => match b s with
    | none => none
    | some (.inl t) => lp n b t
    | some (.inr e) => some e
def FUEL : Nat := 100000
def u2 {A B T : Type} (f : A → B → T) (x : A × B) : T := f x.1 x.2
def u3 {A B C T : Type} (f : A → B → C → T) (x : A × B × C) : T := f x.1 x.2.1 x.2.2
def u4 {A B C D T : Type} (f : A → B → C → D → T) (x : A × B × C × D) : T := f x.1 x.2.1 x.2.2.1 x.2.2.2
def u5 {A B C D E T : Type} (f : A → B → C → D → E → T) (x : A × B × C × D × E) : T := f x.1 x.2.1 x.2.2.1 x.2.2.2.1 x.2.2.2.2
def u6 {A B C D E F T : Type} (f : A → B → C → D → E → F → T) (x : A × B × C × D × E × F) : T := f x.1 x.2.1 x.2.2.1 x.2.2.2.1 x.2.2.2.2.1 x.2.2.2.2.2
def u7 {A B C D E F G T : Type} (f : A → B → C → D → E → F → G → T) (x : A × B × C × D × E × F × G) : T := f x.1 x.2.1 x.2.2.1 x.2.2.2.1 x.2.2.2.2.1 x.2.2.2.2.2.1 x.2.2.2.2.2.2
theorem x_lp {S E : Type} {b : S → Option (S ⊕ E)} (fr : S → Prop) (ex : E → Prop) (hb : ∀ s, Xo (b s) (Sum.elim fr ex) (fr s)) : ∀ (n : Nat) (s : S), Xo (lp n b s) ex (fr s) := by
  intro n
  induction n with
  | zero => intro s r hr; cases hr
  | succ n ih =>
    intro s r hr hz
    unfold lp at hr
    cases hbs : b s with
    | none => rw [hbs] at hr; cases hr
    | some y =>
      rw [hbs] at hr
      cases y with
      | inl t => exact hb s _ hbs (ih t r hr hz)
      | inr e => cases hr; exact hb s _ hbs hz
theorem x_lpF {S E : Type} {b : S → Option (S ⊕ E)} (fr : S → Prop) (ex : E → Prop) (s : S) (hb : ∀ s, Xo (b s) (Sum.elim fr ex) (fr s)) : Xo (lp FUEL b s) ex (fr s) := x_lp fr ex hb FUEL s
/-! ===== fewer locals known ===== -/
def LW (L L' : List (Option Value)) : Prop := ∀ (i : Nat) (v : Value), L'[i]? = some (some v) → L[i]? = some (some v)
theorem lw_0 {L : List (Option Value)} : LW L [] := fun i v h => by simp at h
theorem lw_n {a : Option Value} {L L' : List (Option Value)} (h : LW L L') : LW (a :: L) (none :: L') := fun i v hi => by
  cases i with
  | zero => simp at hi
  | succ i => simpa using h i v (by simpa using hi)
theorem lw_s {a : Option Value} {L L' : List (Option Value)} (h : LW L L') : LW (a :: L) (a :: L') := fun i v hi => by
  cases i with
  | zero => simpa using hi
  | succ i => simpa using h i v (by simpa using hi)
theorem Yx.weak {o : Om} {pc : Nat} {L L' : List (Option Value)} {st : List Value} {σ : SS} (h : LW L L') (k : Yx o pc L' st σ) : Yx o pc L st σ :=
  fun ls H locs hl hP hS => k ls H locs ⟨hl.1, hl.2.1, fun i v hi => hl.2.2 i v (h i v hi)⟩ hP hS
def cs (st : List Value) : Nat := (st.map (fun v => v.category)).sum
theorem cs_sv (α : Nat → Nat) (st : List Value) : ((st.map (sv α)).map (fun v => v.category)).sum = cs st := by
  unfold cs
  rw [List.map_map]
  congr 1
  apply List.map_congr_left
  intro v _
  exact sv_cat α v
/-! ===== the rules ===== -/
section RU
variable {τ : Type} {f g : Option τ} {Z : τ → Prop} {o : Om} {own : String} {cc : ByteArray} {nL : Nat} {rt : Option FieldType} {rm : Room} {w pc : Nat} {L L' : List (Option Value)} {st : List Value} {σ : SS}
theorem x_iadd (C : Cx o own cc nL rt rm w) {x y : Int32} (hd : decode cc pc = .ok (.iadd, 1)) (k : Xo f Z (Yx o (pc + 1) L (.int (x + y) :: st) σ)) : Xo f Z (Yx o pc L (.int y :: .int x :: st) σ) :=
  k.mono (fun y ls H locs hl hP hS => lv_iadd C.1 C.2.1 hd (y ls H locs hl hP hS))
theorem x_isub (C : Cx o own cc nL rt rm w) {x y : Int32} (hd : decode cc pc = .ok (.isub, 1)) (k : Xo f Z (Yx o (pc + 1) L (.int (x - y) :: st) σ)) : Xo f Z (Yx o pc L (.int y :: .int x :: st) σ) :=
  k.mono (fun y ls H locs hl hP hS => lv_isub C.1 C.2.1 hd (y ls H locs hl hP hS))
theorem x_imul (C : Cx o own cc nL rt rm w) {x y : Int32} (hd : decode cc pc = .ok (.imul, 1)) (k : Xo f Z (Yx o (pc + 1) L (.int (x * y) :: st) σ)) : Xo f Z (Yx o pc L (.int y :: .int x :: st) σ) :=
  k.mono (fun y ls H locs hl hP hS => lv_imul C.1 C.2.1 hd (y ls H locs hl hP hS))
theorem x_iand (C : Cx o own cc nL rt rm w) {x y : Int32} (hd : decode cc pc = .ok (.iand, 1)) (k : Xo f Z (Yx o (pc + 1) L (.int (x &&& y) :: st) σ)) : Xo f Z (Yx o pc L (.int y :: .int x :: st) σ) :=
  k.mono (fun y ls H locs hl hP hS => lv_iand C.1 C.2.1 hd (y ls H locs hl hP hS))
theorem x_ior (C : Cx o own cc nL rt rm w) {x y : Int32} (hd : decode cc pc = .ok (.ior, 1)) (k : Xo f Z (Yx o (pc + 1) L (.int (x ||| y) :: st) σ)) : Xo f Z (Yx o pc L (.int y :: .int x :: st) σ) :=
  k.mono (fun y ls H locs hl hP hS => lv_ior C.1 C.2.1 hd (y ls H locs hl hP hS))
theorem x_ixor (C : Cx o own cc nL rt rm w) {x y : Int32} (hd : decode cc pc = .ok (.ixor, 1)) (k : Xo f Z (Yx o (pc + 1) L (.int (x ^^^ y) :: st) σ)) : Xo f Z (Yx o pc L (.int y :: .int x :: st) σ) :=
  k.mono (fun y ls H locs hl hP hS => lv_ixor C.1 C.2.1 hd (y ls H locs hl hP hS))
theorem x_ishl (C : Cx o own cc nL rt rm w) {x y : Int32} (hd : decode cc pc = .ok (.ishl, 1)) (k : Xo f Z (Yx o (pc + 1) L (.int (x <<< (y &&& 31)) :: st) σ)) : Xo f Z (Yx o pc L (.int y :: .int x :: st) σ) :=
  k.mono (fun y ls H locs hl hP hS => lv_ishl C.1 C.2.1 hd (y ls H locs hl hP hS))
theorem x_ishr (C : Cx o own cc nL rt rm w) {x y : Int32} (hd : decode cc pc = .ok (.ishr, 1)) (k : Xo f Z (Yx o (pc + 1) L (.int (x >>> (y &&& 31)) :: st) σ)) : Xo f Z (Yx o pc L (.int y :: .int x :: st) σ) :=
  k.mono (fun y ls H locs hl hP hS => lv_ishr C.1 C.2.1 hd (y ls H locs hl hP hS))
theorem x_iushr (C : Cx o own cc nL rt rm w) {x y : Int32} (hd : decode cc pc = .ok (.iushr, 1)) (k : Xo f Z (Yx o (pc + 1) L (.int ((x.toUInt32 >>> (y.toUInt32 &&& Int32.toUInt32 31)).toInt32) :: st) σ)) : Xo f Z (Yx o pc L (.int y :: .int x :: st) σ) :=
  k.mono (fun y ls H locs hl hP hS => lv_iushr C.1 C.2.1 hd rfl (y ls H locs hl hP hS))
theorem x_ineg (C : Cx o own cc nL rt rm w) {x : Int32} (hd : decode cc pc = .ok (.ineg, 1)) (k : Xo f Z (Yx o (pc + 1) L (.int (-x) :: st) σ)) : Xo f Z (Yx o pc L (.int x :: st) σ) :=
  k.mono (fun y ls H locs hl hP hS => lv_ineg C.1 C.2.1 hd (y ls H locs hl hP hS))
theorem x_idiv (C : Cx o own cc nL rt rm w) {x y : Int32} (hd : decode cc pc = .ok (.idiv, 1)) (hn : ¬ y = 0) (k : Xo f Z (Yx o (pc + 1) L (.int (x / y) :: st) σ)) : Xo f Z (Yx o pc L (.int y :: .int x :: st) σ) :=
  k.mono (fun y ls H locs hl hP hS => lv_idiv C.1 C.2.1 hd hn (y ls H locs hl hP hS))
theorem x_irem (C : Cx o own cc nL rt rm w) {x y : Int32} (hd : decode cc pc = .ok (.irem, 1)) (hn : ¬ y = 0) (k : Xo f Z (Yx o (pc + 1) L (.int (x - x / y * y) :: st) σ)) : Xo f Z (Yx o pc L (.int y :: .int x :: st) σ) :=
  k.mono (fun y ls H locs hl hP hS => lv_irem C.1 C.2.1 hd hn (y ls H locs hl hP hS))
theorem x_ladd (C : Cx o own cc nL rt rm w) {x y : Int64} (hd : decode cc pc = .ok (.ladd, 1)) (k : Xo f Z (Yx o (pc + 1) L (.long (x + y) :: st) σ)) : Xo f Z (Yx o pc L (.long y :: .long x :: st) σ) :=
  k.mono (fun y ls H locs hl hP hS => lv_ladd C.1 C.2.1 hd (y ls H locs hl hP hS))
theorem x_lsub (C : Cx o own cc nL rt rm w) {x y : Int64} (hd : decode cc pc = .ok (.lsub, 1)) (k : Xo f Z (Yx o (pc + 1) L (.long (x - y) :: st) σ)) : Xo f Z (Yx o pc L (.long y :: .long x :: st) σ) :=
  k.mono (fun y ls H locs hl hP hS => lv_lsub C.1 C.2.1 hd (y ls H locs hl hP hS))
theorem x_lmul (C : Cx o own cc nL rt rm w) {x y : Int64} (hd : decode cc pc = .ok (.lmul, 1)) (k : Xo f Z (Yx o (pc + 1) L (.long (x * y) :: st) σ)) : Xo f Z (Yx o pc L (.long y :: .long x :: st) σ) :=
  k.mono (fun y ls H locs hl hP hS => lv_lmul C.1 C.2.1 hd (y ls H locs hl hP hS))
theorem x_ldiv (C : Cx o own cc nL rt rm w) {x y : Int64} (hd : decode cc pc = .ok (.ldiv, 1)) (hn : ¬ y = 0) (k : Xo f Z (Yx o (pc + 1) L (.long (x / y) :: st) σ)) : Xo f Z (Yx o pc L (.long y :: .long x :: st) σ) :=
  k.mono (fun y ls H locs hl hP hS => lv_ldiv C.1 C.2.1 hd hn (y ls H locs hl hP hS))
theorem x_lrem (C : Cx o own cc nL rt rm w) {x y : Int64} (hd : decode cc pc = .ok (.lrem, 1)) (hn : ¬ y = 0) (k : Xo f Z (Yx o (pc + 1) L (.long (x - x / y * y) :: st) σ)) : Xo f Z (Yx o pc L (.long y :: .long x :: st) σ) :=
  k.mono (fun y ls H locs hl hP hS => lv_lrem C.1 C.2.1 hd hn (y ls H locs hl hP hS))
theorem x_lneg (C : Cx o own cc nL rt rm w) {x : Int64} (hd : decode cc pc = .ok (.lneg, 1)) (k : Xo f Z (Yx o (pc + 1) L (.long (-x) :: st) σ)) : Xo f Z (Yx o pc L (.long x :: st) σ) :=
  k.mono (fun y ls H locs hl hP hS => lv_lneg C.1 C.2.1 hd (y ls H locs hl hP hS))
theorem x_lcmp (C : Cx o own cc nL rt rm w) {x y : Int64} (hd : decode cc pc = .ok (.lcmp, 1)) (k : Xo f Z (Yx o (pc + 1) L (.int (lg_cmp x y) :: st) σ)) : Xo f Z (Yx o pc L (.long y :: .long x :: st) σ) :=
  k.mono (fun y ls H locs hl hP hS => W.lcmp C.1 C.2.1 hd (y ls H locs hl hP hS))
theorem x_i2l (C : Cx o own cc nL rt rm w) {x : Int32} (hd : decode cc pc = .ok (.i2l, 1)) (k : Xo f Z (Yx o (pc + 1) L (.long x.toInt64 :: st) σ)) : Xo f Z (Yx o pc L (.int x :: st) σ) :=
  k.mono (fun y ls H locs hl hP hS => lv_i2l C.1 C.2.1 hd rfl (y ls H locs hl hP hS))
theorem x_l2i (C : Cx o own cc nL rt rm w) {x : Int64} (hd : decode cc pc = .ok (.l2i, 1)) (k : Xo f Z (Yx o (pc + 1) L (.int x.toInt32 :: st) σ)) : Xo f Z (Yx o pc L (.long x :: st) σ) :=
  k.mono (fun y ls H locs hl hP hS => lv_l2i C.1 C.2.1 hd rfl (y ls H locs hl hP hS))
theorem x_iconst (C : Cx o own cc nL rt rm w) {n : Int} {v : Int32} (hd : decode cc pc = .ok (.iconst n, 1)) (hv : Int32.ofInt n = v) (k : Xo f Z (Yx o (pc + 1) L (.int v :: st) σ)) : Xo f Z (Yx o pc L (st) σ) :=
  k.mono (fun y ls H locs hl hP hS => lv_iconst C.1 C.2.1 hd hv (y ls H locs hl hP hS))
theorem x_bipush (C : Cx o own cc nL rt rm w) {n : Int} {v : Int32} (hd : decode cc pc = .ok (.bipush n, 2)) (hv : (Int8.ofInt n).toInt32 = v) (k : Xo f Z (Yx o (pc + 2) L (.int v :: st) σ)) : Xo f Z (Yx o pc L (st) σ) :=
  k.mono (fun y ls H locs hl hP hS => lv_bipush C.1 C.2.1 hd hv (y ls H locs hl hP hS))
theorem x_sipush (C : Cx o own cc nL rt rm w) {n : Int} {v : Int32} (hd : decode cc pc = .ok (.sipush n, 3)) (hv : (Int16.ofInt n).toInt32 = v) (k : Xo f Z (Yx o (pc + 3) L (.int v :: st) σ)) : Xo f Z (Yx o pc L (st) σ) :=
  k.mono (fun y ls H locs hl hP hS => lv_sipush C.1 C.2.1 hd hv (y ls H locs hl hP hS))
theorem x_lconst (C : Cx o own cc nL rt rm w) {n : Fin 2} {v : Int64} (hd : decode cc pc = .ok (.lconst n, 1)) (hv : Int64.ofNat (n : Nat) = v) (k : Xo f Z (Yx o (pc + 1) L (.long v :: st) σ)) : Xo f Z (Yx o pc L (st) σ) :=
  k.mono (fun y ls H locs hl hP hS => lv_lconst C.1 C.2.1 hd hv (y ls H locs hl hP hS))
theorem x_ldc2 (C : Cx o own cc nL rt rm w) {index : Nat} {v : Int64} (hd : decode cc pc = .ok (.ldc2_w index, 3)) (hc : Jvm.Cond.constantLong own index v ∈ TB) (k : Xo f Z (Yx o (pc + 3) L (.long v :: st) σ)) : Xo f Z (Yx o pc L (st) σ) :=
  k.mono (fun y ls H locs hl hP hS => lv_ldc2 C.1 C.2.1 C.2.2.2.1 (C.2.2.2.2.1 _ hc) hd (y ls H locs hl hP hS))
theorem x_ldcw (C : Cx o own cc nL rt rm w) {index : Nat} {v : Int32} (hd : decode cc pc = .ok (.ldc_w index, 3)) (hc : Jvm.Cond.constant own index v ∈ TB) (k : Xo f Z (Yx o (pc + 3) L (.int v :: st) σ)) : Xo f Z (Yx o pc L (st) σ) :=
  k.mono (fun y ls H locs hl hP hS => lv_ldcw C.1 C.2.1 C.2.2.2.1 (C.2.2.2.2.1 _ hc) hd (y ls H locs hl hP hS))
theorem x_iload_n (C : Cx o own cc nL rt rm w) {i : Fin 4} {x : Int32} (hd : decode cc pc = .ok (.iload_n i, 1)) (hi : L[(i : Nat)]? = some (some (.int x))) (k : Xo f Z (Yx o (pc + 1) L (.int x :: st) σ)) : Xo f Z (Yx o pc L st σ) :=
  k.mono (fun y ls H locs hl hP hS => lv_iload_n C.1 C.2.1 hd rfl (lh_at hl hi) (y ls H locs hl hP hS))
theorem x_iload (C : Cx o own cc nL rt rm w) {i : Nat} {x : Int32} (hd : decode cc pc = .ok (.iload i, 2)) (hi : L[i]? = some (some (.int x))) (k : Xo f Z (Yx o (pc + 2) L (.int x :: st) σ)) : Xo f Z (Yx o pc L st σ) :=
  k.mono (fun y ls H locs hl hP hS => lv_iload C.1 C.2.1 hd (lh_at hl hi) (y ls H locs hl hP hS))
theorem x_lload_n (C : Cx o own cc nL rt rm w) {i : Fin 4} {x : Int64} (hd : decode cc pc = .ok (.lload_n i, 1)) (hi : L[(i : Nat)]? = some (some (.long x))) (k : Xo f Z (Yx o (pc + 1) L (.long x :: st) σ)) : Xo f Z (Yx o pc L st σ) :=
  k.mono (fun y ls H locs hl hP hS => lv_lload_n C.1 C.2.1 hd rfl (lh_at hl hi) (y ls H locs hl hP hS))
theorem x_lload (C : Cx o own cc nL rt rm w) {i : Nat} {x : Int64} (hd : decode cc pc = .ok (.lload i, 2)) (hi : L[i]? = some (some (.long x))) (k : Xo f Z (Yx o (pc + 2) L (.long x :: st) σ)) : Xo f Z (Yx o pc L st σ) :=
  k.mono (fun y ls H locs hl hP hS => lv_lload C.1 C.2.1 hd (lh_at hl hi) (y ls H locs hl hP hS))
theorem x_aload_n (C : Cx o own cc nL rt rm w) {i : Fin 4} {x : Nat} (hd : decode cc pc = .ok (.aload_n i, 1)) (hi : L[(i : Nat)]? = some (some (.ref x))) (k : Xo f Z (Yx o (pc + 1) L (.ref x :: st) σ)) : Xo f Z (Yx o pc L st σ) :=
  k.mono (fun y ls H locs hl hP hS => lv_aload_n C.1 C.2.1 hd rfl (lh_at hl hi) (y ls H locs hl hP hS))
theorem x_aload (C : Cx o own cc nL rt rm w) {i : Nat} {x : Nat} (hd : decode cc pc = .ok (.aload i, 2)) (hi : L[i]? = some (some (.ref x))) (k : Xo f Z (Yx o (pc + 2) L (.ref x :: st) σ)) : Xo f Z (Yx o pc L st σ) :=
  k.mono (fun y ls H locs hl hP hS => lv_aload C.1 C.2.1 hd (lh_at hl hi) (y ls H locs hl hP hS))
theorem W.st1 {p : Program} {l : Launch} {e : Env} {R : Room} {s : State} {m : MethodId} {args : Array Value} {below : List Frame} {meth : Method} {c : Code} {H : Heap} {locs : List Loc} {Q : State → Prop} {ls ls' : Array Slot} {rest : List Value} (hexec : p.tables.exec = Jvm.exec) (hb : c.code = cc) {v : Value} {i : Nat} {ins : Instr} {n : Nat} (hs : storeLocals ls i v = some ls')
    (h : (∃ x, v = .int x ∧ ((∃ k : Fin 4, (k : Nat) = i ∧ ins = .istore_n k ∧ n = 1) ∨ (ins = .istore i ∧ n = 2))) ∨ (∃ x, v = .ref x ∧ ((∃ k : Fin 4, (k : Nat) = i ∧ ins = .astore_n k ∧ n = 1) ∨ (ins = .astore i ∧ n = 2))) ∨ (∃ x, v = .long x ∧ ((∃ k : Fin 4, (k : Nat) = i ∧ ins = .lstore_n k ∧ n = 1) ∨ (ins = .lstore i ∧ n = 2))))
    (hd : decode cc pc = .ok (ins, n)) (k : W p l e R s m args below meth c H locs 0 0 Q (F0 m (pc + n) ls' rest)) : W p l e R s m args below meth c H locs 0 0 Q (F0 m pc ls (v :: rest)) := by
  intro T hT X
  obtain ⟨t, a, b⟩ := k T hT X
  refine ⟨t, ?_, b⟩
  rcases h with ⟨x, rfl, ⟨kk, rfl, rfl, rfl⟩ | ⟨rfl, rfl⟩⟩ | ⟨x, rfl, ⟨kk, rfl, rfl, rfl⟩ | ⟨rfl, rfl⟩⟩ | ⟨x, rfl, ⟨kk, rfl, rfl, rfl⟩ | ⟨rfl, rfl⟩⟩
  all_goals
    jvm_step X.here [X.here.top, ↓top_set X.here.top, hexec, hb, hd, hs]
    first | exact a | exact ⟨rfl, a⟩
theorem x_istore_n (C : Cx o own cc nL rt rm w) {i : Fin 4} {x : Int32} {h : Int32 → Option τ} {L' : Int32 → List (Option Value)} (hd : decode cc pc = .ok (.istore_n i, 1)) (hi : (i : Nat) < nL) (hL : ∀ y, st1 L (i : Nat) (.int y) = L' y) (k : ∀ y, Xo (h y) Z (Yx o (pc + 1) (L' y) st σ)) : Xo (nm x h) Z (Yx o pc L (.int x :: st) σ) := by
  refine Xo.mono ?_ (k x)
  intro y ls H locs hl hP hS
  obtain ⟨ls', e1, e2⟩ := lh_st1 (v := .int x) hl (by rw [C.2.2.2.2.2.2.2.2.2.2.2]; exact hi) rfl
  rw [hL] at e2
  exact W.st1 C.1 C.2.1 e1 (Or.inl ⟨_, rfl, Or.inl ⟨i, rfl, rfl, rfl⟩⟩) hd (y ls' H locs e2 hP hS)
theorem x_istore (C : Cx o own cc nL rt rm w) {i : Nat} {x : Int32} {h : Int32 → Option τ} {L' : Int32 → List (Option Value)} (hd : decode cc pc = .ok (.istore i, 2)) (hi : i < nL) (hL : ∀ y, st1 L i (.int y) = L' y) (k : ∀ y, Xo (h y) Z (Yx o (pc + 2) (L' y) st σ)) : Xo (nm x h) Z (Yx o pc L (.int x :: st) σ) := by
  refine Xo.mono ?_ (k x)
  intro y ls H locs hl hP hS
  obtain ⟨ls', e1, e2⟩ := lh_st1 (v := .int x) hl (by rw [C.2.2.2.2.2.2.2.2.2.2.2]; exact hi) rfl
  rw [hL] at e2
  exact W.st1 C.1 C.2.1 e1 (Or.inl ⟨_, rfl, Or.inr ⟨rfl, rfl⟩⟩) hd (y ls' H locs e2 hP hS)
theorem x_astore_n (C : Cx o own cc nL rt rm w) {i : Fin 4} {x : Nat} (hd : decode cc pc = .ok (.astore_n i, 1)) (hi : (i : Nat) < nL) (hL : st1 L (i : Nat) (.ref x) = L') (k : Xo f Z (Yx o (pc + 1) L' st σ)) : Xo f Z (Yx o pc L (.ref x :: st) σ) := by
  refine k.mono (fun y ls H locs hl hP hS => ?_)
  subst hL
  obtain ⟨ls', e1, e2⟩ := lh_st1 (v := .ref x) hl (by rw [C.2.2.2.2.2.2.2.2.2.2.2]; exact hi) rfl
  exact W.st1 C.1 C.2.1 e1 (Or.inr (Or.inl ⟨_, rfl, Or.inl ⟨i, rfl, rfl, rfl⟩⟩)) hd (y ls' H locs e2 hP hS)
theorem x_astore (C : Cx o own cc nL rt rm w) {i : Nat} {x : Nat} (hd : decode cc pc = .ok (.astore i, 2)) (hi : i < nL) (hL : st1 L i (.ref x) = L') (k : Xo f Z (Yx o (pc + 2) L' st σ)) : Xo f Z (Yx o pc L (.ref x :: st) σ) := by
  refine k.mono (fun y ls H locs hl hP hS => ?_)
  subst hL
  obtain ⟨ls', e1, e2⟩ := lh_st1 (v := .ref x) hl (by rw [C.2.2.2.2.2.2.2.2.2.2.2]; exact hi) rfl
  exact W.st1 C.1 C.2.1 e1 (Or.inr (Or.inl ⟨_, rfl, Or.inr ⟨rfl, rfl⟩⟩)) hd (y ls' H locs e2 hP hS)
theorem x_lstore_n (C : Cx o own cc nL rt rm w) {i : Fin 4} {x : Int64} {h : Int64 → Option τ} {L' : Int64 → List (Option Value)} (hd : decode cc pc = .ok (.lstore_n i, 1)) (hi : (i : Nat) + 1 < nL) (hL : ∀ y, st2 L (i : Nat) (.long y) = L' y) (k : ∀ y, Xo (h y) Z (Yx o (pc + 1) (L' y) st σ)) : Xo (nm x h) Z (Yx o pc L (.long x :: st) σ) := by
  refine Xo.mono ?_ (k x)
  intro y ls H locs hl hP hS
  obtain ⟨ls', e1, e2⟩ := lh_st2 (x := x) hl (by rw [C.2.2.2.2.2.2.2.2.2.2.2]; exact hi)
  rw [hL] at e2
  exact W.st1 C.1 C.2.1 e1 (Or.inr (Or.inr ⟨_, rfl, Or.inl ⟨i, rfl, rfl, rfl⟩⟩)) hd (y ls' H locs e2 hP hS)
theorem x_lstore (C : Cx o own cc nL rt rm w) {i : Nat} {x : Int64} {h : Int64 → Option τ} {L' : Int64 → List (Option Value)} (hd : decode cc pc = .ok (.lstore i, 2)) (hi : i + 1 < nL) (hL : ∀ y, st2 L i (.long y) = L' y) (k : ∀ y, Xo (h y) Z (Yx o (pc + 2) (L' y) st σ)) : Xo (nm x h) Z (Yx o pc L (.long x :: st) σ) := by
  refine Xo.mono ?_ (k x)
  intro y ls H locs hl hP hS
  obtain ⟨ls', e1, e2⟩ := lh_st2 (x := x) hl (by rw [C.2.2.2.2.2.2.2.2.2.2.2]; exact hi)
  rw [hL] at e2
  exact W.st1 C.1 C.2.1 e1 (Or.inr (Or.inr ⟨_, rfl, Or.inr ⟨rfl, rfl⟩⟩)) hd (y ls' H locs e2 hP hS)
theorem W.iincS {p : Program} {l : Launch} {e : Env} {R : Room} {s : State} {m : MethodId} {args : Array Value} {below : List Frame} {meth : Method} {c : Code} {H : Heap} {locs : List Loc} {Q : State → Prop} {ls ls' : Array Slot} {rest : List Value} (hexec : p.tables.exec = Jvm.exec) (hb : c.code = cc) {i : Nat} {n : Int} {x v : Int32} (hd : decode cc pc = .ok (.iinc i n, 3)) (hg : ls[i]? = some (.val (.int x))) (hv : x + Int32.ofInt n = v) (e' : storeLocals ls i (.int v) = some ls')
    (k : W p l e R s m args below meth c H locs 0 0 Q (F0 m (pc + 3) ls' rest)) : W p l e R s m args below meth c H locs 0 0 Q (F0 m pc ls rest) := by
  subst hv
  intro T hT X
  obtain ⟨t, a, b⟩ := k T hT X
  refine ⟨t, ?_, b⟩
  jvm_step X.here [X.here.top, ↓top_set X.here.top, hexec, hb, hd, hg, e']
  exact a
theorem x_iinc (C : Cx o own cc nL rt rm w) {i : Nat} {n : Int} {x d : Int32} {h : Int32 → Option τ} {L' : Int32 → List (Option Value)} (hd : decode cc pc = .ok (.iinc i n, 3)) (hx : L[i]? = some (some (.int x))) (hv : Int32.ofInt n = d) (hi : i < nL) (hL : ∀ y, st1 L i (.int y) = L' y) (k : ∀ y, Xo (h y) Z (Yx o (pc + 3) (L' y) st σ)) : Xo (nm (x + d) h) Z (Yx o pc L st σ) := by
  refine Xo.mono ?_ (k (x + d))
  intro y ls H locs hl hP hS
  obtain ⟨ls', e1, e2⟩ := lh_st1 (v := .int (x + d)) hl (by rw [C.2.2.2.2.2.2.2.2.2.2.2]; exact hi) rfl
  rw [hL] at e2
  exact W.iincS C.1 C.2.1 hd (lh_at hl hx) (by rw [hv]) e1 (y ls' H locs e2 hP hS)
theorem x_dup (C : Cx o own cc nL rt rm w) {v : Value} (hd : decode cc pc = .ok (.dup, 1)) (hc : v.category = 1) (k : Xo f Z (Yx o (pc + 1) L (v :: v :: st) σ)) : Xo f Z (Yx o pc L (v :: st) σ) :=
  k.mono (fun y ls H locs hl hP hS => lv_dup C.1 C.2.1 hd (by rw [sv_cat]; exact hc) (y ls H locs hl hP hS))
theorem x_pop (C : Cx o own cc nL rt rm w) {v : Value} (hd : decode cc pc = .ok (.pop, 1)) (hc : v.category = 1) (k : Xo f Z (Yx o (pc + 1) L st σ)) : Xo f Z (Yx o pc L (v :: st) σ) :=
  k.mono (fun y ls H locs hl hP hS => lv_pop C.1 C.2.1 hd (by rw [sv_cat]; exact hc) (y ls H locs hl hP hS))
theorem x_dup2 (C : Cx o own cc nL rt rm w) {u v : Value} (hd : decode cc pc = .ok (.dup2, 1)) (hu : u.category = 1) (hc : v.category = 1) (k : Xo f Z (Yx o (pc + 1) L (u :: v :: u :: v :: st) σ)) : Xo f Z (Yx o pc L (u :: v :: st) σ) :=
  k.mono (fun y ls H locs hl hP hS => lv_dup2_11 C.1 C.2.1 hd (by rw [sv_cat]; exact hu) (by rw [sv_cat]; exact hc) (y ls H locs hl hP hS))
theorem x_goto (C : Cx o own cc nL rt rm w) {off : Int} {tgt : Nat} (hd : decode cc pc = .ok (.goto off, 3)) (ht : (pc : Int) + off = (tgt : Int)) (k : Xo f Z (Yx o tgt L st σ)) : Xo f Z (Yx o pc L st σ) :=
  k.mono (fun y ls H locs hl hP hS => lv_goto C.1 C.2.1 hd ht (y ls H locs hl hP hS))
theorem x_icmp_eq (C : Cx o own cc nL rt rm w) {x y : Int32} [Decidable (x = y)] {off : Int} {tgt : Nat} (hd : decode cc pc = .ok (.if_icmp .eq off, 3)) (ht : (pc : Int) + off = (tgt : Int)) (kt : x = y → Xo f Z (Yx o tgt L st σ)) (kf : ¬ (x = y) → Xo g Z (Yx o (pc + 3) L st σ)) : Xo (if x = y then f else g) Z (Yx o pc L (.int y :: .int x :: st) σ) :=
  Xo.ite (fun h => (kt h).mono (fun y ls H locs hl hP hS => lv_icmp_eq C.1 C.2.1 hd ht (fun _ => y ls H locs hl hP hS) (fun q => absurd h q))) (fun h => (kf h).mono (fun y ls H locs hl hP hS => lv_icmp_eq C.1 C.2.1 hd ht (fun q => absurd q h) (fun _ => y ls H locs hl hP hS)))
theorem x_if_eq (C : Cx o own cc nL rt rm w) {x : Int32} [Decidable (x = 0)] {off : Int} {tgt : Nat} (hd : decode cc pc = .ok (.ifCond .eq off, 3)) (ht : (pc : Int) + off = (tgt : Int)) (kt : x = 0 → Xo f Z (Yx o tgt L st σ)) (kf : ¬ (x = 0) → Xo g Z (Yx o (pc + 3) L st σ)) : Xo (if x = 0 then f else g) Z (Yx o pc L (.int x :: st) σ) :=
  Xo.ite (fun h => (kt h).mono (fun y ls H locs hl hP hS => lv_if_eq C.1 C.2.1 hd ht (fun _ => y ls H locs hl hP hS) (fun q => absurd h q))) (fun h => (kf h).mono (fun y ls H locs hl hP hS => lv_if_eq C.1 C.2.1 hd ht (fun q => absurd q h) (fun _ => y ls H locs hl hP hS)))
theorem x_icmp_ne (C : Cx o own cc nL rt rm w) {x y : Int32} [Decidable (x = y)] {off : Int} {tgt : Nat} (hd : decode cc pc = .ok (.if_icmp .ne off, 3)) (ht : (pc : Int) + off = (tgt : Int)) (kf : x = y → Xo f Z (Yx o (pc + 3) L st σ)) (kt : ¬ x = y → Xo g Z (Yx o tgt L st σ)) : Xo (if x = y then f else g) Z (Yx o pc L (.int y :: .int x :: st) σ) :=
  Xo.ite (fun h => (kf h).mono (fun y ls H locs hl hP hS => lv_icmp_ne C.1 C.2.1 hd ht (fun q => absurd h q) (fun _ => y ls H locs hl hP hS))) (fun h => (kt h).mono (fun y ls H locs hl hP hS => lv_icmp_ne C.1 C.2.1 hd ht (fun _ => y ls H locs hl hP hS) (fun q => absurd q h)))
theorem x_if_ne (C : Cx o own cc nL rt rm w) {x : Int32} [Decidable (x = 0)] {off : Int} {tgt : Nat} (hd : decode cc pc = .ok (.ifCond .ne off, 3)) (ht : (pc : Int) + off = (tgt : Int)) (kf : x = 0 → Xo f Z (Yx o (pc + 3) L st σ)) (kt : ¬ x = 0 → Xo g Z (Yx o tgt L st σ)) : Xo (if x = 0 then f else g) Z (Yx o pc L (.int x :: st) σ) :=
  Xo.ite (fun h => (kf h).mono (fun y ls H locs hl hP hS => lv_if_ne C.1 C.2.1 hd ht (fun q => absurd h q) (fun _ => y ls H locs hl hP hS))) (fun h => (kt h).mono (fun y ls H locs hl hP hS => lv_if_ne C.1 C.2.1 hd ht (fun _ => y ls H locs hl hP hS) (fun q => absurd q h)))
theorem x_icmp_lt (C : Cx o own cc nL rt rm w) {x y : Int32} [Decidable (x < y)] {off : Int} {tgt : Nat} (hd : decode cc pc = .ok (.if_icmp .lt off, 3)) (ht : (pc : Int) + off = (tgt : Int)) (kt : x < y → Xo f Z (Yx o tgt L st σ)) (kf : ¬ (x < y) → Xo g Z (Yx o (pc + 3) L st σ)) : Xo (if x < y then f else g) Z (Yx o pc L (.int y :: .int x :: st) σ) :=
  Xo.ite (fun h => (kt h).mono (fun y ls H locs hl hP hS => lv_icmp_lt C.1 C.2.1 hd ht (fun _ => y ls H locs hl hP hS) (fun q => absurd h q))) (fun h => (kf h).mono (fun y ls H locs hl hP hS => lv_icmp_lt C.1 C.2.1 hd ht (fun q => absurd q h) (fun _ => y ls H locs hl hP hS)))
theorem x_if_lt (C : Cx o own cc nL rt rm w) {x : Int32} [Decidable (x < 0)] {off : Int} {tgt : Nat} (hd : decode cc pc = .ok (.ifCond .lt off, 3)) (ht : (pc : Int) + off = (tgt : Int)) (kt : x < 0 → Xo f Z (Yx o tgt L st σ)) (kf : ¬ (x < 0) → Xo g Z (Yx o (pc + 3) L st σ)) : Xo (if x < 0 then f else g) Z (Yx o pc L (.int x :: st) σ) :=
  Xo.ite (fun h => (kt h).mono (fun y ls H locs hl hP hS => lv_if_lt C.1 C.2.1 hd ht (fun _ => y ls H locs hl hP hS) (fun q => absurd h q))) (fun h => (kf h).mono (fun y ls H locs hl hP hS => lv_if_lt C.1 C.2.1 hd ht (fun q => absurd q h) (fun _ => y ls H locs hl hP hS)))
theorem x_icmp_ge (C : Cx o own cc nL rt rm w) {x y : Int32} [Decidable (y ≤ x)] {off : Int} {tgt : Nat} (hd : decode cc pc = .ok (.if_icmp .ge off, 3)) (ht : (pc : Int) + off = (tgt : Int)) (kt : y ≤ x → Xo f Z (Yx o tgt L st σ)) (kf : ¬ (y ≤ x) → Xo g Z (Yx o (pc + 3) L st σ)) : Xo (if y ≤ x then f else g) Z (Yx o pc L (.int y :: .int x :: st) σ) :=
  Xo.ite (fun h => (kt h).mono (fun y ls H locs hl hP hS => lv_icmp_ge C.1 C.2.1 hd ht (fun _ => y ls H locs hl hP hS) (fun q => absurd h q))) (fun h => (kf h).mono (fun y ls H locs hl hP hS => lv_icmp_ge C.1 C.2.1 hd ht (fun q => absurd q h) (fun _ => y ls H locs hl hP hS)))
theorem x_if_ge (C : Cx o own cc nL rt rm w) {x : Int32} [Decidable (0 ≤ x)] {off : Int} {tgt : Nat} (hd : decode cc pc = .ok (.ifCond .ge off, 3)) (ht : (pc : Int) + off = (tgt : Int)) (kt : 0 ≤ x → Xo f Z (Yx o tgt L st σ)) (kf : ¬ (0 ≤ x) → Xo g Z (Yx o (pc + 3) L st σ)) : Xo (if 0 ≤ x then f else g) Z (Yx o pc L (.int x :: st) σ) :=
  Xo.ite (fun h => (kt h).mono (fun y ls H locs hl hP hS => lv_if_ge C.1 C.2.1 hd ht (fun _ => y ls H locs hl hP hS) (fun q => absurd h q))) (fun h => (kf h).mono (fun y ls H locs hl hP hS => lv_if_ge C.1 C.2.1 hd ht (fun q => absurd q h) (fun _ => y ls H locs hl hP hS)))
theorem x_icmp_gt (C : Cx o own cc nL rt rm w) {x y : Int32} [Decidable (y < x)] {off : Int} {tgt : Nat} (hd : decode cc pc = .ok (.if_icmp .gt off, 3)) (ht : (pc : Int) + off = (tgt : Int)) (kt : y < x → Xo f Z (Yx o tgt L st σ)) (kf : ¬ (y < x) → Xo g Z (Yx o (pc + 3) L st σ)) : Xo (if y < x then f else g) Z (Yx o pc L (.int y :: .int x :: st) σ) :=
  Xo.ite (fun h => (kt h).mono (fun y ls H locs hl hP hS => lv_icmp_gt C.1 C.2.1 hd ht (fun _ => y ls H locs hl hP hS) (fun q => absurd h q))) (fun h => (kf h).mono (fun y ls H locs hl hP hS => lv_icmp_gt C.1 C.2.1 hd ht (fun q => absurd q h) (fun _ => y ls H locs hl hP hS)))
theorem x_if_gt (C : Cx o own cc nL rt rm w) {x : Int32} [Decidable (0 < x)] {off : Int} {tgt : Nat} (hd : decode cc pc = .ok (.ifCond .gt off, 3)) (ht : (pc : Int) + off = (tgt : Int)) (kt : 0 < x → Xo f Z (Yx o tgt L st σ)) (kf : ¬ (0 < x) → Xo g Z (Yx o (pc + 3) L st σ)) : Xo (if 0 < x then f else g) Z (Yx o pc L (.int x :: st) σ) :=
  Xo.ite (fun h => (kt h).mono (fun y ls H locs hl hP hS => lv_if_gt C.1 C.2.1 hd ht (fun _ => y ls H locs hl hP hS) (fun q => absurd h q))) (fun h => (kf h).mono (fun y ls H locs hl hP hS => lv_if_gt C.1 C.2.1 hd ht (fun q => absurd q h) (fun _ => y ls H locs hl hP hS)))
theorem x_icmp_le (C : Cx o own cc nL rt rm w) {x y : Int32} [Decidable (x ≤ y)] {off : Int} {tgt : Nat} (hd : decode cc pc = .ok (.if_icmp .le off, 3)) (ht : (pc : Int) + off = (tgt : Int)) (kt : x ≤ y → Xo f Z (Yx o tgt L st σ)) (kf : ¬ (x ≤ y) → Xo g Z (Yx o (pc + 3) L st σ)) : Xo (if x ≤ y then f else g) Z (Yx o pc L (.int y :: .int x :: st) σ) :=
  Xo.ite (fun h => (kt h).mono (fun y ls H locs hl hP hS => lv_icmp_le C.1 C.2.1 hd ht (fun _ => y ls H locs hl hP hS) (fun q => absurd h q))) (fun h => (kf h).mono (fun y ls H locs hl hP hS => lv_icmp_le C.1 C.2.1 hd ht (fun q => absurd q h) (fun _ => y ls H locs hl hP hS)))
theorem x_if_le (C : Cx o own cc nL rt rm w) {x : Int32} [Decidable (x ≤ 0)] {off : Int} {tgt : Nat} (hd : decode cc pc = .ok (.ifCond .le off, 3)) (ht : (pc : Int) + off = (tgt : Int)) (kt : x ≤ 0 → Xo f Z (Yx o tgt L st σ)) (kf : ¬ (x ≤ 0) → Xo g Z (Yx o (pc + 3) L st σ)) : Xo (if x ≤ 0 then f else g) Z (Yx o pc L (.int x :: st) σ) :=
  Xo.ite (fun h => (kt h).mono (fun y ls H locs hl hP hS => lv_if_le C.1 C.2.1 hd ht (fun _ => y ls H locs hl hP hS) (fun q => absurd h q))) (fun h => (kf h).mono (fun y ls H locs hl hP hS => lv_if_le C.1 C.2.1 hd ht (fun q => absurd q h) (fun _ => y ls H locs hl hP hS)))
theorem x_tabI (C : Cx o own cc nL rt rm w) {dflt lo hi : Int} {offs : Array Int} {len : Nat} {x v : Int32} {off : Int} {tgt : Nat} (hd : decode cc pc = .ok (.tableswitch dflt lo hi offs, len)) (hx : x = v) (h1 : ¬ v.toInt < lo) (h2 : ¬ hi < v.toInt) (ho : offs[(v.toInt - lo).toNat]? = some off) (ht : (pc : Int) + off = (tgt : Int)) (k : Xo f Z (Yx o tgt L st σ)) : Xo f Z (Yx o pc L (.int x :: st) σ) := by
  subst hx
  exact k.mono (fun y ls H locs hl hP hS => lv_tableIn C.1 C.2.1 hd h1 h2 ho ht (y ls H locs hl hP hS))
theorem x_tabO (C : Cx o own cc nL rt rm w) {dflt lo hi : Int} {offs : Array Int} {len : Nat} {x : Int32} {tgt : Nat} (hd : decode cc pc = .ok (.tableswitch dflt lo hi offs, len)) (h : x.toInt < lo ∨ hi < x.toInt) (ht : (pc : Int) + dflt = (tgt : Int)) (k : Xo f Z (Yx o tgt L st σ)) : Xo f Z (Yx o pc L (.int x :: st) σ) :=
  k.mono (fun y ls H locs hl hP hS => lv_tableOut C.1 C.2.1 hd h ht (y ls H locs hl hP hS))
theorem x_look (C : Cx o own cc nL rt rm w) {dflt : Int} {ps : Array (Int × Int)} {len : Nat} {x : Int32} {off : Int} {tgt : Nat} (hd : decode cc pc = .ok (.lookupswitch dflt ps, len)) (hp : (ps.toList.zip (ps.toList.drop 1)).all (fun (a, next) => a.1 < next.1) = true) (ho : Op.lookupswitch.offset ps.toList dflt x.toInt = off) (ht : (pc : Int) + off = (tgt : Int)) (k : Xo f Z (Yx o tgt L st σ)) : Xo f Z (Yx o pc L (.int x :: st) σ) :=
  k.mono (fun y ls H locs hl hP hS => lv_lookup C.1 C.2.1 hd hp ho ht (y ls H locs hl hP hS))
theorem tab_out {x : Int32} {lo hi : Int} (n : Nat) (h : ∀ j : Nat, j < n → ¬ x.toInt = lo + j) (hn : hi = lo + n - 1) : x.toInt < lo ∨ hi < x.toInt := by
  rcases Int.lt_or_le x.toInt lo with q | q
  · exact Or.inl q
  · rcases Int.lt_or_le hi x.toInt with r | r
    · exact Or.inr r
    · exact absurd (show x.toInt = lo + ((x.toInt - lo).toNat : Int) by omega) (h (x.toInt - lo).toNat (by omega))
end RU
end
section
/-! ===== fields, rows, calls ===== -/
def FG (w : Nat) (own : String) (idx ci k t : Nat) : Prop := ∃ (K : String) (T : u_T) (N : Nat), vwCl[ci]? = some (K, T, N) ∧ (∀ x ∈ u_ws K T N, x ∈ TB) ∧ k < N ∧ Cond.fieldLink own idx K (T k).2.1 (T k).2.2.1 ∈ TB ∧ (T k).1 = K ∧ (ft ci)[k]? = some t ∧ kw ci = w ∧ ci < 20
def FP (w : Nat) (own : String) (idx ci k t : Nat) (ty : FieldType) : Prop := ∃ (K : String) (T : u_T) (N : Nat) (ty0 : Nat → FieldType), vwCl[ci]? = some (K, T, N) ∧ (∀ x ∈ u_ws K T N, x ∈ TB) ∧ k < N ∧ Cond.fieldLink own idx K (T k).2.1 (T k).2.2.1 ∈ TB ∧ (T k).1 = K ∧ (ft ci)[k]? = some t ∧ kw ci = w ∧ ci < 20 ∧
  (∀ k, k < N → parseFieldDescriptor (T k).2.2.1 = some (ty0 k)) ∧ (∀ a, a < N → ∀ b, b < N → a ≠ b → (T a).2.1 ≠ (T b).2.1) ∧ (T k).2.2.2 = false ∧ parseFieldDescriptor (T k).2.2.1 = some ty
theorem zb_fit {r : Int32} (h : zb r = true) : fits .boolean (.int r) = true := by
  simp only [zb, Bool.or_eq_true, decide_eq_true_eq] at h
  rcases h with rfl | rfl <;> decide +kernel
section RH
variable {τ : Type} {f g : Option τ} {Z : τ → Prop} {o : Om} {own : String} {cc : ByteArray} {nL : Nat} {rt : Option FieldType} {rm : Room} {w pc : Nat} {L L' : List (Option Value)} {st : List Value} {σ : SS}
theorem x_getI (C : Cx o own cc nL rt rm w) {idx ci k c : Nat} (F : FG w own idx ci k 0) (hd : decode cc pc = .ok (.getfield idx, 3)) (hk : kd c = ci) (kk : Xo f Z (Yx o (pc + 3) L (.int (gI σ c k) :: st) σ)) : Xo f Z (Yx o pc L (.ref c :: st) σ) := by
  refine kk.mono (fun y ls H locs hl hP hS => ?_)
  obtain ⟨⟨p, l, e, R, s, m⟩, ⟨args, below, meth, c0⟩, ⟨D, α, cI, cZ⟩, w0, n0, Q⟩ := o
  obtain ⟨hx, hb, hml, hown, hts, hR, hlk, hrt, hKn, hWk, e1, e2⟩ := C
  dsimp only at hx hb hml hown hts hR hlk hrt hKn hWk e1 e2
  subst e1; subst e2
  obtain ⟨K, T, N, h1, h2, h3, h4, h5, h6, h7, h8⟩ := F
  have he := wd_get hWk.1 α cI cZ σ (c := c) (by rw [hk]; exact h7)
  rw [el_obj α cI cZ σ hk h8] at he
  exact va_get (D := D) (ci := ci) (v := .int (gI σ c k)) hx hb hts h2 hown hKn.1 hP (c - wlo w0) he h1 k h3 (hts _ h4) (by rw [h5]; exact fun _ h => h) (fs_get α σ c ci k 0 h6) hd (y ls H locs hl hP hS)
theorem x_getL (C : Cx o own cc nL rt rm w) {idx ci k c : Nat} (F : FG w own idx ci k 1) (hd : decode cc pc = .ok (.getfield idx, 3)) (hk : kd c = ci) (kk : Xo f Z (Yx o (pc + 3) L (.long (gL σ c k) :: st) σ)) : Xo f Z (Yx o pc L (.ref c :: st) σ) := by
  refine kk.mono (fun y ls H locs hl hP hS => ?_)
  obtain ⟨⟨p, l, e, R, s, m⟩, ⟨args, below, meth, c0⟩, ⟨D, α, cI, cZ⟩, w0, n0, Q⟩ := o
  obtain ⟨hx, hb, hml, hown, hts, hR, hlk, hrt, hKn, hWk, e1, e2⟩ := C
  dsimp only at hx hb hml hown hts hR hlk hrt hKn hWk e1 e2
  subst e1; subst e2
  obtain ⟨K, T, N, h1, h2, h3, h4, h5, h6, h7, h8⟩ := F
  have he := wd_get hWk.1 α cI cZ σ (c := c) (by rw [hk]; exact h7)
  rw [el_obj α cI cZ σ hk h8] at he
  exact va_get (D := D) (ci := ci) (v := .long (gL σ c k)) hx hb hts h2 hown hKn.1 hP (c - wlo w0) he h1 k h3 (hts _ h4) (by rw [h5]; exact fun _ h => h) (fs_get α σ c ci k 1 h6) hd (y ls H locs hl hP hS)
theorem x_getR (C : Cx o own cc nL rt rm w) {idx ci k c : Nat} (F : FG w own idx ci k 2) (hd : decode cc pc = .ok (.getfield idx, 3)) (hk : kd c = ci) (kk : Xo f Z (Yx o (pc + 3) L (.ref (lk c k) :: st) σ)) : Xo f Z (Yx o pc L (.ref c :: st) σ) := by
  refine kk.mono (fun y ls H locs hl hP hS => ?_)
  obtain ⟨⟨p, l, e, R, s, m⟩, ⟨args, below, meth, c0⟩, ⟨D, α, cI, cZ⟩, w0, n0, Q⟩ := o
  obtain ⟨hx, hb, hml, hown, hts, hR, hlk, hrt, hKn, hWk, e1, e2⟩ := C
  dsimp only at hx hb hml hown hts hR hlk hrt hKn hWk e1 e2
  subst e1; subst e2
  obtain ⟨K, T, N, h1, h2, h3, h4, h5, h6, h7, h8⟩ := F
  have he := wd_get hWk.1 α cI cZ σ (c := c) (by rw [hk]; exact h7)
  rw [el_obj α cI cZ σ hk h8] at he
  exact va_get (D := D) (ci := ci) (v := .ref (α (lk c k))) hx hb hts h2 hown hKn.1 hP (c - wlo w0) he h1 k h3 (hts _ h4) (by rw [h5]; exact fun _ h => h) (fs_get α σ c ci k 2 h6) hd (y ls H locs hl hP hS)
theorem x_putI (C : Cx o own cc nL rt rm w) {idx ci k c : Nat} {v : Int32} (F : FP w own idx ci k 0 .int) (hd : decode cc pc = .ok (.putfield idx, 3)) (hk : kd c = ci) (kk : Xo f Z (Yx o (pc + 3) L st (pI σ c k v))) : Xo f Z (Yx o pc L (.int v :: .ref c :: st) σ) := by
  refine kk.mono (fun y ls H locs hl hP hS => ?_)
  obtain ⟨⟨p, l, e, R, s, m⟩, ⟨args, below, meth, c0⟩, ⟨D, α, cI, cZ⟩, w0, n0, Q⟩ := o
  obtain ⟨hx, hb, hml, hown, hts, hR, hlk, hrt, hKn, hWk, e1, e2⟩ := C
  dsimp only at hx hb hml hown hts hR hlk hrt hKn hWk e1 e2
  subst e1; subst e2
  obtain ⟨K, T, N, ty0, h1, h2, h3, h4, h5, h6, h7, h8, h9, h10, h11, h12⟩ := F
  have hkw : kw (kd c) = w0 := by rw [hk]; exact h7
  have he := wd_get hWk.1 α cI cZ σ (c := c) hkw
  rw [el_obj α cI cZ σ hk h8] at he
  have e3 : (wd w0 α cI cZ σ).set (c - wlo w0) (α c, .inr (ci, ((ft ci).mapIdx (fvl α σ c)).set k (.int v))) = wd w0 α cI cZ (pI σ c k v) := by
    refine wd_set hWk.1 α cI cZ hkw _ ?_ (fun d hd => el_pA_ne α cI cZ σ c _ d hd)
    rw [el_obj α cI cZ _ hk h8]
    rw [fs_set α σ (pI σ c k v) c ci k 0 (.int v) h6 (by simp only [fvl, pI, gI_pA, if_pos rfl, gL_pA]; simp [upd]) (fun j u hj => by simp only [fvl, pI, gI_pA, if_pos rfl, gL_pA]; simp [upd, hj])]
  refine va_put (D := D) (ci := ci) (v := .int v) hx hb hts h2 ty0 h9 h10 hown hKn.1 hP (wd_D hWk cI cZ σ) hS (c - wlo w0) he h1 k h3 (hts _ h4) (by rw [h5]; exact fun _ h => h) h11 h12 rfl rfl (by rw [List.length_mapIdx]; exact (List.getElem?_eq_some_iff.mp h6).1) hd (fun H1 locs1 hP1 hD1 hS1 => ?_)
  rw [e3] at hP1
  exact y ls H1 locs1 hl hP1 hS1
theorem x_putZ (C : Cx o own cc nL rt rm w) {idx ci k c : Nat} {v : Int32} (F : FP w own idx ci k 0 .boolean) (hz : zb v = true) (hd : decode cc pc = .ok (.putfield idx, 3)) (hk : kd c = ci) (kk : Xo f Z (Yx o (pc + 3) L st (pI σ c k v))) : Xo f Z (Yx o pc L (.int v :: .ref c :: st) σ) := by
  refine kk.mono (fun y ls H locs hl hP hS => ?_)
  obtain ⟨⟨p, l, e, R, s, m⟩, ⟨args, below, meth, c0⟩, ⟨D, α, cI, cZ⟩, w0, n0, Q⟩ := o
  obtain ⟨hx, hb, hml, hown, hts, hR, hlk, hrt, hKn, hWk, e1, e2⟩ := C
  dsimp only at hx hb hml hown hts hR hlk hrt hKn hWk e1 e2
  subst e1; subst e2
  obtain ⟨K, T, N, ty0, h1, h2, h3, h4, h5, h6, h7, h8, h9, h10, h11, h12⟩ := F
  have hkw : kw (kd c) = w0 := by rw [hk]; exact h7
  have he := wd_get hWk.1 α cI cZ σ (c := c) hkw
  rw [el_obj α cI cZ σ hk h8] at he
  have e3 : (wd w0 α cI cZ σ).set (c - wlo w0) (α c, .inr (ci, ((ft ci).mapIdx (fvl α σ c)).set k (.int v))) = wd w0 α cI cZ (pI σ c k v) := by
    refine wd_set hWk.1 α cI cZ hkw _ ?_ (fun d hd => el_pA_ne α cI cZ σ c _ d hd)
    rw [el_obj α cI cZ _ hk h8]
    rw [fs_set α σ (pI σ c k v) c ci k 0 (.int v) h6 (by simp only [fvl, pI, gI_pA, if_pos rfl, gL_pA]; simp [upd]) (fun j u hj => by simp only [fvl, pI, gI_pA, if_pos rfl, gL_pA]; simp [upd, hj])]
  refine va_put (D := D) (ci := ci) (v := .int v) hx hb hts h2 ty0 h9 h10 hown hKn.1 hP (wd_D hWk cI cZ σ) hS (c - wlo w0) he h1 k h3 (hts _ h4) (by rw [h5]; exact fun _ h => h) h11 h12 (zb_nar hz) (zb_fit hz) (by rw [List.length_mapIdx]; exact (List.getElem?_eq_some_iff.mp h6).1) hd (fun H1 locs1 hP1 hD1 hS1 => ?_)
  rw [e3] at hP1
  exact y ls H1 locs1 hl hP1 hS1
theorem x_putL (C : Cx o own cc nL rt rm w) {idx ci k c : Nat} {v : Int64} (F : FP w own idx ci k 1 .long) (hd : decode cc pc = .ok (.putfield idx, 3)) (hk : kd c = ci) (kk : Xo f Z (Yx o (pc + 3) L st (pL σ c k v))) : Xo f Z (Yx o pc L (.long v :: .ref c :: st) σ) := by
  refine kk.mono (fun y ls H locs hl hP hS => ?_)
  obtain ⟨⟨p, l, e, R, s, m⟩, ⟨args, below, meth, c0⟩, ⟨D, α, cI, cZ⟩, w0, n0, Q⟩ := o
  obtain ⟨hx, hb, hml, hown, hts, hR, hlk, hrt, hKn, hWk, e1, e2⟩ := C
  dsimp only at hx hb hml hown hts hR hlk hrt hKn hWk e1 e2
  subst e1; subst e2
  obtain ⟨K, T, N, ty0, h1, h2, h3, h4, h5, h6, h7, h8, h9, h10, h11, h12⟩ := F
  have hkw : kw (kd c) = w0 := by rw [hk]; exact h7
  have he := wd_get hWk.1 α cI cZ σ (c := c) hkw
  rw [el_obj α cI cZ σ hk h8] at he
  have e3 : (wd w0 α cI cZ σ).set (c - wlo w0) (α c, .inr (ci, ((ft ci).mapIdx (fvl α σ c)).set k (.long v))) = wd w0 α cI cZ (pL σ c k v) := by
    refine wd_set hWk.1 α cI cZ hkw _ ?_ (fun d hd => el_pL_ne α cI cZ σ c k v d hd)
    rw [el_obj α cI cZ _ hk h8]
    rw [fs_set α σ (pL σ c k v) c ci k 1 (.long v) h6 (by simp only [fvl, gL_pL, if_pos rfl, gI_pL]; simp [vp_updL]) (fun j u hj => by simp only [fvl, gL_pL, if_pos rfl, gI_pL]; simp [vp_updL, hj])]
  refine va_put (D := D) (ci := ci) (v := .long v) hx hb hts h2 ty0 h9 h10 hown hKn.1 hP (wd_D hWk cI cZ σ) hS (c - wlo w0) he h1 k h3 (hts _ h4) (by rw [h5]; exact fun _ h => h) h11 h12 rfl rfl (by rw [List.length_mapIdx]; exact (List.getElem?_eq_some_iff.mp h6).1) hd (fun H1 locs1 hP1 hD1 hS1 => ?_)
  rw [e3] at hP1
  exact y ls H1 locs1 hl hP1 hS1
theorem x_iald (C : Cx o own cc nL rt rm w) {c : Nat} {i : Int32} (hd : decode cc pc = .ok (.iaload, 1)) (hk : kd c = 20 + w) (kk : inb i (ln c) = true → Xo f Z (Yx o (pc + 1) L (.int (gI σ c i.toNatClampNeg) :: st) σ)) : Xo (gd (inb i (ln c)) f) Z (Yx o pc L (.int i :: .ref c :: st) σ) := by
  refine Xo.gd (fun hi => (kk hi).mono (fun y ls H locs hl hP hS => ?_))
  obtain ⟨⟨p, l, e, R, s, m⟩, ⟨args, below, meth, c0⟩, ⟨D, α, cI, cZ⟩, w0, n0, Q⟩ := o
  obtain ⟨hx, hb, hml, hown, hts, hR, hlk, hrt, hKn, hWk, e1, e2⟩ := C
  dsimp only at hx hb hml hown hts hR hlk hrt hKn hWk e1 e2
  subst e1; subst e2
  have hw := hWk.1
  have he := wd_get hWk.1 α cI cZ σ (c := c) (by rw [hk]; rcases hw with rfl | rfl <;> rfl)
  rw [el_arr (w := w0) α cI cZ σ (by omega)] at he
  exact va_iald hx hb hKn.1 hP (c - wlo w0) 0 he rfl (inb_in hi) hd (y ls H locs hl hP hS)
theorem x_iast (C : Cx o own cc nL rt rm w) {c : Nat} {i v : Int32} (hd : decode cc pc = .ok (.iastore, 1)) (hk : kd c = 20 + w) (kk : inb i (ln c) = true → Xo f Z (Yx o (pc + 1) L st (pI σ c i.toNatClampNeg v))) : Xo (gd (inb i (ln c)) f) Z (Yx o pc L (.int v :: .int i :: .ref c :: st) σ) := by
  refine Xo.gd (fun hi => (kk hi).mono (fun y ls H locs hl hP hS => ?_))
  obtain ⟨⟨p, l, e, R, s, m⟩, ⟨args, below, meth, c0⟩, ⟨D, α, cI, cZ⟩, w0, n0, Q⟩ := o
  obtain ⟨hx, hb, hml, hown, hts, hR, hlk, hrt, hKn, hWk, e1, e2⟩ := C
  dsimp only at hx hb hml hown hts hR hlk hrt hKn hWk e1 e2
  subst e1; subst e2
  have hw := hWk.1
  have hkw : kw (kd c) = w0 := by rw [hk]; rcases hw with rfl | rfl <;> rfl
  have he := wd_get hWk.1 α cI cZ σ (c := c) hkw
  have hk2 : kd c = 20 ∨ kd c = 21 := by omega
  rw [el_arr (w := w0) α cI cZ σ hk2] at he
  refine va_iast hx hb hKn.1 hP (wd_D hWk cI cZ σ) hS (c - wlo w0) 0 he rfl (x := v) (inb_in hi) hd (fun H1 locs1 hP1 hD1 hS1 => ?_)
  rw [wd_set hWk.1 α cI cZ hkw _ (σ' := pI σ c i.toNatClampNeg v) (by rw [el_arr (w := w0) α cI cZ _ hk2, pI, gI_pA, if_pos rfl]) (fun d hd => el_pA_ne α cI cZ σ c _ d hd)] at hP1
  exact y ls H1 locs1 hl hP1 hS1
theorem x_bald (C : Cx o own cc nL rt rm w) {c : Nat} {i : Int32} (hd : decode cc pc = .ok (.baload, 1)) (hk : kd c = 22) (hw1 : w = 1) (kk : inb i (ln c) = true → Xo f Z (Yx o (pc + 1) L (.int (gI σ c i.toNatClampNeg) :: st) σ)) : Xo (gd (inb i (ln c)) f) Z (Yx o pc L (.int i :: .ref c :: st) σ) := by
  refine Xo.gd (fun hi => (kk hi).mono (fun y ls H locs hl hP hS => ?_))
  obtain ⟨⟨p, l, e, R, s, m⟩, ⟨args, below, meth, c0⟩, ⟨D, α, cI, cZ⟩, w0, n0, Q⟩ := o
  obtain ⟨hx, hb, hml, hown, hts, hR, hlk, hrt, hKn, hWk, e1, e2⟩ := C
  dsimp only at hx hb hml hown hts hR hlk hrt hKn hWk e1 e2
  subst e1; subst e2
  have he := wd_get hWk.1 α cI cZ σ (c := c) (by rw [hk, hw1]; rfl)
  rw [el_boo α cI cZ σ hk] at he
  exact va_zald hx hb hKn.1 hP (c - wlo w0) 1 he rfl (inb_in hi) hd (y ls H locs hl hP hS)
theorem x_bast (C : Cx o own cc nL rt rm w) {c : Nat} {i v : Int32} (hd : decode cc pc = .ok (.bastore, 1)) (hk : kd c = 22) (hw1 : w = 1) (hv : vp_nar .boolean v = v) (kk : inb i (ln c) = true → Xo f Z (Yx o (pc + 1) L st (pI σ c i.toNatClampNeg v))) : Xo (gd (inb i (ln c)) f) Z (Yx o pc L (.int v :: .int i :: .ref c :: st) σ) := by
  refine Xo.gd (fun hi => (kk hi).mono (fun y ls H locs hl hP hS => ?_))
  obtain ⟨⟨p, l, e, R, s, m⟩, ⟨args, below, meth, c0⟩, ⟨D, α, cI, cZ⟩, w0, n0, Q⟩ := o
  obtain ⟨hx, hb, hml, hown, hts, hR, hlk, hrt, hKn, hWk, e1, e2⟩ := C
  dsimp only at hx hb hml hown hts hR hlk hrt hKn hWk e1 e2
  subst e1; subst e2
  have hkw : kw (kd c) = w0 := by rw [hk, hw1]; rfl
  have he := wd_get hWk.1 α cI cZ σ (c := c) hkw
  rw [el_boo α cI cZ σ hk] at he
  refine va_zast hx hb hKn.1 hP (wd_D hWk cI cZ σ) hS (c - wlo w0) 1 he rfl (x := v) (inb_in hi) hd (fun H1 locs1 hP1 hD1 hS1 => ?_)
  rw [hv, wd_set hWk.1 α cI cZ hkw _ (σ' := pI σ c i.toNatClampNeg v) (by rw [el_boo α cI cZ _ hk, pI, gI_pA, if_pos rfl]) (fun d hd => el_pA_ne α cI cZ σ c _ d hd)] at hP1
  exact y ls H1 locs1 hl hP1 hS1
theorem x_alen (C : Cx o own cc nL rt rm w) {c : Nat} (hd : decode cc pc = .ok (.arraylength, 1)) (hk : kd c = 20 + w) (kk : Xo f Z (Yx o (pc + 1) L (.int (nI (ln c)) :: st) σ)) : Xo f Z (Yx o pc L (.ref c :: st) σ) := by
  refine kk.mono (fun y ls H locs hl hP hS => ?_)
  obtain ⟨⟨p, l, e, R, s, m⟩, ⟨args, below, meth, c0⟩, ⟨D, α, cI, cZ⟩, w0, n0, Q⟩ := o
  obtain ⟨hx, hb, hml, hown, hts, hR, hlk, hrt, hKn, hWk, e1, e2⟩ := C
  dsimp only at hx hb hml hown hts hR hlk hrt hKn hWk e1 e2
  subst e1; subst e2
  have hw := hWk.1
  have he := wd_get hWk.1 α cI cZ σ (c := c) (by rw [hk]; rcases hw with rfl | rfl <;> rfl)
  rw [el_arr (w := w0) α cI cZ σ (by omega)] at he
  exact va_alen hx hb hKn.1 hP (c - wlo w0) 0 he (ty := .int) rfl rfl hd (y ls H locs hl hP hS)
theorem x_acopy (C : Cx o own cc nL rt rm w) {a b : Nat} {sp dp n : Int32} {index : Nat} (h1 : Cond.methodLink own index arraycopyName ∈ TB) (h2 : Cond.native arraycopyName ∈ TB) (h3 : Cond.static arraycopyName ∈ TB) (h4 : Cond.initialized "java/lang/System" ∈ TB) (hr : 1 ≤ rm.frames ∧ nativeFrameWords "java/lang/System" "arraycopy" 5 + 11 ≤ rm.locals) (hd : decode cc pc = .ok (.invokestatic index, 3)) (hka0 : kd a = 20 + w) (hkb0 : kd b = 20 + w)
    (kk : cpok sp dp n (ln a) (ln b) = true → Xo f Z (Yx o (pc + 3) L [] (pA σ b (va_cpy (gI σ a) (gI σ b) sp.toNatClampNeg dp.toNatClampNeg n.toNatClampNeg)))) : Xo (gd (cpok sp dp n (ln a) (ln b)) f) Z (Yx o pc L [.int n, .int dp, .ref b, .int sp, .ref a] σ) := by
  refine Xo.gd (fun hi => (kk hi).mono (fun y ls H locs hl hP hS => ?_))
  obtain ⟨⟨p, l, e, R, s, m⟩, ⟨args, below, meth, c0⟩, ⟨D, α, cI, cZ⟩, w0, n0, Q⟩ := o
  obtain ⟨hx, hb, hml, hown, hts, hR, hlk, hrt, hKn, hWk, e1, e2⟩ := C
  dsimp only at hx hb hml hown hts hR hlk hrt hKn hWk e1 e2
  subst e1; subst e2
  have hw := hWk.1
  have hka : kw (kd a) = w0 := by rw [hka0]; rcases hw with rfl | rfl <;> rfl
  have hkb : kw (kd b) = w0 := by rw [hkb0]; rcases hw with rfl | rfl <;> rfl
  have h2a : kd a = 20 ∨ kd a = 21 := by omega
  have h2b : kd b = 20 ∨ kd b = 21 := by omega
  have hea := wd_get hWk.1 α cI cZ σ (c := a) hka
  have heb := wd_get hWk.1 α cI cZ σ (c := b) hkb
  rw [el_arr (w := w0) α cI cZ σ h2a] at hea
  rw [el_arr (w := w0) α cI cZ σ h2b] at heb
  simp only [cpok, Bool.and_eq_true, decide_eq_true_eq] at hi
  obtain ⟨g1, g2, g3, g4, g5⟩ := hi
  refine va_copyi hx hb (hml.trans hl.1.symm) hown (hts _ h1) (hts _ h2) (hts _ h3) (hts _ h4) hKn.1 hP (wd_D hWk cI cZ σ) hS (a - wlo w0) (b - wlo w0) 0 0 hea heb (ty := .int) rfl rfl rfl g1 g2 g3 g4 g5 (fun _ _ => rfl) (by rw [hR]; exact hr.1) (by rw [hR]; simpa using hr.2) hd (fun H1 locs1 hP1 hD1 hS1 => ?_)
  rw [wd_set hWk.1 α cI cZ hkb _ (σ' := pA σ b (va_cpy (gI σ a) (gI σ b) sp.toNatClampNeg dp.toNatClampNeg n.toNatClampNeg)) (by rw [el_arr (w := w0) α cI cZ _ h2b, gI_pA, if_pos rfl]) (fun d hd => el_pA_ne α cI cZ σ b _ d hd)] at hP1
  exact y ls H1 locs1 hl hP1 hS1
theorem x_mmin (C : Cx o own cc nL rt rm w) {x y : Int32} {index : Nat} (h1 : Cond.methodLink own index Lib.Math.min.name ∈ TB) (h2 : Cond.static Lib.Math.min.name ∈ TB) (h3 : Cond.initialized "java/lang/Math" ∈ TB) (h4 : Cond.code Lib.Math.min.name Lib.Math.min.code 2 (some .int) ∈ TB) (hr : 1 ≤ rm.frames ∧ cs st + 13 ≤ rm.locals) (hd : decode cc pc = .ok (.invokestatic index, 3)) (kk : Xo f Z (Yx o (pc + 3) L (.int (imin x y) :: st) σ)) : Xo f Z (Yx o pc L (.int y :: .int x :: st) σ) := by
  refine kk.mono (fun yy ls H locs hl hP hS => ?_)
  obtain ⟨⟨p, l, e, R, s, m⟩, ⟨args, below, meth, c0⟩, ⟨D, α, cI, cZ⟩, w0, n0, Q⟩ := o
  obtain ⟨hx, hb, hml, hown, hts, hR, hlk, hrt, hKn, hWk, e1, e2⟩ := C
  dsimp only at hx hb hml hown hts hR hlk hrt hKn hWk e1 e2
  subst e1; subst e2
  exact va_mmin hx hb (hml.trans hl.1.symm) hown (hts _ h1) (hts _ h2) (hts _ h3) (hts _ h4) (by rw [hR]; exact hr.1) (by rw [hR, cs_sv]; exact hr.2) (Nat.zero_le _) (Nat.zero_le _) hd (yy ls H locs hl hP hS)
theorem x_mmax (C : Cx o own cc nL rt rm w) {x y : Int32} {index : Nat} (h1 : Cond.methodLink own index Lib.Math.max.name ∈ TB) (h2 : Cond.static Lib.Math.max.name ∈ TB) (h3 : Cond.initialized "java/lang/Math" ∈ TB) (h4 : Cond.code Lib.Math.max.name Lib.Math.max.code 2 (some .int) ∈ TB) (hr : 1 ≤ rm.frames ∧ cs st + 13 ≤ rm.locals) (hd : decode cc pc = .ok (.invokestatic index, 3)) (kk : Xo f Z (Yx o (pc + 3) L (.int (imax x y) :: st) σ)) : Xo f Z (Yx o pc L (.int y :: .int x :: st) σ) := by
  refine kk.mono (fun yy ls H locs hl hP hS => ?_)
  obtain ⟨⟨p, l, e, R, s, m⟩, ⟨args, below, meth, c0⟩, ⟨D, α, cI, cZ⟩, w0, n0, Q⟩ := o
  obtain ⟨hx, hb, hml, hown, hts, hR, hlk, hrt, hKn, hWk, e1, e2⟩ := C
  dsimp only at hx hb hml hown hts hR hlk hrt hKn hWk e1 e2
  subst e1; subst e2
  exact va_mmax hx hb (hml.trans hl.1.symm) hown (hts _ h1) (hts _ h2) (hts _ h3) (hts _ h4) (by rw [hR]; exact hr.1) (by rw [hR, cs_sv]; exact hr.2) (Nat.zero_le _) (Nat.zero_le _) hd (yy ls H locs hl hP hS)
theorem x_labs (C : Cx o own cc nL rt rm w) {x : Int64} {index : Nat} (h1 : Cond.methodLink own index Lib.MathLoose.abs_long.x ∈ TB) (h2 : Cond.static Lib.MathLoose.abs_long.x ∈ TB) (h3 : Cond.initialized "java/lang/Math" ∈ TB) (h4 : Cond.code Lib.MathLoose.abs_long.x Lib.MathLoose.abs_long.code 2 (some .long) ∈ TB) (hr : 1 ≤ rm.frames ∧ cs st + 13 ≤ rm.locals) (hd : decode cc pc = .ok (.invokestatic index, 3)) (kk : Xo f Z (Yx o (pc + 3) L (.long (labs x) :: st) σ)) : Xo f Z (Yx o pc L (.long x :: st) σ) := by
  refine kk.mono (fun yy ls H locs hl hP hS => ?_)
  obtain ⟨⟨p, l, e, R, s, m⟩, ⟨args, below, meth, c0⟩, ⟨D, α, cI, cZ⟩, w0, n0, Q⟩ := o
  obtain ⟨hx, hb, hml, hown, hts, hR, hlk, hrt, hKn, hWk, e1, e2⟩ := C
  dsimp only at hx hb hml hown hts hR hlk hrt hKn hWk e1 e2
  subst e1; subst e2
  exact va_mabs_long hx hb (hml.trans hl.1.symm) hown (hts _ h1) (hts _ h2) (hts _ h3) (hts _ h4) (by rw [hR]; exact hr.1) (by rw [hR, cs_sv]; exact hr.2) (Nat.zero_le _) (Nat.zero_le _) hd (yy ls H locs hl hP hS)
/-- the table of factorials -/
theorem x_fac (C : Cx o own cc nL rt rm w) {index : Nat} (hl1 : Cond.fieldLink own index "WindLawyer" "FACTORIALS" "[I" ∈ TB) (hd : decode cc pc = .ok (.getstatic index, 3)) (kk : Xo f Z (Yx o (pc + 3) L (.ref 91 :: st) σ)) : Xo f Z (Yx o pc L st σ) := by
  refine kk.mono (fun y ls H locs hl hP hS => ?_)
  obtain ⟨⟨p, l, e, R, s, m⟩, ⟨args, below, meth, c0⟩, ⟨D, α, cI, cZ⟩, w0, n0, Q⟩ := o
  obtain ⟨hx, hb, hml, hown, hts, hR, hlk, hrt, hKn, hWk, e1, e2⟩ := C
  dsimp only at hx hb hml hown hts hR hlk hrt hKn hWk e1 e2
  subst e1; subst e2
  exact va_gets hx hb hKn.2.2.1.1 hS hown (hts _ hl1) (fun _ h => h) hd (y ls H locs hl hP hS)
theorem x_facR (C : Cx o own cc nL rt rm w) {i : Int32} (hd : decode cc pc = .ok (.iaload, 1)) (kk : inb i 8 = true → Xo f Z (Yx o (pc + 1) L (.int (([1, 1, 2, 6, 24, 120, 720, 5040] : List Int32).getD i.toNatClampNeg 0) :: st) σ)) : Xo (gd (inb i 8) f) Z (Yx o pc L (.int i :: .ref 91 :: st) σ) := by
  refine Xo.gd (fun hi => (kk hi).mono (fun y ls H locs hl hP hS => ?_))
  obtain ⟨⟨p, l, e, R, s, m⟩, ⟨args, below, meth, c0⟩, ⟨D, α, cI, cZ⟩, w0, n0, Q⟩ := o
  obtain ⟨hx, hb, hml, hown, hts, hR, hlk, hrt, hKn, hWk, e1, e2⟩ := C
  dsimp only at hx hb hml hown hts hR hlk hrt hKn hWk e1 e2
  subst e1; subst e2
  exact va_ti hx hb hKn.2.2.1.2 hS (inb_in hi) rfl hd (y ls H locs hl hP hS)
theorem x_facL (C : Cx o own cc nL rt rm w) (hd : decode cc pc = .ok (.arraylength, 1)) (kk : Xo f Z (Yx o (pc + 1) L (.int (nI 8) :: st) σ)) : Xo f Z (Yx o pc L (.ref 91 :: st) σ) := by
  refine kk.mono (fun y ls H locs hl hP hS => ?_)
  obtain ⟨⟨p, l, e, R, s, m⟩, ⟨args, below, meth, c0⟩, ⟨D, α, cI, cZ⟩, w0, n0, Q⟩ := o
  obtain ⟨hx, hb, hml, hown, hts, hR, hlk, hrt, hKn, hWk, e1, e2⟩ := C
  dsimp only at hx hb hml hown hts hR hlk hrt hKn hWk e1 e2
  subst e1; subst e2
  exact va_tlen hx hb hKn.2.2.1.2 hS rfl hd (y ls H locs hl hP hS)
/-- a word -/
theorem x_ldcS (C : Cx o own cc nL rt rm w) {index i : Nat} (ho : own = "WindLawyer$Reader") (hi : i < 5) (hx2 : wo_idx.getD i 0 = index) (hd : decode cc pc = .ok (.ldc index, 2)) (kk : Xo f Z (Yx o (pc + 2) L (.ref (100 + i) :: st) σ)) : Xo f Z (Yx o pc L st σ) := by
  refine kk.mono (fun y ls H locs hl hP hS => ?_)
  obtain ⟨⟨p, l, e, R, s, m⟩, ⟨args, below, meth, c0⟩, ⟨D, α, cI, cZ⟩, w0, n0, Q⟩ := o
  obtain ⟨hx, hb, hml, hown, hts, hR, hlk, hrt, hKn, hWk, e1, e2⟩ := C
  dsimp only at hx hb hml hown hts hR hlk hrt hKn hWk e1 e2
  subst e1; subst e2
  subst ho; subst hx2
  exact va_ldcS hx hb hown (hKn.2.2.2.1 i hi) hd (y ls H locs hl hP hS)
end RH
end
section
/-! ===== contracts, calls ===== -/
def Pcx (D : va_G) (α : Nat → Nat) (cI cZ : ClassId) (w : Nat) (av : List Value) (σ : SS) : Array Value → State → Prop := fun v U => v = (av.map (sv α)).toArray ∧ va_P D vwCl (wd w α cI cZ σ) U.heap ∧ Kn D α cI cZ w U
def Qcx (D : va_G) (α : Nat → Nat) (cI cZ : ClassId) (w : Nat) (rv : Option Value) (σ' : SS) : Array Value → State → Outcome → State → Prop := fun _ st oc t => oc = .returned (rv.map (sv α)) ∧ va_P D vwCl (wd w α cI cZ σ') t.heap ∧ va_F (Aw α w) st t
def wsU (y : MethodName) (cc : ByteArray) (nL : Nat) (rt : Option FieldType) : List Cond := Cond.code y cc nL rt :: TB
def rmx (fr lo : Nat) : Room := { frames := fr, cells := 0, slots := 0, locals := lo }
def CT (w : Nat) (y : MethodName) (cc : ByteArray) (nL : Nat) (rt : Option FieldType) (fr lo : Nat) (av : List Value) (σ : SS) (rv : Option Value) (σ' : SS) : Prop :=
  ∀ (l : Launch) (D : va_G) (α : Nat → Nat) (cI cZ : ClassId), Wk α w → Met l y (wsU y cc nL rt) (rmx fr lo) (Pcx D α cI cZ w av σ) (Qcx D α cI cZ w rv σ') 0 0 (Aw α w)
/-- what a call names -/
def MB (y : MethodName) (cc : ByteArray) (nL : Nat) (rt : Option FieldType) (n : Nat) : Prop := Cond.initialized y.cls ∈ TB ∧ Cond.code y cc nL rt ∈ TB ∧ (y.cls ≠ "java/lang/invoke/MethodHandle" ∧ y.cls ≠ "java/lang/invoke/VarHandle") ∧ (parseMethodDescriptor y.desc).map (fun d => d.parameters.length) = some n
def MV (own : String) (idx ci : Nat) (y : MethodName) (cc : ByteArray) (nL : Nat) (rt : Option FieldType) (n : Nat) : Prop := MB y cc nL rt n ∧ Cond.methodLink own idx y ∈ TB ∧ Cond.instanceMethod y ∈ TB ∧ Cond.selects y.cls y y ∈ TB ∧ (∃ (T : u_T) (N : Nat), vwCl[ci]? = some (y.cls, T, N)) ∧ ci < 20
def MS (own : String) (idx : Nat) (y : MethodName) (cc : ByteArray) (nL : Nat) (rt : Option FieldType) (n : Nat) : Prop := MB y cc nL rt n ∧ Cond.methodLink own idx y ∈ TB ∧ Cond.static y ∈ TB
def MN (own : String) (idx : Nat) (y : MethodName) (cc : ByteArray) (nL : Nat) (rt : Option FieldType) (n : Nat) : Prop := MB y cc nL rt n ∧ (own, idx, y) ∈ nests ∧ Cond.static y ∈ TB
theorem mb_in {y : MethodName} {cc : ByteArray} {nL n : Nat} {rt : Option FieldType} (h : MB y cc nL rt n) : GoodIn TB (wsU y cc nL rt) := by
  intro x hx
  rcases List.mem_cons.mp hx with rfl | hx
  · exact tb_good _ h.2.1
  · exact tb_good _ hx
theorem mb_len {y : MethodName} {cc : ByteArray} {nL n : Nat} {rt : Option FieldType} (h : MB y cc nL rt n) : ∀ sig, parseMethodDescriptor y.desc = some sig → n = sig.parameters.length := by
  intro sig hs
  have h2 := h.2.2.2
  rw [hs] at h2
  exact (Option.some.inj h2).symm
section RC
variable {τ : Type} {f g : Option τ} {Z : τ → Prop} {o : Om} {own : String} {cc : ByteArray} {nL : Nat} {rt : Option FieldType} {rm : Room} {w pc : Nat} {L L' : List (Option Value)} {st : List Value} {σ : SS}
theorem kn_pre {D : va_G} {α : Nat → Nat} {cI cZ : ClassId} {s : State} {H : Heap} {locs : List Loc} {av : List Value} (hKn : Kn D α cI cZ w s) (hP : va_P D vwCl (wd w α cI cZ σ) H) (hS : va_S (Aw α w) s.heap H locs) (U : State) (hU : U.heap = H) (hW : s.WarmedH U.vm) : Pcx D α cI cZ w av σ (av.map (sv α)).toArray U :=
  ⟨rfl, by rw [hU]; exact hP, hKn.call hW (fun q h1 h2 => by rw [hU]; exact hS.2.1 q h1 h2)⟩
theorem pc_blind {D : va_G} {α : Nat → Nat} {cI cZ : ClassId} {av : List Value} : FrameBlind (Pcx D α cI cZ w av σ) := fun _ U g mk h => ⟨h.1, h.2.1, Kn.blind (U := U) (V := U.calling g mk _) h.2.2 rfl rfl⟩
/-- behind a call -/
theorem w_after {p : Program} {l : Launch} {e : Env} {R : Room} {s : State} {m : MethodId} {args : Array Value} {below : List Frame} {meth : Method} {c : Code} {D : va_G} {α : Nat → Nat} {cI cZ : ClassId} {H : Heap} {locs : List Loc} {Q : State → Prop} {ls : Array Slot} {st0 : List Value} {rv : Option Value} {σ' : SS} {a : Array Value}
    (hr : va_Run p l e R s m args below meth c H locs 0 0 0 0 (F0 m pc ls st0) (st.map (sv α)) (Qcx D α cI cZ w rv σ' a) (Aw α w)) (hS : va_S (Aw α w) s.heap H locs)
    (kk : ∀ (H1 : Heap) (locs1 : List Loc), va_P D vwCl (wd w α cI cZ σ') H1 → va_S (Aw α w) s.heap H1 locs1 → W p l e R s m args below meth c H1 locs1 0 0 Q (F0 m (pc + 3) ls ((rv.toList ++ st).map (sv α)))) : W p l e R s m args below meth c H locs 0 0 Q (F0 m pc ls st0) := by
  intro T hT X
  obtain ⟨v, st₀, t, T', LL, h0, X', hL, e1, e2, ⟨hv, hp, hz, hk⟩, stp⟩ := hr T hT X
  cases hv
  rw [h0] at hz hk
  obtain ⟨t2, a1, b1⟩ := kk T'.heap (locs ++ LL) (by rw [e1]; exact hp) ⟨Nat.le_trans hS.1 (by rw [e1]; exact hz), fun q h1 h2 => by rw [e1, hk q (Nat.lt_of_lt_of_le h1 hS.1) h2]; exact hS.2.1 q h1 h2, fun q hq => by
      rcases List.mem_append.mp hq with h | h
      · exact hS.2.2 q h
      · exact hL q h⟩ T' rfl X'
  refine ⟨t2, stp t2 ?_, b1⟩
  cases rv with
  | none => exact a1
  | some v => exact a1
theorem y_callV (C : Cx o own cc nL rt rm w) {idx ci c n : Nat} {y : MethodName} {cc2 : ByteArray} {nL2 fr lo : Nat} {rt2 : Option FieldType} (M : MV own idx ci y cc2 nL2 rt2 n) (hk : kd c = ci) (hkw : kw ci = w) (av : List Value) {rv : Option Value} {σ' : SS} (hct : CT w y cc2 nL2 rt2 fr lo (.ref c :: av) σ rv σ') (hR2 : fr + 1 ≤ rm.frames ∧ 8 + (nL2 + 11) + lo ≤ rm.locals) (hn : av.length = n) (hc8 : cs st ≤ 8) {st0 : List Value} (hst : st0 = av.reverse ++ .ref c :: st) (hd : decode cc pc = .ok (.invokevirtual idx, 3))
    (kk : Yx o (pc + 3) L (rv.toList ++ st) σ') : Yx o pc L st0 σ := by
  subst hst
  intro ls H locs hl hP hS
  obtain ⟨⟨p, l, e, R, s, m⟩, ⟨args, below, meth, c0⟩, ⟨D, α, cI, cZ⟩, w0, n0, Q⟩ := o
  obtain ⟨hx, hb, hml, hown, hts, hR, hlk, hrt, hKn, hWk, e1, e2⟩ := C
  dsimp only at hx hb hml hown hts hR hlk hrt hKn hWk e1 e2
  subst e1; subst e2
  obtain ⟨B, g1, g2, g3, ⟨T, N, g4⟩, g5⟩ := M
  have he := wd_get hWk.1 α cI cZ σ (c := c) (by rw [hk]; exact hkw)
  rw [el_obj α cI cZ σ hk g5] at he
  refine w_after (st := st) (rv := rv) (σ' := σ') (a := ((.ref c :: av).map (sv α)).toArray) ?_ hS (fun H1 locs1 h1 h2 => kk ls H1 locs1 hl h1 h2)
  have hW8 : 2 * (F0 m pc ls ((av.reverse ++ .ref c :: st).map (sv α))).monitorRoom + ((st.map (sv α)).map fun v => v.category).sum ≤ 8 := by
    show 2 * 0 + _ ≤ 8
    rw [cs_sv]; omega
  exact va_runV (C := y.cls) (As := av.map (sv α)) (rest := st.map (sv α)) ⟨hx, hb, hml, hown, hts⟩ (hct l D α cI cZ hWk)
    ⟨⟨rfl, rfl, by rw [hR]; exact hR2.1, by rw [hR]; exact hR2.2, pay_in hts (mb_in B), List.mem_cons_self, hts _ B.2.1, hts _ B.1, B.2.2.1, mb_len B, hts _ g1⟩, hts _ g2, hts _ g3⟩
    ⟨pc_blind, va_recv hKn.1 hP g4 he, fun U hU hW => by
      have := kn_pre (σ := σ) (av := .ref c :: av) hKn hP hS U hU hW
      simpa [sv] using this⟩ rfl (by rw [List.length_map]; exact hn) hl.1 (by simp [sv]) hW8 hd ⟨Nat.zero_le _, Nat.zero_le _⟩
theorem y_callS (C : Cx o own cc nL rt rm w) {idx n : Nat} {y : MethodName} {cc2 : ByteArray} {nL2 fr lo : Nat} {rt2 : Option FieldType} (M : MS own idx y cc2 nL2 rt2 n) (av : List Value) {rv : Option Value} {σ' : SS} (hct : CT w y cc2 nL2 rt2 fr lo av σ rv σ') (hR2 : fr + 1 ≤ rm.frames ∧ 8 + (nL2 + 11) + lo ≤ rm.locals) (hn : av.length = n) (hc8 : cs st ≤ 8) {st0 : List Value} (hst : st0 = av.reverse ++ st) (hd : decode cc pc = .ok (.invokestatic idx, 3))
    (kk : Yx o (pc + 3) L (rv.toList ++ st) σ') : Yx o pc L st0 σ := by
  subst hst
  intro ls H locs hl hP hS
  obtain ⟨⟨p, l, e, R, s, m⟩, ⟨args, below, meth, c0⟩, ⟨D, α, cI, cZ⟩, w0, n0, Q⟩ := o
  obtain ⟨hx, hb, hml, hown, hts, hR, hlk, hrt, hKn, hWk, e1, e2⟩ := C
  dsimp only at hx hb hml hown hts hR hlk hrt hKn hWk e1 e2
  subst e1; subst e2
  obtain ⟨B, g1, g2⟩ := M
  refine w_after (st := st) (rv := rv) (σ' := σ') (a := (av.map (sv α)).toArray) ?_ hS (fun H1 locs1 h1 h2 => kk ls H1 locs1 hl h1 h2)
  have hW8 : 2 * (F0 m pc ls ((av.reverse ++ st).map (sv α))).monitorRoom + ((st.map (sv α)).map fun v => v.category).sum ≤ 8 := by
    show 2 * 0 + _ ≤ 8
    rw [cs_sv]; omega
  exact va_runS (As := av.map (sv α)) (rest := st.map (sv α)) ⟨hx, hb, hml, hown, hts⟩ (hct l D α cI cZ hWk)
    ⟨⟨rfl, rfl, by rw [hR]; exact hR2.1, by rw [hR]; exact hR2.2, pay_in hts (mb_in B), List.mem_cons_self, hts _ B.2.1, hts _ B.1, B.2.2.1, mb_len B, hts _ g1⟩, hts _ g2⟩
    ⟨pc_blind, fun U hU hW => kn_pre (σ := σ) (av := av) hKn hP hS U hU hW⟩ rfl (by rw [List.length_map]; exact hn) hl.1 (by simp) hW8 hd ⟨Nat.zero_le _, Nat.zero_le _⟩
theorem y_callN (C : Cx o own cc nL rt rm w) {idx n : Nat} {y : MethodName} {cc2 : ByteArray} {nL2 fr lo : Nat} {rt2 : Option FieldType} (M : MN own idx y cc2 nL2 rt2 n) (av : List Value) {rv : Option Value} {σ' : SS} (hct : CT w y cc2 nL2 rt2 fr lo av σ rv σ') (hR2 : fr + 1 ≤ rm.frames ∧ 8 + (nL2 + 11) + lo ≤ rm.locals) (hn : av.length = n) (hc8 : cs st ≤ 8) {st0 : List Value} (hst : st0 = av.reverse ++ st) (hd : decode cc pc = .ok (.invokestatic idx, 3))
    (kk : Yx o (pc + 3) L (rv.toList ++ st) σ') : Yx o pc L st0 σ := by
  subst hst
  intro ls H locs hl hP hS
  obtain ⟨⟨p, l, e, R, s, m⟩, ⟨args, below, meth, c0⟩, ⟨D, α, cI, cZ⟩, w0, n0, Q⟩ := o
  obtain ⟨hx, hb, hml, hown, hts, hR, hlk, hrt, hKn, hWk, e1, e2⟩ := C
  dsimp only at hx hb hml hown hts hR hlk hrt hKn hWk e1 e2
  subst e1; subst e2
  obtain ⟨B, g1, g2⟩ := M
  refine w_after (st := st) (rv := rv) (σ' := σ') (a := (av.map (sv α)).toArray) ?_ hS (fun H1 locs1 h1 h2 => kk ls H1 locs1 hl h1 h2)
  have hW8 : 2 * (F0 m pc ls ((av.reverse ++ st).map (sv α))).monitorRoom + ((st.map (sv α)).map fun v => v.category).sum ≤ 8 := by
    show 2 * 0 + _ ≤ 8
    rw [cs_sv]; omega
  exact va_runSN (host := "WindLawyer") (As := av.map (sv α)) (rest := st.map (sv α)) ⟨hx, hb, hml, hown, hts⟩ (hct l D α cI cZ hWk)
    ⟨⟨⟨rfl, rfl, by rw [hR]; exact hR2.1, by rw [hR]; exact hR2.2, pay_in hts (mb_in B), List.mem_cons_self⟩, hts _ B.2.1, hts _ B.1, B.2.2.1, mb_len B, va_Nw.use rfl (hKn.2.1 _ g1)⟩, hts _ g2, trivial⟩
    ⟨pc_blind, fun U hU hW => kn_pre (σ := σ) (av := av) hKn hP hS U hU hW⟩ rfl (by rw [List.length_map]; exact hn) hl.1 (by simp) hW8 hd ⟨Nat.zero_le _, Nat.zero_le _⟩
theorem x_callVi (C : Cx o own cc nL rt rm w) {idx n : Nat} {ci c : Nat} {y : MethodName} {cc2 : ByteArray} {nL2 fr lo : Nat} {rt2 : Option FieldType} (M : MV own idx ci y cc2 nL2 rt2 n) (hk : kd c = ci) (hkw : kw ci = w) (av : List Value) {a : Option Int32} {h : Int32 → Option τ} (hct : ∀ r, a = some r → CT w y cc2 nL2 rt2 fr lo (.ref c :: av) σ (some (.int r)) σ) (hR2 : fr + 1 ≤ rm.frames ∧ 8 + (nL2 + 11) + lo ≤ rm.locals) (hn : av.length = n) (hc8 : cs st ≤ 8) {st0 : List Value} (hst : st0 = av.reverse ++ .ref c :: st) (hd : decode cc pc = .ok (.invokevirtual idx, 3)) (kk : ∀ r, Xo (h r) Z (Yx o (pc + 3) L (.int r :: st) σ)) : Xo (bd a h) Z (Yx o pc L st0 σ) := by
  intro r hr hz
  change a.bind h = some r at hr
  cases ha : a with
  | none => rw [ha] at hr; cases hr
  | some x =>
    rw [ha] at hr
    exact y_callV C M hk hkw av (hct x ha) hR2 hn hc8 hst hd (kk x r hr hz)
theorem x_callVl (C : Cx o own cc nL rt rm w) {idx n : Nat} {ci c : Nat} {y : MethodName} {cc2 : ByteArray} {nL2 fr lo : Nat} {rt2 : Option FieldType} (M : MV own idx ci y cc2 nL2 rt2 n) (hk : kd c = ci) (hkw : kw ci = w) (av : List Value) {a : Option Int64} {h : Int64 → Option τ} (hct : ∀ r, a = some r → CT w y cc2 nL2 rt2 fr lo (.ref c :: av) σ (some (.long r)) σ) (hR2 : fr + 1 ≤ rm.frames ∧ 8 + (nL2 + 11) + lo ≤ rm.locals) (hn : av.length = n) (hc8 : cs st ≤ 8) {st0 : List Value} (hst : st0 = av.reverse ++ .ref c :: st) (hd : decode cc pc = .ok (.invokevirtual idx, 3)) (kk : ∀ r, Xo (h r) Z (Yx o (pc + 3) L (.long r :: st) σ)) : Xo (bd a h) Z (Yx o pc L st0 σ) := by
  intro r hr hz
  change a.bind h = some r at hr
  cases ha : a with
  | none => rw [ha] at hr; cases hr
  | some x =>
    rw [ha] at hr
    exact y_callV C M hk hkw av (hct x ha) hR2 hn hc8 hst hd (kk x r hr hz)
theorem x_callVv (C : Cx o own cc nL rt rm w) {idx n : Nat} {ci c : Nat} {y : MethodName} {cc2 : ByteArray} {nL2 fr lo : Nat} {rt2 : Option FieldType} (M : MV own idx ci y cc2 nL2 rt2 n) (hk : kd c = ci) (hkw : kw ci = w) (av : List Value) {a : Option SS} {h : SS → Option τ} (hct : ∀ s2, a = some s2 → CT w y cc2 nL2 rt2 fr lo (.ref c :: av) σ none s2) (hR2 : fr + 1 ≤ rm.frames ∧ 8 + (nL2 + 11) + lo ≤ rm.locals) (hn : av.length = n) (hc8 : cs st ≤ 8) {st0 : List Value} (hst : st0 = av.reverse ++ .ref c :: st) (hd : decode cc pc = .ok (.invokevirtual idx, 3)) (kk : ∀ s2, Xo (h s2) Z (Yx o (pc + 3) L st s2)) : Xo (bd a h) Z (Yx o pc L st0 σ) := by
  intro r hr hz
  change a.bind h = some r at hr
  cases ha : a with
  | none => rw [ha] at hr; cases hr
  | some x =>
    rw [ha] at hr
    exact y_callV C M hk hkw av (hct x ha) hR2 hn hc8 hst hd (kk x r hr hz)
theorem x_callVim (C : Cx o own cc nL rt rm w) {idx n : Nat} {ci c : Nat} {y : MethodName} {cc2 : ByteArray} {nL2 fr lo : Nat} {rt2 : Option FieldType} (M : MV own idx ci y cc2 nL2 rt2 n) (hk : kd c = ci) (hkw : kw ci = w) (av : List Value) {a : Option (Int32 × SS)} {h : Int32 → SS → Option τ} (hct : ∀ r s2, a = some (r, s2) → CT w y cc2 nL2 rt2 fr lo (.ref c :: av) σ (some (.int r)) s2) (hR2 : fr + 1 ≤ rm.frames ∧ 8 + (nL2 + 11) + lo ≤ rm.locals) (hn : av.length = n) (hc8 : cs st ≤ 8) {st0 : List Value} (hst : st0 = av.reverse ++ .ref c :: st) (hd : decode cc pc = .ok (.invokevirtual idx, 3)) (kk : ∀ r s2, Xo (h r s2) Z (Yx o (pc + 3) L (.int r :: st) s2)) : Xo (bd2 a h) Z (Yx o pc L st0 σ) := by
  intro r hr hz
  change a.bind (fun p => h p.1 p.2) = some r at hr
  cases ha : a with
  | none => rw [ha] at hr; cases hr
  | some x =>
    rw [ha] at hr
    exact y_callV C M hk hkw av (hct x.1 x.2 ha) hR2 hn hc8 hst hd (kk x.1 x.2 r hr hz)
theorem x_callVlm (C : Cx o own cc nL rt rm w) {idx n : Nat} {ci c : Nat} {y : MethodName} {cc2 : ByteArray} {nL2 fr lo : Nat} {rt2 : Option FieldType} (M : MV own idx ci y cc2 nL2 rt2 n) (hk : kd c = ci) (hkw : kw ci = w) (av : List Value) {a : Option (Int64 × SS)} {h : Int64 → SS → Option τ} (hct : ∀ r s2, a = some (r, s2) → CT w y cc2 nL2 rt2 fr lo (.ref c :: av) σ (some (.long r)) s2) (hR2 : fr + 1 ≤ rm.frames ∧ 8 + (nL2 + 11) + lo ≤ rm.locals) (hn : av.length = n) (hc8 : cs st ≤ 8) {st0 : List Value} (hst : st0 = av.reverse ++ .ref c :: st) (hd : decode cc pc = .ok (.invokevirtual idx, 3)) (kk : ∀ r s2, Xo (h r s2) Z (Yx o (pc + 3) L (.long r :: st) s2)) : Xo (bd2 a h) Z (Yx o pc L st0 σ) := by
  intro r hr hz
  change a.bind (fun p => h p.1 p.2) = some r at hr
  cases ha : a with
  | none => rw [ha] at hr; cases hr
  | some x =>
    rw [ha] at hr
    exact y_callV C M hk hkw av (hct x.1 x.2 ha) hR2 hn hc8 hst hd (kk x.1 x.2 r hr hz)
theorem x_callSi (C : Cx o own cc nL rt rm w) {idx n : Nat} {y : MethodName} {cc2 : ByteArray} {nL2 fr lo : Nat} {rt2 : Option FieldType} (M : MS own idx y cc2 nL2 rt2 n) (av : List Value) {a : Option Int32} {h : Int32 → Option τ} (hct : ∀ r, a = some r → CT w y cc2 nL2 rt2 fr lo av σ (some (.int r)) σ) (hR2 : fr + 1 ≤ rm.frames ∧ 8 + (nL2 + 11) + lo ≤ rm.locals) (hn : av.length = n) (hc8 : cs st ≤ 8) {st0 : List Value} (hst : st0 = av.reverse ++ st) (hd : decode cc pc = .ok (.invokestatic idx, 3)) (kk : ∀ r, Xo (h r) Z (Yx o (pc + 3) L (.int r :: st) σ)) : Xo (bd a h) Z (Yx o pc L st0 σ) := by
  intro r hr hz
  change a.bind h = some r at hr
  cases ha : a with
  | none => rw [ha] at hr; cases hr
  | some x =>
    rw [ha] at hr
    exact y_callS C M av (hct x ha) hR2 hn hc8 hst hd (kk x r hr hz)
theorem x_callSl (C : Cx o own cc nL rt rm w) {idx n : Nat} {y : MethodName} {cc2 : ByteArray} {nL2 fr lo : Nat} {rt2 : Option FieldType} (M : MS own idx y cc2 nL2 rt2 n) (av : List Value) {a : Option Int64} {h : Int64 → Option τ} (hct : ∀ r, a = some r → CT w y cc2 nL2 rt2 fr lo av σ (some (.long r)) σ) (hR2 : fr + 1 ≤ rm.frames ∧ 8 + (nL2 + 11) + lo ≤ rm.locals) (hn : av.length = n) (hc8 : cs st ≤ 8) {st0 : List Value} (hst : st0 = av.reverse ++ st) (hd : decode cc pc = .ok (.invokestatic idx, 3)) (kk : ∀ r, Xo (h r) Z (Yx o (pc + 3) L (.long r :: st) σ)) : Xo (bd a h) Z (Yx o pc L st0 σ) := by
  intro r hr hz
  change a.bind h = some r at hr
  cases ha : a with
  | none => rw [ha] at hr; cases hr
  | some x =>
    rw [ha] at hr
    exact y_callS C M av (hct x ha) hR2 hn hc8 hst hd (kk x r hr hz)
theorem x_callSv (C : Cx o own cc nL rt rm w) {idx n : Nat} {y : MethodName} {cc2 : ByteArray} {nL2 fr lo : Nat} {rt2 : Option FieldType} (M : MS own idx y cc2 nL2 rt2 n) (av : List Value) {a : Option SS} {h : SS → Option τ} (hct : ∀ s2, a = some s2 → CT w y cc2 nL2 rt2 fr lo av σ none s2) (hR2 : fr + 1 ≤ rm.frames ∧ 8 + (nL2 + 11) + lo ≤ rm.locals) (hn : av.length = n) (hc8 : cs st ≤ 8) {st0 : List Value} (hst : st0 = av.reverse ++ st) (hd : decode cc pc = .ok (.invokestatic idx, 3)) (kk : ∀ s2, Xo (h s2) Z (Yx o (pc + 3) L st s2)) : Xo (bd a h) Z (Yx o pc L st0 σ) := by
  intro r hr hz
  change a.bind h = some r at hr
  cases ha : a with
  | none => rw [ha] at hr; cases hr
  | some x =>
    rw [ha] at hr
    exact y_callS C M av (hct x ha) hR2 hn hc8 hst hd (kk x r hr hz)
theorem x_callSim (C : Cx o own cc nL rt rm w) {idx n : Nat} {y : MethodName} {cc2 : ByteArray} {nL2 fr lo : Nat} {rt2 : Option FieldType} (M : MS own idx y cc2 nL2 rt2 n) (av : List Value) {a : Option (Int32 × SS)} {h : Int32 → SS → Option τ} (hct : ∀ r s2, a = some (r, s2) → CT w y cc2 nL2 rt2 fr lo av σ (some (.int r)) s2) (hR2 : fr + 1 ≤ rm.frames ∧ 8 + (nL2 + 11) + lo ≤ rm.locals) (hn : av.length = n) (hc8 : cs st ≤ 8) {st0 : List Value} (hst : st0 = av.reverse ++ st) (hd : decode cc pc = .ok (.invokestatic idx, 3)) (kk : ∀ r s2, Xo (h r s2) Z (Yx o (pc + 3) L (.int r :: st) s2)) : Xo (bd2 a h) Z (Yx o pc L st0 σ) := by
  intro r hr hz
  change a.bind (fun p => h p.1 p.2) = some r at hr
  cases ha : a with
  | none => rw [ha] at hr; cases hr
  | some x =>
    rw [ha] at hr
    exact y_callS C M av (hct x.1 x.2 ha) hR2 hn hc8 hst hd (kk x.1 x.2 r hr hz)
theorem x_callSlm (C : Cx o own cc nL rt rm w) {idx n : Nat} {y : MethodName} {cc2 : ByteArray} {nL2 fr lo : Nat} {rt2 : Option FieldType} (M : MS own idx y cc2 nL2 rt2 n) (av : List Value) {a : Option (Int64 × SS)} {h : Int64 → SS → Option τ} (hct : ∀ r s2, a = some (r, s2) → CT w y cc2 nL2 rt2 fr lo av σ (some (.long r)) s2) (hR2 : fr + 1 ≤ rm.frames ∧ 8 + (nL2 + 11) + lo ≤ rm.locals) (hn : av.length = n) (hc8 : cs st ≤ 8) {st0 : List Value} (hst : st0 = av.reverse ++ st) (hd : decode cc pc = .ok (.invokestatic idx, 3)) (kk : ∀ r s2, Xo (h r s2) Z (Yx o (pc + 3) L (.long r :: st) s2)) : Xo (bd2 a h) Z (Yx o pc L st0 σ) := by
  intro r hr hz
  change a.bind (fun p => h p.1 p.2) = some r at hr
  cases ha : a with
  | none => rw [ha] at hr; cases hr
  | some x =>
    rw [ha] at hr
    exact y_callS C M av (hct x.1 x.2 ha) hR2 hn hc8 hst hd (kk x.1 x.2 r hr hz)
theorem x_callNi (C : Cx o own cc nL rt rm w) {idx n : Nat} {y : MethodName} {cc2 : ByteArray} {nL2 fr lo : Nat} {rt2 : Option FieldType} (M : MN own idx y cc2 nL2 rt2 n) (av : List Value) {a : Option Int32} {h : Int32 → Option τ} (hct : ∀ r, a = some r → CT w y cc2 nL2 rt2 fr lo av σ (some (.int r)) σ) (hR2 : fr + 1 ≤ rm.frames ∧ 8 + (nL2 + 11) + lo ≤ rm.locals) (hn : av.length = n) (hc8 : cs st ≤ 8) {st0 : List Value} (hst : st0 = av.reverse ++ st) (hd : decode cc pc = .ok (.invokestatic idx, 3)) (kk : ∀ r, Xo (h r) Z (Yx o (pc + 3) L (.int r :: st) σ)) : Xo (bd a h) Z (Yx o pc L st0 σ) := by
  intro r hr hz
  change a.bind h = some r at hr
  cases ha : a with
  | none => rw [ha] at hr; cases hr
  | some x =>
    rw [ha] at hr
    exact y_callN C M av (hct x ha) hR2 hn hc8 hst hd (kk x r hr hz)
theorem x_callNl (C : Cx o own cc nL rt rm w) {idx n : Nat} {y : MethodName} {cc2 : ByteArray} {nL2 fr lo : Nat} {rt2 : Option FieldType} (M : MN own idx y cc2 nL2 rt2 n) (av : List Value) {a : Option Int64} {h : Int64 → Option τ} (hct : ∀ r, a = some r → CT w y cc2 nL2 rt2 fr lo av σ (some (.long r)) σ) (hR2 : fr + 1 ≤ rm.frames ∧ 8 + (nL2 + 11) + lo ≤ rm.locals) (hn : av.length = n) (hc8 : cs st ≤ 8) {st0 : List Value} (hst : st0 = av.reverse ++ st) (hd : decode cc pc = .ok (.invokestatic idx, 3)) (kk : ∀ r, Xo (h r) Z (Yx o (pc + 3) L (.long r :: st) σ)) : Xo (bd a h) Z (Yx o pc L st0 σ) := by
  intro r hr hz
  change a.bind h = some r at hr
  cases ha : a with
  | none => rw [ha] at hr; cases hr
  | some x =>
    rw [ha] at hr
    exact y_callN C M av (hct x ha) hR2 hn hc8 hst hd (kk x r hr hz)
theorem x_callNv (C : Cx o own cc nL rt rm w) {idx n : Nat} {y : MethodName} {cc2 : ByteArray} {nL2 fr lo : Nat} {rt2 : Option FieldType} (M : MN own idx y cc2 nL2 rt2 n) (av : List Value) {a : Option SS} {h : SS → Option τ} (hct : ∀ s2, a = some s2 → CT w y cc2 nL2 rt2 fr lo av σ none s2) (hR2 : fr + 1 ≤ rm.frames ∧ 8 + (nL2 + 11) + lo ≤ rm.locals) (hn : av.length = n) (hc8 : cs st ≤ 8) {st0 : List Value} (hst : st0 = av.reverse ++ st) (hd : decode cc pc = .ok (.invokestatic idx, 3)) (kk : ∀ s2, Xo (h s2) Z (Yx o (pc + 3) L st s2)) : Xo (bd a h) Z (Yx o pc L st0 σ) := by
  intro r hr hz
  change a.bind h = some r at hr
  cases ha : a with
  | none => rw [ha] at hr; cases hr
  | some x =>
    rw [ha] at hr
    exact y_callN C M av (hct x ha) hR2 hn hc8 hst hd (kk x r hr hz)
theorem x_callNim (C : Cx o own cc nL rt rm w) {idx n : Nat} {y : MethodName} {cc2 : ByteArray} {nL2 fr lo : Nat} {rt2 : Option FieldType} (M : MN own idx y cc2 nL2 rt2 n) (av : List Value) {a : Option (Int32 × SS)} {h : Int32 → SS → Option τ} (hct : ∀ r s2, a = some (r, s2) → CT w y cc2 nL2 rt2 fr lo av σ (some (.int r)) s2) (hR2 : fr + 1 ≤ rm.frames ∧ 8 + (nL2 + 11) + lo ≤ rm.locals) (hn : av.length = n) (hc8 : cs st ≤ 8) {st0 : List Value} (hst : st0 = av.reverse ++ st) (hd : decode cc pc = .ok (.invokestatic idx, 3)) (kk : ∀ r s2, Xo (h r s2) Z (Yx o (pc + 3) L (.int r :: st) s2)) : Xo (bd2 a h) Z (Yx o pc L st0 σ) := by
  intro r hr hz
  change a.bind (fun p => h p.1 p.2) = some r at hr
  cases ha : a with
  | none => rw [ha] at hr; cases hr
  | some x =>
    rw [ha] at hr
    exact y_callN C M av (hct x.1 x.2 ha) hR2 hn hc8 hst hd (kk x.1 x.2 r hr hz)
theorem x_callNlm (C : Cx o own cc nL rt rm w) {idx n : Nat} {y : MethodName} {cc2 : ByteArray} {nL2 fr lo : Nat} {rt2 : Option FieldType} (M : MN own idx y cc2 nL2 rt2 n) (av : List Value) {a : Option (Int64 × SS)} {h : Int64 → SS → Option τ} (hct : ∀ r s2, a = some (r, s2) → CT w y cc2 nL2 rt2 fr lo av σ (some (.long r)) s2) (hR2 : fr + 1 ≤ rm.frames ∧ 8 + (nL2 + 11) + lo ≤ rm.locals) (hn : av.length = n) (hc8 : cs st ≤ 8) {st0 : List Value} (hst : st0 = av.reverse ++ st) (hd : decode cc pc = .ok (.invokestatic idx, 3)) (kk : ∀ r s2, Xo (h r s2) Z (Yx o (pc + 3) L (.long r :: st) s2)) : Xo (bd2 a h) Z (Yx o pc L st0 σ) := by
  intro r hr hz
  change a.bind (fun p => h p.1 p.2) = some r at hr
  cases ha : a with
  | none => rw [ha] at hr; cases hr
  | some x =>
    rw [ha] at hr
    exact y_callN C M av (hct x.1 x.2 ha) hR2 hn hc8 hst hd (kk x.1 x.2 r hr hz)
/-! ===== ends, and the contract out of the walk ===== -/
/-- the method comes to its end with this answer, the world being σ -/
def RT (o : Om) (cc : ByteArray) (rv : Option Value) (σ : SS) : Prop := ∀ (pc : Nat) (L : List (Option Value)), decode cc pc = .ok ((match rv with | none => .return_ | some (.long _) => .lreturn | _ => .ireturn), 1) → Yx o pc L rv.toList σ
theorem x_ret {t : τ} {x : Int32} (hd : decode cc pc = .ok (.ireturn, 1)) (hz : Z t → RT o cc (some (.int x)) σ) : Xo (some t) Z (Yx o pc L [.int x] σ) := Xo.done (fun h => hz h pc L hd)
theorem x_lret {t : τ} {x : Int64} (hd : decode cc pc = .ok (.lreturn, 1)) (hz : Z t → RT o cc (some (.long x)) σ) : Xo (some t) Z (Yx o pc L [.long x] σ) := Xo.done (fun h => hz h pc L hd)
theorem x_vret {t : τ} (hd : decode cc pc = .ok (.return_, 1)) (hz : Z t → RT o cc none σ) : Xo (some t) Z (Yx o pc L [] σ) := Xo.done (fun h => hz h pc L hd)
theorem w_ret {l : Launch} {fr lo : Nat} {D : va_G} {α : Nat → Nat} {cI cZ : ClassId} {p : Program} {e : Env} {s : State} {m : MethodId} {args : Array Value} {below : List Frame} {meth : Method} {c : Code} {rv : Option Value} {σ' : SS} (hx : p.tables.exec = Jvm.exec) (hb : c.code = cc) (hlk : meth.locks = false) (hr : meth.sig.returnType = rt) (hret : (rv = none ∧ rt = none) ∨ (∃ x, rv = some (.int x) ∧ ∃ ty, rt = some ty ∧ narrow ty (.int x) = .int x) ∨ (∃ x, rv = some (.long x) ∧ rt = some .long)) :
    RT ((p, l, e, rmx fr lo, s, m), (args, below, meth, c), (D, α, cI, cZ), (w, nL, MQ below (Qcx D α cI cZ w rv σ') args s 0 0 (Aw α w))) cc rv σ' := by
  intro pc L hd ls H locs hl hP hS
  have hq : ∀ (rv2 : Option Value), rv2 = rv.map (sv α) → ∀ t : State, t.heap = H → s.WarmedH t.vm → Qcx D α cI cZ w rv σ' args s (.returned rv2) t := fun rv2 h2 t ht _ => ⟨by rw [h2], by rw [ht]; exact hP, hS.F ht⟩
  rcases hret with ⟨rfl, rfl⟩ | ⟨x, rfl, ty, rfl, hn⟩ | ⟨x, rfl, rfl⟩
  · exact W.vret hx hb hr (hq _ rfl) hS.2.2 hd
  · exact W.zret (ty := ty) hx hb hr hn (hq _ rfl) hS.2.2 hd
  · exact W.lret hx hb hr (hq _ rfl) hS.2.2 hd
theorem ct_of {y : MethodName} {fr lo : Nat} {av : List Value} {rv : Option Value} {σ' : SS} (hy : plainName y.cls = true) (hret : (rv = none ∧ rt = none) ∨ (∃ x, rv = some (.int x) ∧ ∃ ty, rt = some ty ∧ narrow ty (.int x) = .int x) ∨ (∃ x, rv = some (.long x) ∧ rt = some .long)) (L0 : List (Option Value)) (hL : ∀ (α : Nat → Nat), ∃ ls : Array Slot, (∀ m, entryFrame m (av.map (sv α)).toArray nL = F0 m 0 ls []) ∧ lh ls nL α L0)
    (body : ∀ o : Om, Cx o y.cls cc nL rt (rmx fr lo) w → RT o cc rv σ' → Yx o 0 L0 [] σ) : CT w y cc nL rt fr lo av σ rv σ' := by
  intro l D α cI cZ hWk
  refine Met.ofW (cc := cc) (maxL := nL) (ret := rt) hy rfl ?_
  intro p e s m args below meth c s₁ B hml hv
  obtain ⟨rfl, hP, hKn⟩ := hv
  have hts := atoms_spec (ws := wsU y cc nL rt) B.pre
  obtain ⟨ls, e1, e2⟩ := hL α
  rw [e1 m]
  have C : Cx ((p, l, e, rmx fr lo, s, m), ((av.map (sv α)).toArray, below, meth, c), (D, α, cI, cZ), (w, nL, MQ below (Qcx D α cI cZ w rv σ') (av.map (sv α)).toArray s 0 0 (Aw α w))) y.cls cc nL rt (rmx fr lo) w :=
    ⟨B.exec, B.bytes, hml, findClass_of_methodNamed B.named, fun x hx => hts x (List.mem_cons_of_mem _ hx), rfl, B.notSynchronized, B.returns, hKn, hWk, rfl, rfl⟩
  exact body _ C (w_ret B.exec B.bytes B.notSynchronized B.returns hret) ls s.heap [] e2 hP va_S.rf
/-- the locals at the entry -/
def lx_args : List Value → List (Option Value)
  | [] => []
  | .long x :: r => some (.long x) :: none :: lx_args r
  | .double x :: r => some (.double x) :: none :: lx_args r
  | v :: r => some v :: lx_args r
theorem lx_get : ∀ (av : List Value) (α : Nat → Nat) (b i : Nat) (v : Value), (lx_args av)[i]? = some (some v) → (b + i, sv α v) ∈ lv_args b (av.map (sv α))
  | [], _, _, i, v, h => by simp [lx_args] at h
  | a :: r, α, b, i, v, h => by
    cases a <;> simp only [lx_args, List.map_cons, sv, lv_args, Value.category] at h ⊢
    all_goals
      rcases i with _ | i
      · simp only [List.getElem?_cons_zero, Option.some.injEq] at h
        subst h
        exact List.mem_cons_self
      · simp only [List.getElem?_cons_succ] at h
        refine List.mem_cons_of_mem _ ?_
        first
          | (have := lx_get r α (b + 1) i v h
             rw [show b + (i + 1) = b + 1 + i by omega]
             exact this)
          | (rcases i with _ | i
             · simp at h
             · simp only [List.getElem?_cons_succ] at h
               have := lx_get r α (b + 2) i v h
               rw [show b + (i + 1 + 1) = b + 2 + i by omega]
               exact this)
theorem lx_entry (av : List Value) (hn : ∀ α : Nat → Nat, (lg_sl (av.map (sv α))).length ≤ nL) (α : Nat → Nat) : ∃ ls : Array Slot, (∀ m, entryFrame m (av.map (sv α)).toArray nL = F0 m 0 ls []) ∧ lh ls nL α (lx_args av) := by
  refine ⟨_, fun m => lg_entry_eq _ _ _, ?_⟩
  have hl := lv_entry (av.map (sv α)) (hn α)
  refine ⟨hl.1, hl.2.1, fun i v hi => hl.2.2 (i, sv α v) ?_⟩
  have := lx_get av α 0 i v hi
  rwa [Nat.zero_add] at this
end RC
end
