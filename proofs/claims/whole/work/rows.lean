section
-- ===== PART A: goes FIRST, ahead of the names: the tables' words, and 'selects' of the private methods out of them =====
/-- a private method of a class that the tables say can be made, by its rows of tables_1 -/
def lw_okq (q : MethodName × Nat) : Prop := (q.1.cls ≠ "java/lang/invoke/MethodHandle" ∧ q.1.cls ≠ "java/lang/invoke/VarHandle") ∧ Cond.instantiable q.1.cls q.2 ∈ tables_1 ∧ Cond.privateMethod q.1 ∈ tables_1 ∧ Cond.instanceMethod q.1 ∈ tables_1
theorem lw_p0 : lw_okq (⟨"InterlockingFrame", "appendWord", "(I)V"⟩, 16) := ⟨⟨by decide +kernel, by decide +kernel⟩, List.mem_of_getElem? (i := 20) (by decide +kernel), List.mem_of_getElem? (i := 282) (by decide +kernel), List.mem_of_getElem? (i := 283) (by decide +kernel)⟩
theorem lw_p1 : lw_okq (⟨"InterlockingFrame$SheetParser", "step", "()V"⟩, 6) := ⟨⟨by decide +kernel, by decide +kernel⟩, List.mem_of_getElem? (i := 28) (by decide +kernel), List.mem_of_getElem? (i := 297) (by decide +kernel), List.mem_of_getElem? (i := 298) (by decide +kernel)⟩
theorem lw_p2 : lw_okq (⟨"InterlockingFrame$SheetParser", "byteAt", "(I)I"⟩, 6) := ⟨⟨by decide +kernel, by decide +kernel⟩, List.mem_of_getElem? (i := 28) (by decide +kernel), List.mem_of_getElem? (i := 301) (by decide +kernel), List.mem_of_getElem? (i := 302) (by decide +kernel)⟩
theorem lw_p3 : lw_okq (⟨"InterlockingFrame$SheetParser", "readHead", "(LInterlockingFrame$Sheet;)Z"⟩, 6) := ⟨⟨by decide +kernel, by decide +kernel⟩, List.mem_of_getElem? (i := 28) (by decide +kernel), List.mem_of_getElem? (i := 311) (by decide +kernel), List.mem_of_getElem? (i := 312) (by decide +kernel)⟩
theorem lw_p4 : lw_okq (⟨"InterlockingFrame$SheetParser", "atText", "(Ljava/lang/String;)Z"⟩, 6) := ⟨⟨by decide +kernel, by decide +kernel⟩, List.mem_of_getElem? (i := 28) (by decide +kernel), List.mem_of_getElem? (i := 316) (by decide +kernel), List.mem_of_getElem? (i := 317) (by decide +kernel)⟩
theorem lw_p5 : lw_okq (⟨"InterlockingFrame$SheetParser", "fail", "(I)Z"⟩, 6) := ⟨⟨by decide +kernel, by decide +kernel⟩, List.mem_of_getElem? (i := 28) (by decide +kernel), List.mem_of_getElem? (i := 368) (by decide +kernel), List.mem_of_getElem? (i := 369) (by decide +kernel)⟩
theorem lw_p6 : lw_okq (⟨"InterlockingFrame$SheetParser", "numberHere", "(II)I"⟩, 6) := ⟨⟨by decide +kernel, by decide +kernel⟩, List.mem_of_getElem? (i := 28) (by decide +kernel), List.mem_of_getElem? (i := 372) (by decide +kernel), List.mem_of_getElem? (i := 373) (by decide +kernel)⟩
theorem lw_p7 : lw_okq (⟨"InterlockingFrame$SheetParser", "readSemicolon", "()Z"⟩, 6) := ⟨⟨by decide +kernel, by decide +kernel⟩, List.mem_of_getElem? (i := 28) (by decide +kernel), List.mem_of_getElem? (i := 380) (by decide +kernel), List.mem_of_getElem? (i := 381) (by decide +kernel)⟩
theorem lw_p8 : lw_okq (⟨"InterlockingFrame$SheetParser", "readStatement", "(LInterlockingFrame$Sheet;)Z"⟩, 6) := ⟨⟨by decide +kernel, by decide +kernel⟩, List.mem_of_getElem? (i := 28) (by decide +kernel), List.mem_of_getElem? (i := 385) (by decide +kernel), List.mem_of_getElem? (i := 386) (by decide +kernel)⟩
theorem lw_p9 : lw_okq (⟨"InterlockingFrame$SheetParser", "readRule", "(LInterlockingFrame$Sheet;)Z"⟩, 6) := ⟨⟨by decide +kernel, by decide +kernel⟩, List.mem_of_getElem? (i := 28) (by decide +kernel), List.mem_of_getElem? (i := 389) (by decide +kernel), List.mem_of_getElem? (i := 390) (by decide +kernel)⟩
theorem lw_p10 : lw_okq (⟨"InterlockingFrame$SheetParser", "verbHere", "()I"⟩, 6) := ⟨⟨by decide +kernel, by decide +kernel⟩, List.mem_of_getElem? (i := 28) (by decide +kernel), List.mem_of_getElem? (i := 393) (by decide +kernel), List.mem_of_getElem? (i := 394) (by decide +kernel)⟩
theorem lw_p11 : lw_okq (⟨"InterlockingFrame$SheetParser", "readCondition", "(LInterlockingFrame$Sheet;II)I"⟩, 6) := ⟨⟨by decide +kernel, by decide +kernel⟩, List.mem_of_getElem? (i := 28) (by decide +kernel), List.mem_of_getElem? (i := 401) (by decide +kernel), List.mem_of_getElem? (i := 402) (by decide +kernel)⟩
theorem lw_p12 : lw_okq (⟨"InterlockingFrame$SheetParser", "readRoute", "(LInterlockingFrame$Sheet;)Z"⟩, 6) := ⟨⟨by decide +kernel, by decide +kernel⟩, List.mem_of_getElem? (i := 28) (by decide +kernel), List.mem_of_getElem? (i := 418) (by decide +kernel), List.mem_of_getElem? (i := 419) (by decide +kernel)⟩
theorem lw_p13 : lw_okq (⟨"InterlockingFrame$SheetParser", "readConflict", "(LInterlockingFrame$Sheet;)Z"⟩, 6) := ⟨⟨by decide +kernel, by decide +kernel⟩, List.mem_of_getElem? (i := 28) (by decide +kernel), List.mem_of_getElem? (i := 427) (by decide +kernel), List.mem_of_getElem? (i := 428) (by decide +kernel)⟩
theorem lw_p14 : lw_okq (⟨"InterlockingFrame", "forgetFindings", "()V"⟩, 16) := ⟨⟨by decide +kernel, by decide +kernel⟩, List.mem_of_getElem? (i := 20) (by decide +kernel), List.mem_of_getElem? (i := 447) (by decide +kernel), List.mem_of_getElem? (i := 448) (by decide +kernel)⟩
theorem lw_p15 : lw_okq (⟨"InterlockingFrame$History", "forgetOldest", "()V"⟩, 7) := ⟨⟨by decide +kernel, by decide +kernel⟩, List.mem_of_getElem? (i := 106) (by decide +kernel), List.mem_of_getElem? (i := 555) (by decide +kernel), List.mem_of_getElem? (i := 556) (by decide +kernel)⟩
def lw_privs_1 : List (MethodName × Nat) := [(⟨"InterlockingFrame", "appendWord", "(I)V"⟩, 16), (⟨"InterlockingFrame$SheetParser", "step", "()V"⟩, 6), (⟨"InterlockingFrame$SheetParser", "byteAt", "(I)I"⟩, 6), (⟨"InterlockingFrame$SheetParser", "readHead", "(LInterlockingFrame$Sheet;)Z"⟩, 6), (⟨"InterlockingFrame$SheetParser", "atText", "(Ljava/lang/String;)Z"⟩, 6), (⟨"InterlockingFrame$SheetParser", "fail", "(I)Z"⟩, 6), (⟨"InterlockingFrame$SheetParser", "numberHere", "(II)I"⟩, 6), (⟨"InterlockingFrame$SheetParser", "readSemicolon", "()Z"⟩, 6), (⟨"InterlockingFrame$SheetParser", "readStatement", "(LInterlockingFrame$Sheet;)Z"⟩, 6), (⟨"InterlockingFrame$SheetParser", "readRule", "(LInterlockingFrame$Sheet;)Z"⟩, 6), (⟨"InterlockingFrame$SheetParser", "verbHere", "()I"⟩, 6), (⟨"InterlockingFrame$SheetParser", "readCondition", "(LInterlockingFrame$Sheet;II)I"⟩, 6), (⟨"InterlockingFrame$SheetParser", "readRoute", "(LInterlockingFrame$Sheet;)Z"⟩, 6), (⟨"InterlockingFrame$SheetParser", "readConflict", "(LInterlockingFrame$Sheet;)Z"⟩, 6), (⟨"InterlockingFrame", "forgetFindings", "()V"⟩, 16), (⟨"InterlockingFrame$History", "forgetOldest", "()V"⟩, 7)]
theorem lw_r1 : ∀ q ∈ lw_privs_1, lw_okq q := List.forall_mem_cons.mpr ⟨lw_p0, List.forall_mem_cons.mpr ⟨lw_p1, List.forall_mem_cons.mpr ⟨lw_p2, List.forall_mem_cons.mpr ⟨lw_p3, List.forall_mem_cons.mpr ⟨lw_p4, List.forall_mem_cons.mpr ⟨lw_p5, List.forall_mem_cons.mpr ⟨lw_p6, List.forall_mem_cons.mpr ⟨lw_p7, List.forall_mem_cons.mpr ⟨lw_p8, List.forall_mem_cons.mpr ⟨lw_p9, List.forall_mem_cons.mpr ⟨lw_p10, List.forall_mem_cons.mpr ⟨lw_p11, List.forall_mem_cons.mpr ⟨lw_p12, List.forall_mem_cons.mpr ⟨lw_p13, List.forall_mem_cons.mpr ⟨lw_p14, List.forall_mem_cons.mpr ⟨lw_p15, fun _ h => absurd h List.not_mem_nil⟩⟩⟩⟩⟩⟩⟩⟩⟩⟩⟩⟩⟩⟩⟩⟩
theorem lw_p16 : lw_okq (⟨"InterlockingFrame", "searchedHome", "()LInterlockingFrame$Search;"⟩, 16) := ⟨⟨by decide +kernel, by decide +kernel⟩, List.mem_of_getElem? (i := 20) (by decide +kernel), List.mem_of_getElem? (i := 615) (by decide +kernel), List.mem_of_getElem? (i := 616) (by decide +kernel)⟩
theorem lw_p17 : lw_okq (⟨"InterlockingFrame$Search", "forget", "()V"⟩, 5) := ⟨⟨by decide +kernel, by decide +kernel⟩, List.mem_of_getElem? (i := 138) (by decide +kernel), List.mem_of_getElem? (i := 656) (by decide +kernel), List.mem_of_getElem? (i := 657) (by decide +kernel)⟩
theorem lw_p18 : lw_okq (⟨"InterlockingFrame$Search", "enter", "(II)V"⟩, 5) := ⟨⟨by decide +kernel, by decide +kernel⟩, List.mem_of_getElem? (i := 138) (by decide +kernel), List.mem_of_getElem? (i := 660) (by decide +kernel), List.mem_of_getElem? (i := 661) (by decide +kernel)⟩
theorem lw_p19 : lw_okq (⟨"InterlockingFrame", "searchBetween", "(II)Z"⟩, 16) := ⟨⟨by decide +kernel, by decide +kernel⟩, List.mem_of_getElem? (i := 20) (by decide +kernel), List.mem_of_getElem? (i := 680) (by decide +kernel), List.mem_of_getElem? (i := 681) (by decide +kernel)⟩
theorem lw_p20 : lw_okq (⟨"InterlockingFrame$LockPlanner", "keepsRoutes", "(LInterlockingFrame$Sheet;LInterlockingFrame$Locking;II)Z"⟩, 4) := ⟨⟨by decide +kernel, by decide +kernel⟩, List.mem_of_getElem? (i := 182) (by decide +kernel), List.mem_of_getElem? (i := 767) (by decide +kernel), List.mem_of_getElem? (i := 768) (by decide +kernel)⟩
theorem lw_p21 : lw_okq (⟨"InterlockingFrame", "placeFreedWithout", "(I)I"⟩, 16) := ⟨⟨by decide +kernel, by decide +kernel⟩, List.mem_of_getElem? (i := 20) (by decide +kernel), List.mem_of_getElem? (i := 826) (by decide +kernel), List.mem_of_getElem? (i := 827) (by decide +kernel)⟩
theorem lw_p22 : lw_okq (⟨"InterlockingFrameModel", "usesSheet", "()V"⟩, 42) := ⟨⟨by decide +kernel, by decide +kernel⟩, List.mem_of_getElem? (i := 906) (by decide +kernel), List.mem_of_getElem? (i := 912) (by decide +kernel), List.mem_of_getElem? (i := 913) (by decide +kernel)⟩
theorem lw_p23 : lw_okq (⟨"InterlockingFrameModel", "parses", "()I"⟩, 42) := ⟨⟨by decide +kernel, by decide +kernel⟩, List.mem_of_getElem? (i := 906) (by decide +kernel), List.mem_of_getElem? (i := 1054) (by decide +kernel), List.mem_of_getElem? (i := 1055) (by decide +kernel)⟩
theorem lw_p24 : lw_okq (⟨"InterlockingFrameModel", "passes", "(II)I"⟩, 42) := ⟨⟨by decide +kernel, by decide +kernel⟩, List.mem_of_getElem? (i := 906) (by decide +kernel), List.mem_of_getElem? (i := 1058) (by decide +kernel), List.mem_of_getElem? (i := 1059) (by decide +kernel)⟩
theorem lw_p25 : lw_okq (⟨"InterlockingFrameModel", "wordHere", "()I"⟩, 42) := ⟨⟨by decide +kernel, by decide +kernel⟩, List.mem_of_getElem? (i := 906) (by decide +kernel), List.mem_of_getElem? (i := 1062) (by decide +kernel), List.mem_of_getElem? (i := 1063) (by decide +kernel)⟩
theorem lw_p26 : lw_okq (⟨"InterlockingFrameModel", "peek", "()I"⟩, 42) := ⟨⟨by decide +kernel, by decide +kernel⟩, List.mem_of_getElem? (i := 906) (by decide +kernel), List.mem_of_getElem? (i := 1066) (by decide +kernel), List.mem_of_getElem? (i := 1067) (by decide +kernel)⟩
theorem lw_p27 : lw_okq (⟨"InterlockingFrameModel", "lettersHere", "()I"⟩, 42) := ⟨⟨by decide +kernel, by decide +kernel⟩, List.mem_of_getElem? (i := 906) (by decide +kernel), List.mem_of_getElem? (i := 1072) (by decide +kernel), List.mem_of_getElem? (i := 1073) (by decide +kernel)⟩
theorem lw_p28 : lw_okq (⟨"InterlockingFrameModel", "fails", "(II)V"⟩, 42) := ⟨⟨by decide +kernel, by decide +kernel⟩, List.mem_of_getElem? (i := 906) (by decide +kernel), List.mem_of_getElem? (i := 1079) (by decide +kernel), List.mem_of_getElem? (i := 1080) (by decide +kernel)⟩
theorem lw_p29 : lw_okq (⟨"InterlockingFrameModel", "number", "(II)I"⟩, 42) := ⟨⟨by decide +kernel, by decide +kernel⟩, List.mem_of_getElem? (i := 906) (by decide +kernel), List.mem_of_getElem? (i := 1083) (by decide +kernel), List.mem_of_getElem? (i := 1084) (by decide +kernel)⟩
theorem lw_p30 : lw_okq (⟨"InterlockingFrameModel", "isDigitHere", "()Z"⟩, 42) := ⟨⟨by decide +kernel, by decide +kernel⟩, List.mem_of_getElem? (i := 906) (by decide +kernel), List.mem_of_getElem? (i := 1087) (by decide +kernel), List.mem_of_getElem? (i := 1088) (by decide +kernel)⟩
theorem lw_p31 : lw_okq (⟨"InterlockingFrameModel", "semicolon", "()V"⟩, 42) := ⟨⟨by decide +kernel, by decide +kernel⟩, List.mem_of_getElem? (i := 906) (by decide +kernel), List.mem_of_getElem? (i := 1093) (by decide +kernel), List.mem_of_getElem? (i := 1094) (by decide +kernel)⟩
def lw_privs_2 : List (MethodName × Nat) := [(⟨"InterlockingFrame", "searchedHome", "()LInterlockingFrame$Search;"⟩, 16), (⟨"InterlockingFrame$Search", "forget", "()V"⟩, 5), (⟨"InterlockingFrame$Search", "enter", "(II)V"⟩, 5), (⟨"InterlockingFrame", "searchBetween", "(II)Z"⟩, 16), (⟨"InterlockingFrame$LockPlanner", "keepsRoutes", "(LInterlockingFrame$Sheet;LInterlockingFrame$Locking;II)Z"⟩, 4), (⟨"InterlockingFrame", "placeFreedWithout", "(I)I"⟩, 16), (⟨"InterlockingFrameModel", "usesSheet", "()V"⟩, 42), (⟨"InterlockingFrameModel", "parses", "()I"⟩, 42), (⟨"InterlockingFrameModel", "passes", "(II)I"⟩, 42), (⟨"InterlockingFrameModel", "wordHere", "()I"⟩, 42), (⟨"InterlockingFrameModel", "peek", "()I"⟩, 42), (⟨"InterlockingFrameModel", "lettersHere", "()I"⟩, 42), (⟨"InterlockingFrameModel", "fails", "(II)V"⟩, 42), (⟨"InterlockingFrameModel", "number", "(II)I"⟩, 42), (⟨"InterlockingFrameModel", "isDigitHere", "()Z"⟩, 42), (⟨"InterlockingFrameModel", "semicolon", "()V"⟩, 42)]
theorem lw_r2 : ∀ q ∈ lw_privs_2, lw_okq q := List.forall_mem_cons.mpr ⟨lw_p16, List.forall_mem_cons.mpr ⟨lw_p17, List.forall_mem_cons.mpr ⟨lw_p18, List.forall_mem_cons.mpr ⟨lw_p19, List.forall_mem_cons.mpr ⟨lw_p20, List.forall_mem_cons.mpr ⟨lw_p21, List.forall_mem_cons.mpr ⟨lw_p22, List.forall_mem_cons.mpr ⟨lw_p23, List.forall_mem_cons.mpr ⟨lw_p24, List.forall_mem_cons.mpr ⟨lw_p25, List.forall_mem_cons.mpr ⟨lw_p26, List.forall_mem_cons.mpr ⟨lw_p27, List.forall_mem_cons.mpr ⟨lw_p28, List.forall_mem_cons.mpr ⟨lw_p29, List.forall_mem_cons.mpr ⟨lw_p30, List.forall_mem_cons.mpr ⟨lw_p31, fun _ h => absurd h List.not_mem_nil⟩⟩⟩⟩⟩⟩⟩⟩⟩⟩⟩⟩⟩⟩⟩⟩
theorem lw_p32 : lw_okq (⟨"InterlockingFrameModel", "line", "()V"⟩, 42) := ⟨⟨by decide +kernel, by decide +kernel⟩, List.mem_of_getElem? (i := 906) (by decide +kernel), List.mem_of_getElem? (i := 1097) (by decide +kernel), List.mem_of_getElem? (i := 1098) (by decide +kernel)⟩
theorem lw_p33 : lw_okq (⟨"InterlockingFrameModel", "ruleLine", "()V"⟩, 42) := ⟨⟨by decide +kernel, by decide +kernel⟩, List.mem_of_getElem? (i := 906) (by decide +kernel), List.mem_of_getElem? (i := 1101) (by decide +kernel), List.mem_of_getElem? (i := 1102) (by decide +kernel)⟩
theorem lw_p34 : lw_okq (⟨"InterlockingFrameModel", "lever", "()I"⟩, 42) := ⟨⟨by decide +kernel, by decide +kernel⟩, List.mem_of_getElem? (i := 906) (by decide +kernel), List.mem_of_getElem? (i := 1105) (by decide +kernel), List.mem_of_getElem? (i := 1106) (by decide +kernel)⟩
theorem lw_p35 : lw_okq (⟨"InterlockingFrameModel", "routeLine", "()V"⟩, 42) := ⟨⟨by decide +kernel, by decide +kernel⟩, List.mem_of_getElem? (i := 906) (by decide +kernel), List.mem_of_getElem? (i := 1109) (by decide +kernel), List.mem_of_getElem? (i := 1110) (by decide +kernel)⟩
theorem lw_p36 : lw_okq (⟨"InterlockingFrameModel", "conflictLine", "()V"⟩, 42) := ⟨⟨by decide +kernel, by decide +kernel⟩, List.mem_of_getElem? (i := 906) (by decide +kernel), List.mem_of_getElem? (i := 1116) (by decide +kernel), List.mem_of_getElem? (i := 1117) (by decide +kernel)⟩
theorem lw_p37 : lw_okq (⟨"InterlockingFrameModel", "isDeclared", "(II)Z"⟩, 42) := ⟨⟨by decide +kernel, by decide +kernel⟩, List.mem_of_getElem? (i := 906) (by decide +kernel), List.mem_of_getElem? (i := 1120) (by decide +kernel), List.mem_of_getElem? (i := 1121) (by decide +kernel)⟩
theorem lw_p38 : lw_okq (⟨"InterlockingFrameModel", "isRule", "(I)Z"⟩, 42) := ⟨⟨by decide +kernel, by decide +kernel⟩, List.mem_of_getElem? (i := 906) (by decide +kernel), List.mem_of_getElem? (i := 1148) (by decide +kernel), List.mem_of_getElem? (i := 1149) (by decide +kernel)⟩
theorem lw_p39 : lw_okq (⟨"InterlockingFrameModel", "isRoute", "(I)Z"⟩, 42) := ⟨⟨by decide +kernel, by decide +kernel⟩, List.mem_of_getElem? (i := 906) (by decide +kernel), List.mem_of_getElem? (i := 1168) (by decide +kernel), List.mem_of_getElem? (i := 1169) (by decide +kernel)⟩
theorem lw_p40 : lw_okq (⟨"InterlockingFrameModel", "isLever", "(I)Z"⟩, 42) := ⟨⟨by decide +kernel, by decide +kernel⟩, List.mem_of_getElem? (i := 906) (by decide +kernel), List.mem_of_getElem? (i := 1184) (by decide +kernel), List.mem_of_getElem? (i := 1185) (by decide +kernel)⟩
theorem lw_p41 : lw_okq (⟨"InterlockingFrameModel", "isFree", "(II)Z"⟩, 42) := ⟨⟨by decide +kernel, by decide +kernel⟩, List.mem_of_getElem? (i := 906) (by decide +kernel), List.mem_of_getElem? (i := 1188) (by decide +kernel), List.mem_of_getElem? (i := 1189) (by decide +kernel)⟩
theorem lw_p42 : lw_okq (⟨"InterlockingFrameModel", "blockOf", "(II)I"⟩, 42) := ⟨⟨by decide +kernel, by decide +kernel⟩, List.mem_of_getElem? (i := 906) (by decide +kernel), List.mem_of_getElem? (i := 1192) (by decide +kernel), List.mem_of_getElem? (i := 1193) (by decide +kernel)⟩
theorem lw_p43 : lw_okq (⟨"InterlockingFrameModel", "blocks", "(III)Z"⟩, 42) := ⟨⟨by decide +kernel, by decide +kernel⟩, List.mem_of_getElem? (i := 906) (by decide +kernel), List.mem_of_getElem? (i := 1196) (by decide +kernel), List.mem_of_getElem? (i := 1197) (by decide +kernel)⟩
theorem lw_p44 : lw_okq (⟨"InterlockingFrameModel", "forbids", "(II)Z"⟩, 42) := ⟨⟨by decide +kernel, by decide +kernel⟩, List.mem_of_getElem? (i := 906) (by decide +kernel), List.mem_of_getElem? (i := 1200) (by decide +kernel), List.mem_of_getElem? (i := 1201) (by decide +kernel)⟩
theorem lw_p45 : lw_okq (⟨"InterlockingFrameModel", "isActive", "(II)Z"⟩, 42) := ⟨⟨by decide +kernel, by decide +kernel⟩, List.mem_of_getElem? (i := 906) (by decide +kernel), List.mem_of_getElem? (i := 1204) (by decide +kernel), List.mem_of_getElem? (i := 1205) (by decide +kernel)⟩
theorem lw_p46 : lw_okq (⟨"InterlockingFrameModel", "remembers", "()V"⟩, 42) := ⟨⟨by decide +kernel, by decide +kernel⟩, List.mem_of_getElem? (i := 906) (by decide +kernel), List.mem_of_getElem? (i := 1208) (by decide +kernel), List.mem_of_getElem? (i := 1209) (by decide +kernel)⟩
theorem lw_p47 : lw_okq (⟨"InterlockingFrameModel", "puts", "(IIIII)V"⟩, 42) := ⟨⟨by decide +kernel, by decide +kernel⟩, List.mem_of_getElem? (i := 906) (by decide +kernel), List.mem_of_getElem? (i := 1217) (by decide +kernel), List.mem_of_getElem? (i := 1218) (by decide +kernel)⟩
def lw_privs_3 : List (MethodName × Nat) := [(⟨"InterlockingFrameModel", "line", "()V"⟩, 42), (⟨"InterlockingFrameModel", "ruleLine", "()V"⟩, 42), (⟨"InterlockingFrameModel", "lever", "()I"⟩, 42), (⟨"InterlockingFrameModel", "routeLine", "()V"⟩, 42), (⟨"InterlockingFrameModel", "conflictLine", "()V"⟩, 42), (⟨"InterlockingFrameModel", "isDeclared", "(II)Z"⟩, 42), (⟨"InterlockingFrameModel", "isRule", "(I)Z"⟩, 42), (⟨"InterlockingFrameModel", "isRoute", "(I)Z"⟩, 42), (⟨"InterlockingFrameModel", "isLever", "(I)Z"⟩, 42), (⟨"InterlockingFrameModel", "isFree", "(II)Z"⟩, 42), (⟨"InterlockingFrameModel", "blockOf", "(II)I"⟩, 42), (⟨"InterlockingFrameModel", "blocks", "(III)Z"⟩, 42), (⟨"InterlockingFrameModel", "forbids", "(II)Z"⟩, 42), (⟨"InterlockingFrameModel", "isActive", "(II)Z"⟩, 42), (⟨"InterlockingFrameModel", "remembers", "()V"⟩, 42), (⟨"InterlockingFrameModel", "puts", "(IIIII)V"⟩, 42)]
theorem lw_r3 : ∀ q ∈ lw_privs_3, lw_okq q := List.forall_mem_cons.mpr ⟨lw_p32, List.forall_mem_cons.mpr ⟨lw_p33, List.forall_mem_cons.mpr ⟨lw_p34, List.forall_mem_cons.mpr ⟨lw_p35, List.forall_mem_cons.mpr ⟨lw_p36, List.forall_mem_cons.mpr ⟨lw_p37, List.forall_mem_cons.mpr ⟨lw_p38, List.forall_mem_cons.mpr ⟨lw_p39, List.forall_mem_cons.mpr ⟨lw_p40, List.forall_mem_cons.mpr ⟨lw_p41, List.forall_mem_cons.mpr ⟨lw_p42, List.forall_mem_cons.mpr ⟨lw_p43, List.forall_mem_cons.mpr ⟨lw_p44, List.forall_mem_cons.mpr ⟨lw_p45, List.forall_mem_cons.mpr ⟨lw_p46, List.forall_mem_cons.mpr ⟨lw_p47, fun _ h => absurd h List.not_mem_nil⟩⟩⟩⟩⟩⟩⟩⟩⟩⟩⟩⟩⟩⟩⟩⟩
theorem lw_p48 : lw_okq (⟨"InterlockingFrameModel", "isState", "(I)Z"⟩, 42) := ⟨⟨by decide +kernel, by decide +kernel⟩, List.mem_of_getElem? (i := 906) (by decide +kernel), List.mem_of_getElem? (i := 1233) (by decide +kernel), List.mem_of_getElem? (i := 1234) (by decide +kernel)⟩
theorem lw_p49 : lw_okq (⟨"InterlockingFrameModel", "laysFrom", "(I)V"⟩, 42) := ⟨⟨by decide +kernel, by decide +kernel⟩, List.mem_of_getElem? (i := 906) (by decide +kernel), List.mem_of_getElem? (i := 1249) (by decide +kernel), List.mem_of_getElem? (i := 1250) (by decide +kernel)⟩
theorem lw_p50 : lw_okq (⟨"InterlockingFrameModel", "clears", "()V"⟩, 42) := ⟨⟨by decide +kernel, by decide +kernel⟩, List.mem_of_getElem? (i := 906) (by decide +kernel), List.mem_of_getElem? (i := 1253) (by decide +kernel), List.mem_of_getElem? (i := 1254) (by decide +kernel)⟩
theorem lw_p51 : lw_okq (⟨"InterlockingFrameModel", "reaches", "(II)V"⟩, 42) := ⟨⟨by decide +kernel, by decide +kernel⟩, List.mem_of_getElem? (i := 906) (by decide +kernel), List.mem_of_getElem? (i := 1257) (by decide +kernel), List.mem_of_getElem? (i := 1258) (by decide +kernel)⟩
theorem lw_p52 : lw_okq (⟨"InterlockingFrameModel", "spreads", "()V"⟩, 42) := ⟨⟨by decide +kernel, by decide +kernel⟩, List.mem_of_getElem? (i := 906) (by decide +kernel), List.mem_of_getElem? (i := 1261) (by decide +kernel), List.mem_of_getElem? (i := 1262) (by decide +kernel)⟩
theorem lw_p53 : lw_okq (⟨"InterlockingFrameModel", "areReachable", "(II)Z"⟩, 42) := ⟨⟨by decide +kernel, by decide +kernel⟩, List.mem_of_getElem? (i := 906) (by decide +kernel), List.mem_of_getElem? (i := 1269) (by decide +kernel), List.mem_of_getElem? (i := 1270) (by decide +kernel)⟩
theorem lw_p54 : lw_okq (⟨"InterlockingFrameModel", "settingOf", "(I)I"⟩, 42) := ⟨⟨by decide +kernel, by decide +kernel⟩, List.mem_of_getElem? (i := 906) (by decide +kernel), List.mem_of_getElem? (i := 1285) (by decide +kernel), List.mem_of_getElem? (i := 1286) (by decide +kernel)⟩
theorem lw_p55 : lw_okq (⟨"InterlockingFrameModel", "sets", "(II)Z"⟩, 42) := ⟨⟨by decide +kernel, by decide +kernel⟩, List.mem_of_getElem? (i := 906) (by decide +kernel), List.mem_of_getElem? (i := 1289) (by decide +kernel), List.mem_of_getElem? (i := 1290) (by decide +kernel)⟩
theorem lw_p56 : lw_okq (⟨"InterlockingFrameModel", "joint", "(II)I"⟩, 42) := ⟨⟨by decide +kernel, by decide +kernel⟩, List.mem_of_getElem? (i := 906) (by decide +kernel), List.mem_of_getElem? (i := 1301) (by decide +kernel), List.mem_of_getElem? (i := 1302) (by decide +kernel)⟩
theorem lw_p57 : lw_okq (⟨"InterlockingFrameModel", "unprotected", "()I"⟩, 42) := ⟨⟨by decide +kernel, by decide +kernel⟩, List.mem_of_getElem? (i := 906) (by decide +kernel), List.mem_of_getElem? (i := 1309) (by decide +kernel), List.mem_of_getElem? (i := 1310) (by decide +kernel)⟩
theorem lw_p58 : lw_okq (⟨"InterlockingFrameModel", "lockFor", "(I)I"⟩, 42) := ⟨⟨by decide +kernel, by decide +kernel⟩, List.mem_of_getElem? (i := 906) (by decide +kernel), List.mem_of_getElem? (i := 1317) (by decide +kernel), List.mem_of_getElem? (i := 1318) (by decide +kernel)⟩
theorem lw_p59 : lw_okq (⟨"InterlockingFrameModel", "settable", "()I"⟩, 42) := ⟨⟨by decide +kernel, by decide +kernel⟩, List.mem_of_getElem? (i := 906) (by decide +kernel), List.mem_of_getElem? (i := 1321) (by decide +kernel), List.mem_of_getElem? (i := 1322) (by decide +kernel)⟩
theorem lw_p60 : lw_okq (⟨"InterlockingFrameModel", "completes", "()Z"⟩, 42) := ⟨⟨by decide +kernel, by decide +kernel⟩, List.mem_of_getElem? (i := 906) (by decide +kernel), List.mem_of_getElem? (i := 1329) (by decide +kernel), List.mem_of_getElem? (i := 1330) (by decide +kernel)⟩
theorem lw_p61 : lw_okq (⟨"InterlockingFrameModel", "isImpliedBy", "(I)Z"⟩, 42) := ⟨⟨by decide +kernel, by decide +kernel⟩, List.mem_of_getElem? (i := 906) (by decide +kernel), List.mem_of_getElem? (i := 1352) (by decide +kernel), List.mem_of_getElem? (i := 1353) (by decide +kernel)⟩
theorem lw_p62 : lw_okq (⟨"InterlockingFrameModel", "tellingLever", "(II)I"⟩, 42) := ⟨⟨by decide +kernel, by decide +kernel⟩, List.mem_of_getElem? (i := 906) (by decide +kernel), List.mem_of_getElem? (i := 1356) (by decide +kernel), List.mem_of_getElem? (i := 1357) (by decide +kernel)⟩
theorem lw_p63 : lw_okq (⟨"InterlockingFrameModel", "isTold", "(III)Z"⟩, 42) := ⟨⟨by decide +kernel, by decide +kernel⟩, List.mem_of_getElem? (i := 906) (by decide +kernel), List.mem_of_getElem? (i := 1360) (by decide +kernel), List.mem_of_getElem? (i := 1361) (by decide +kernel)⟩
def lw_privs_4 : List (MethodName × Nat) := [(⟨"InterlockingFrameModel", "isState", "(I)Z"⟩, 42), (⟨"InterlockingFrameModel", "laysFrom", "(I)V"⟩, 42), (⟨"InterlockingFrameModel", "clears", "()V"⟩, 42), (⟨"InterlockingFrameModel", "reaches", "(II)V"⟩, 42), (⟨"InterlockingFrameModel", "spreads", "()V"⟩, 42), (⟨"InterlockingFrameModel", "areReachable", "(II)Z"⟩, 42), (⟨"InterlockingFrameModel", "settingOf", "(I)I"⟩, 42), (⟨"InterlockingFrameModel", "sets", "(II)Z"⟩, 42), (⟨"InterlockingFrameModel", "joint", "(II)I"⟩, 42), (⟨"InterlockingFrameModel", "unprotected", "()I"⟩, 42), (⟨"InterlockingFrameModel", "lockFor", "(I)I"⟩, 42), (⟨"InterlockingFrameModel", "settable", "()I"⟩, 42), (⟨"InterlockingFrameModel", "completes", "()Z"⟩, 42), (⟨"InterlockingFrameModel", "isImpliedBy", "(I)Z"⟩, 42), (⟨"InterlockingFrameModel", "tellingLever", "(II)I"⟩, 42), (⟨"InterlockingFrameModel", "isTold", "(III)Z"⟩, 42)]
theorem lw_r4 : ∀ q ∈ lw_privs_4, lw_okq q := List.forall_mem_cons.mpr ⟨lw_p48, List.forall_mem_cons.mpr ⟨lw_p49, List.forall_mem_cons.mpr ⟨lw_p50, List.forall_mem_cons.mpr ⟨lw_p51, List.forall_mem_cons.mpr ⟨lw_p52, List.forall_mem_cons.mpr ⟨lw_p53, List.forall_mem_cons.mpr ⟨lw_p54, List.forall_mem_cons.mpr ⟨lw_p55, List.forall_mem_cons.mpr ⟨lw_p56, List.forall_mem_cons.mpr ⟨lw_p57, List.forall_mem_cons.mpr ⟨lw_p58, List.forall_mem_cons.mpr ⟨lw_p59, List.forall_mem_cons.mpr ⟨lw_p60, List.forall_mem_cons.mpr ⟨lw_p61, List.forall_mem_cons.mpr ⟨lw_p62, List.forall_mem_cons.mpr ⟨lw_p63, fun _ h => absurd h List.not_mem_nil⟩⟩⟩⟩⟩⟩⟩⟩⟩⟩⟩⟩⟩⟩⟩⟩
theorem lw_p64 : lw_okq (⟨"InterlockingFrameModel", "laysTest", "(I)V"⟩, 42) := ⟨⟨by decide +kernel, by decide +kernel⟩, List.mem_of_getElem? (i := 906) (by decide +kernel), List.mem_of_getElem? (i := 1372) (by decide +kernel), List.mem_of_getElem? (i := 1373) (by decide +kernel)⟩
theorem lw_p65 : lw_okq (⟨"InterlockingFrameModel", "nearer", "(I)I"⟩, 42) := ⟨⟨by decide +kernel, by decide +kernel⟩, List.mem_of_getElem? (i := 906) (by decide +kernel), List.mem_of_getElem? (i := 1380) (by decide +kernel), List.mem_of_getElem? (i := 1381) (by decide +kernel)⟩
theorem lw_p66 : lw_okq (⟨"InterlockingFrameModel", "laysDue", "()V"⟩, 42) := ⟨⟨by decide +kernel, by decide +kernel⟩, List.mem_of_getElem? (i := 906) (by decide +kernel), List.mem_of_getElem? (i := 1388) (by decide +kernel), List.mem_of_getElem? (i := 1389) (by decide +kernel)⟩
theorem lw_p67 : lw_okq (⟨"InterlockingFrameModel", "lower", "(II)I"⟩, 42) := ⟨⟨by decide +kernel, by decide +kernel⟩, List.mem_of_getElem? (i := 906) (by decide +kernel), List.mem_of_getElem? (i := 1392) (by decide +kernel), List.mem_of_getElem? (i := 1393) (by decide +kernel)⟩
theorem lw_p68 : lw_okq (⟨"InterlockingFrameModel", "higher", "(II)I"⟩, 42) := ⟨⟨by decide +kernel, by decide +kernel⟩, List.mem_of_getElem? (i := 906) (by decide +kernel), List.mem_of_getElem? (i := 1396) (by decide +kernel), List.mem_of_getElem? (i := 1397) (by decide +kernel)⟩
theorem lw_p69 : lw_okq (⟨"InterlockingFrameModel", "merges", "(II)V"⟩, 42) := ⟨⟨by decide +kernel, by decide +kernel⟩, List.mem_of_getElem? (i := 906) (by decide +kernel), List.mem_of_getElem? (i := 1400) (by decide +kernel), List.mem_of_getElem? (i := 1401) (by decide +kernel)⟩
theorem lw_p70 : lw_okq (⟨"InterlockingFrameModel", "isDue", "()Z"⟩, 42) := ⟨⟨by decide +kernel, by decide +kernel⟩, List.mem_of_getElem? (i := 906) (by decide +kernel), List.mem_of_getElem? (i := 1407) (by decide +kernel), List.mem_of_getElem? (i := 1408) (by decide +kernel)⟩
theorem lw_p71 : lw_okq (⟨"InterlockingFrameModel", "mergesOne", "()Z"⟩, 42) := ⟨⟨by decide +kernel, by decide +kernel⟩, List.mem_of_getElem? (i := 906) (by decide +kernel), List.mem_of_getElem? (i := 1419) (by decide +kernel), List.mem_of_getElem? (i := 1420) (by decide +kernel)⟩
theorem lw_p72 : lw_okq (⟨"InterlockingFrameModel", "copies", "(Z)V"⟩, 42) := ⟨⟨by decide +kernel, by decide +kernel⟩, List.mem_of_getElem? (i := 906) (by decide +kernel), List.mem_of_getElem? (i := 1423) (by decide +kernel), List.mem_of_getElem? (i := 1424) (by decide +kernel)⟩
def lw_privs_5 : List (MethodName × Nat) := [(⟨"InterlockingFrameModel", "laysTest", "(I)V"⟩, 42), (⟨"InterlockingFrameModel", "nearer", "(I)I"⟩, 42), (⟨"InterlockingFrameModel", "laysDue", "()V"⟩, 42), (⟨"InterlockingFrameModel", "lower", "(II)I"⟩, 42), (⟨"InterlockingFrameModel", "higher", "(II)I"⟩, 42), (⟨"InterlockingFrameModel", "merges", "(II)V"⟩, 42), (⟨"InterlockingFrameModel", "isDue", "()Z"⟩, 42), (⟨"InterlockingFrameModel", "mergesOne", "()Z"⟩, 42), (⟨"InterlockingFrameModel", "copies", "(Z)V"⟩, 42)]
theorem lw_r5 : ∀ q ∈ lw_privs_5, lw_okq q := List.forall_mem_cons.mpr ⟨lw_p64, List.forall_mem_cons.mpr ⟨lw_p65, List.forall_mem_cons.mpr ⟨lw_p66, List.forall_mem_cons.mpr ⟨lw_p67, List.forall_mem_cons.mpr ⟨lw_p68, List.forall_mem_cons.mpr ⟨lw_p69, List.forall_mem_cons.mpr ⟨lw_p70, List.forall_mem_cons.mpr ⟨lw_p71, List.forall_mem_cons.mpr ⟨lw_p72, fun _ h => absurd h List.not_mem_nil⟩⟩⟩⟩⟩⟩⟩⟩⟩
def lw_privs : List (MethodName × Nat) := lw_privs_1 ++ (lw_privs_2 ++ (lw_privs_3 ++ (lw_privs_4 ++ (lw_privs_5))))
def lw_tbl : List Cond := k2_sels lw_privs ++ tables_1
theorem lw_privs_ok : ∀ q ∈ lw_privs, lw_okq q := by
  show ∀ q ∈ lw_privs_1 ++ (lw_privs_2 ++ (lw_privs_3 ++ (lw_privs_4 ++ (lw_privs_5)))), lw_okq q
  exact List.forall_mem_append.mpr ⟨lw_r1, List.forall_mem_append.mpr ⟨lw_r2, List.forall_mem_append.mpr ⟨lw_r3, List.forall_mem_append.mpr ⟨lw_r4, lw_r5⟩⟩⟩⟩
def R_law : String := "InterlockingFrameLaw"
end
section
/-! the abstract heap: ints and longs by cell and place; a layout: cells, slots, shapes (0 ints, 1 longs, t+2 an object of class t; length), references -/
abbrev ja_S : Type := (Nat → Nat → Int32) × (Nat → Nat → Int64)
abbrev ja_L : Type := Nat × Nat × (Nat → Nat × Nat) × (Nat → Nat → Option Nat)
abbrev ja_Z : Type := Option Value × ja_L × ja_S
def ja_cv (ad : Nat → Nat) (v : Value) : Value := match v with
  | .ref k => .ref (ad k)
  | w => w
def ja_cl (ad : Nat → Nat) (l : List (Nat × Value)) : List (Nat × Value) := l.map (fun q => (q.1, ja_cv ad q.2))
/-- which fields of a class are references -/
def ja_kd (t : Nat) : List Bool := match t with
  | 0 => [false, false, false, false, true, true, true]
  | 1 => [true, true, true, false]
  | 2 => [true, true]
  | 3 => [true, true, true, false, false]
  | 4 => [true, false, false, true, true]
  | 5 => [false, false, true, false, true, false, true, true, false]
  | 6 => [false, false, true, false, false, false]
  | 7 => [true, false, true, true, true, true, false, true, false, true, true, false, false, true, false, false]
  | _ => [false, false, false, true, true, true, true, true, false, false, true, false, false, false, false, false, false, false, false, false, false, true, true, true, true, true, true, false, false, false, true, true, false, true, false, true, false, false, false, true, true, false]
def ja_fl (Λ : ja_L) (σ : ja_S) (ad : Nat → Nat) (k t : Nat) : List Value := (List.range (ja_kd t).length).map (fun j => if (ja_kd t).getD j false = true then va_rf ((Λ.2.2.2 k j).map ad) else .int (σ.1 k j))
def ja_ce (cI cJ : ClassId) (Λ : ja_L) (σ : ja_S) (ad : Nat → Nat) (k : Nat) : va_E := match Λ.2.2.1 k with
  | (0, n) => .inl (cI, n, .inl (σ.1 k))
  | (1, n) => .inl (cJ, n, .inr (.inl (σ.2 k)))
  | (t + 2, _) => .inr (t, ja_fl Λ σ ad k t)
def ja_wl (cI cJ : ClassId) (Λ : ja_L) (σ : ja_S) (ad : Nat → Nat) : va_W := (List.range Λ.1).map (fun k => (ad k, ja_ce cI cJ Λ σ ad k))
theorem ja_wl_at {cI cJ : ClassId} {Λ : ja_L} {σ : ja_S} {ad : Nat → Nat} {k : Nat} (h : k < Λ.1) : (ja_wl cI cJ Λ σ ad)[k]? = some (ad k, ja_ce cI cJ Λ σ ad k) := by
  simp [ja_wl, h]
theorem ja_wl_set {cI cJ : ClassId} {Λ Λ' : ja_L} {σ σ' : ja_S} {ad : Nat → Nat} {k : Nat} {e : va_E} (hn : Λ'.1 = Λ.1) (he : ja_ce cI cJ Λ' σ' ad k = e) (ho : ∀ j, j ≠ k → ja_ce cI cJ Λ' σ' ad j = ja_ce cI cJ Λ σ ad j) : (ja_wl cI cJ Λ σ ad).set k (ad k, e) = ja_wl cI cJ Λ' σ' ad := by
  apply List.ext_getElem?
  intro i
  by_cases hi : i < Λ.1
  · rw [ja_wl_at (by omega)]
    by_cases hk : k = i
    · subst hk
      rw [List.getElem?_set_self (by simp [ja_wl, hi]), he]
    · rw [List.getElem?_set_ne hk, ja_wl_at hi, ho i (Ne.symm hk)]
  · rw [List.getElem?_eq_none (by simp [ja_wl]; omega), List.getElem?_eq_none (by simp [ja_wl]; omega)]
theorem ja_wl_push {cI cJ : ClassId} {Λ Λ' : ja_L} {σ σ' : ja_S} {ad ad' : Nat → Nat} {q : Nat} {e : va_E} (hn : Λ'.1 = Λ.1 + 1) (hq : ad' Λ.1 = q) (he : ja_ce cI cJ Λ' σ' ad' Λ.1 = e) (ha : ∀ j, j < Λ.1 → ad' j = ad j) (ho : ∀ j, j < Λ.1 → ja_ce cI cJ Λ' σ' ad' j = ja_ce cI cJ Λ σ ad j) : ja_wl cI cJ Λ σ ad ++ [(q, e)] = ja_wl cI cJ Λ' σ' ad' := by
  unfold ja_wl
  rw [hn, List.range_succ, List.map_append, List.map_singleton, hq, he]
  congr 1
  apply List.map_congr_left
  intro j hj
  have hj' : j < Λ.1 := List.mem_range.mp hj
  rw [ha j hj', ho j hj']
def ja_si (σ : ja_S) (k j : Nat) (v : Int32) : ja_S := (va_up σ.1 k (upd (σ.1 k) j v), σ.2)
def ja_sl (σ : ja_S) (k j : Nat) (v : Int64) : ja_S := (σ.1, va_up σ.2 k (vp_updL (σ.2 k) j v))
theorem ja_ce_i {cI cJ : ClassId} {Λ : ja_L} {σ : ja_S} {ad : Nat → Nat} {k : Nat} (h : (Λ.2.2.1 k).1 = 0) : ja_ce cI cJ Λ σ ad k = .inl (cI, (Λ.2.2.1 k).2, .inl (σ.1 k)) := by
  unfold ja_ce
  generalize Λ.2.2.1 k = q at h ⊢
  obtain ⟨a, b⟩ := q
  cases h
  rfl
theorem ja_ce_l {cI cJ : ClassId} {Λ : ja_L} {σ : ja_S} {ad : Nat → Nat} {k : Nat} (h : (Λ.2.2.1 k).1 = 1) : ja_ce cI cJ Λ σ ad k = .inl (cJ, (Λ.2.2.1 k).2, .inr (.inl (σ.2 k))) := by
  unfold ja_ce
  generalize Λ.2.2.1 k = q at h ⊢
  obtain ⟨a, b⟩ := q
  cases h
  rfl
theorem ja_ce_o {cI cJ : ClassId} {Λ : ja_L} {σ : ja_S} {ad : Nat → Nat} {k t : Nat} (h : (Λ.2.2.1 k).1 = t + 2) : ja_ce cI cJ Λ σ ad k = .inr (t, ja_fl Λ σ ad k t) := by
  unfold ja_ce
  generalize Λ.2.2.1 k = q at h ⊢
  obtain ⟨a, b⟩ := q
  cases h
  rfl
theorem ja_fl_at {Λ : ja_L} {σ : ja_S} {ad : Nat → Nat} {k t j : Nat} (h : j < (ja_kd t).length) : (ja_fl Λ σ ad k t)[j]? = some (if (ja_kd t).getD j false = true then va_rf ((Λ.2.2.2 k j).map ad) else .int (σ.1 k j)) := by
  simp [ja_fl, h]
theorem ja_fl_len {Λ : ja_L} {σ : ja_S} {ad : Nat → Nat} {k t : Nat} : (ja_fl Λ σ ad k t).length = (ja_kd t).length := by simp [ja_fl]
theorem ja_fl_set {Λ Λ' : ja_L} {σ σ' : ja_S} {ad : Nat → Nat} {k t j : Nat} {v : Value} (hv : (if (ja_kd t).getD j false = true then va_rf ((Λ'.2.2.2 k j).map ad) else .int (σ'.1 k j)) = v) (ho : ∀ i, i ≠ j → Λ'.2.2.2 k i = Λ.2.2.2 k i ∧ σ'.1 k i = σ.1 k i) : (ja_fl Λ σ ad k t).set j v = ja_fl Λ' σ' ad k t := by
  apply List.ext_getElem?
  intro i
  by_cases hi : i < (ja_kd t).length
  · rw [ja_fl_at hi]
    by_cases hk : j = i
    · subst hk
      rw [List.getElem?_set_self (by rw [ja_fl_len]; exact hi), hv]
    · rw [List.getElem?_set_ne hk, ja_fl_at hi, (ho i (Ne.symm hk)).1, (ho i (Ne.symm hk)).2]
  · rw [List.getElem?_eq_none (by rw [List.length_set, ja_fl_len]; omega), List.getElem?_eq_none (by rw [ja_fl_len]; omega)]
theorem ja_cat (ad : Nat → Nat) (v : Value) : (ja_cv ad v).category = v.category := by cases v <;> rfl
theorem ja_cats (ad : Nat → Nat) (st : List Value) : ((st.map (ja_cv ad)).map fun v => v.category).sum = (st.map fun v => v.category).sum := by
  induction st with
  | nil => rfl
  | cons a l ih => simp only [List.map_cons, List.sum_cons, ja_cat, ih]
theorem ja_cl_f1 (ad : Nat → Nat) (l : List (Nat × Value)) (i : Nat) : (ja_cl ad l).filter (fun q => !(q.1 == i) && !(q.1 + 1 == i && q.2.category == 2)) = ja_cl ad (l.filter (fun q => !(q.1 == i) && !(q.1 + 1 == i && q.2.category == 2))) := by
  unfold ja_cl
  rw [List.filter_map]
  congr 1
  apply List.filter_congr
  intro q _
  simp [ja_cat]
theorem ja_cl_f2 (ad : Nat → Nat) (l : List (Nat × Value)) (i : Nat) : (ja_cl ad l).filter (fun q => !(q.1 == i) && (!(q.1 == i + 1) && !(q.1 + 1 == i && q.2.category == 2))) = ja_cl ad (l.filter (fun q => !(q.1 == i) && (!(q.1 == i + 1) && !(q.1 + 1 == i && q.2.category == 2)))) := by
  unfold ja_cl
  rw [List.filter_map]
  congr 1
  apply List.filter_congr
  intro q _
  simp [ja_cat]
theorem ja_cl_at {ad : Nat → Nat} {l : List (Nat × Value)} {k i : Nat} {v : Value} (h : l[k]? = some (i, v)) : (ja_cl ad l)[k]? = some (i, ja_cv ad v) := by
  simp [ja_cl, h]
end
section
def R_History : String := "InterlockingFrame$History"
def F_History : u_T := fun k => match k with
  | 0 => ("InterlockingFrame$History", "total", "I", false)
  | 1 => ("InterlockingFrame$History", "takenDeed", "I", false)
  | 2 => ("InterlockingFrame$History", "takenSubject", "I", false)
  | 3 => ("InterlockingFrame$History", "takenRule", "I", false)
  | 4 => ("InterlockingFrame$History", "deeds", "[I", true)
  | 5 => ("InterlockingFrame$History", "subjects", "[I", true)
  | _ => ("InterlockingFrame$History", "rules", "[I", true)
def t_History : Nat → FieldType := fun k => match k with
  | 0 => .int
  | 1 => .int
  | 2 => .int
  | 3 => .int
  | 4 => .array .int
  | 5 => .array .int
  | _ => .array .int
theorem n_History : ∀ a, a < 7 → ∀ b, b < 7 → a ≠ b → (F_History a).2.1 ≠ (F_History b).2.1 := by decide +kernel
theorem t_History_ok : ∀ k, k < 7 → parseFieldDescriptor (F_History k).2.2.1 = some (t_History k) := by decide +kernel
def R_LockPlanner : String := "InterlockingFrame$LockPlanne\x72"
def F_LockPlanner : u_T := fun k => match k with
  | 0 => ("InterlockingFrame$LockPlanne\x72", "trial", "LInterlockingFrame$Search;", true)
  | 1 => ("InterlockingFrame$LockPlanne\x72", "grown", "LInterlockingFrame$Locking;", true)
  | 2 => ("InterlockingFrame$LockPlanne\x72", "locks", "[I", true)
  | _ => ("InterlockingFrame$LockPlanne\x72", "lockTotal", "I", false)
def t_LockPlanner : Nat → FieldType := fun k => match k with
  | 0 => .object "InterlockingFrame$Search"
  | 1 => .object "InterlockingFrame$Locking"
  | 2 => .array .int
  | _ => .int
theorem n_LockPlanner : ∀ a, a < 4 → ∀ b, b < 4 → a ≠ b → (F_LockPlanner a).2.1 ≠ (F_LockPlanner b).2.1 := by decide +kernel
theorem t_LockPlanner_ok : ∀ k, k < 4 → parseFieldDescriptor (F_LockPlanner k).2.2.1 = some (t_LockPlanner k) := by decide +kernel
def R_Locking : String := "InterlockingFrame$Locking"
def F_Locking : u_T := fun k => match k with
  | 0 => ("InterlockingFrame$Locking", "illegal", "[J", true)
  | _ => ("InterlockingFrame$Locking", "held", "[J", true)
def t_Locking : Nat → FieldType := fun k => match k with
  | 0 => .array .long
  | _ => .array .long
theorem n_Locking : ∀ a, a < 2 → ∀ b, b < 2 → a ≠ b → (F_Locking a).2.1 ≠ (F_Locking b).2.1 := by decide +kernel
theorem t_Locking_ok : ∀ k, k < 2 → parseFieldDescriptor (F_Locking k).2.2.1 = some (t_Locking k) := by decide +kernel
def R_Merger : String := "InterlockingFrame$Merge\x72"
def F_Merger : u_T := fun k => match k with
  | 0 => ("InterlockingFrame$Merge\x72", "trial", "LInterlockingFrame$Search;", true)
  | 1 => ("InterlockingFrame$Merge\x72", "merged", "LInterlockingFrame$Sheet;", true)
  | 2 => ("InterlockingFrame$Merge\x72", "attempted", "LInterlockingFrame$Sheet;", true)
  | 3 => ("InterlockingFrame$Merge\x72", "settable", "I", false)
  | _ => ("InterlockingFrame$Merge\x72", "open", "I", false)
def t_Merger : Nat → FieldType := fun k => match k with
  | 0 => .object "InterlockingFrame$Search"
  | 1 => .object "InterlockingFrame$Sheet"
  | 2 => .object "InterlockingFrame$Sheet"
  | 3 => .int
  | _ => .int
theorem n_Merger : ∀ a, a < 5 → ∀ b, b < 5 → a ≠ b → (F_Merger a).2.1 ≠ (F_Merger b).2.1 := by decide +kernel
theorem t_Merger_ok : ∀ k, k < 5 → parseFieldDescriptor (F_Merger k).2.2.1 = some (t_Merger k) := by decide +kernel
def R_Search : String := "InterlockingFrame$Search"
def F_Search : u_T := fun k => match k with
  | 0 => ("InterlockingFrame$Search", "locking", "LInterlockingFrame$Locking;", true)
  | 1 => ("InterlockingFrame$Search", "total", "I", false)
  | 2 => ("InterlockingFrame$Search", "movable", "I", false)
  | 3 => ("InterlockingFrame$Search", "orde\x72", "[I", true)
  | _ => ("InterlockingFrame$Search", "ways", "[I", true)
def t_Search : Nat → FieldType := fun k => match k with
  | 0 => .object "InterlockingFrame$Locking"
  | 1 => .int
  | 2 => .int
  | 3 => .array .int
  | _ => .array .int
theorem n_Search : ∀ a, a < 5 → ∀ b, b < 5 → a ≠ b → (F_Search a).2.1 ≠ (F_Search b).2.1 := by decide +kernel
theorem t_Search_ok : ∀ k, k < 5 → parseFieldDescriptor (F_Search k).2.2.1 = some (t_Search k) := by decide +kernel
def R_Sheet : String := "InterlockingFrame$Sheet"
def F_Sheet : u_T := fun k => match k with
  | 0 => ("InterlockingFrame$Sheet", "levers", "I", false)
  | 1 => ("InterlockingFrame$Sheet", "mergedLevers", "I", false)
  | 2 => ("InterlockingFrame$Sheet", "rules", "[I", true)
  | 3 => ("InterlockingFrame$Sheet", "ruleTotal", "I", false)
  | 4 => ("InterlockingFrame$Sheet", "routes", "[I", true)
  | 5 => ("InterlockingFrame$Sheet", "routeTotal", "I", false)
  | 6 => ("InterlockingFrame$Sheet", "conflictFirst", "[I", true)
  | 7 => ("InterlockingFrame$Sheet", "conflictSecond", "[I", true)
  | _ => ("InterlockingFrame$Sheet", "conflictTotal", "I", false)
def t_Sheet : Nat → FieldType := fun k => match k with
  | 0 => .int
  | 1 => .int
  | 2 => .array .int
  | 3 => .int
  | 4 => .array .int
  | 5 => .int
  | 6 => .array .int
  | 7 => .array .int
  | _ => .int
theorem n_Sheet : ∀ a, a < 9 → ∀ b, b < 9 → a ≠ b → (F_Sheet a).2.1 ≠ (F_Sheet b).2.1 := by decide +kernel
theorem t_Sheet_ok : ∀ k, k < 9 → parseFieldDescriptor (F_Sheet k).2.2.1 = some (t_Sheet k) := by decide +kernel
def R_SheetParser : String := "InterlockingFrame$SheetParse\x72"
def F_SheetParser : u_T := fun k => match k with
  | 0 => ("InterlockingFrame$SheetParse\x72", "errorCode", "I", false)
  | 1 => ("InterlockingFrame$SheetParse\x72", "errorOffset", "I", false)
  | 2 => ("InterlockingFrame$SheetParse\x72", "text", "[I", true)
  | 3 => ("InterlockingFrame$SheetParse\x72", "length", "I", false)
  | 4 => ("InterlockingFrame$SheetParse\x72", "tokenStart", "I", false)
  | _ => ("InterlockingFrame$SheetParse\x72", "tokenEnd", "I", false)
def t_SheetParser : Nat → FieldType := fun k => match k with
  | 0 => .int
  | 1 => .int
  | 2 => .array .int
  | 3 => .int
  | 4 => .int
  | _ => .int
theorem n_SheetParser : ∀ a, a < 6 → ∀ b, b < 6 → a ≠ b → (F_SheetParser a).2.1 ≠ (F_SheetParser b).2.1 := by decide +kernel
theorem t_SheetParser_ok : ∀ k, k < 6 → parseFieldDescriptor (F_SheetParser k).2.2.1 = some (t_SheetParser k) := by decide +kernel
def R_Frame : String := "InterlockingFrame"
def F_Frame : u_T := fun k => match k with
  | 0 => ("InterlockingFrame", "text", "[I", true)
  | 1 => ("InterlockingFrame", "textLength", "I", false)
  | 2 => ("InterlockingFrame", "parse\x72", "LInterlockingFrame$SheetParser;", true)
  | 3 => ("InterlockingFrame", "sheet", "LInterlockingFrame$Sheet;", true)
  | 4 => ("InterlockingFrame", "draft", "LInterlockingFrame$Sheet;", true)
  | 5 => ("InterlockingFrame", "history", "LInterlockingFrame$History;", true)
  | 6 => ("InterlockingFrame", "current", "I", false)
  | 7 => ("InterlockingFrame", "home", "LInterlockingFrame$Search;", true)
  | 8 => ("InterlockingFrame", "homeIsKnown", "Z", false)
  | 9 => ("InterlockingFrame", "trial", "LInterlockingFrame$Search;", true)
  | 10 => ("InterlockingFrame", "planne\x72", "LInterlockingFrame$LockPlanner;", true)
  | 11 => ("InterlockingFrame", "planIsKnown", "Z", false)
  | 12 => ("InterlockingFrame", "planSize", "I", false)
  | 13 => ("InterlockingFrame", "merge\x72", "LInterlockingFrame$Merger;", true)
  | 14 => ("InterlockingFrame", "mergingIsKnown", "Z", false)
  | _ => ("InterlockingFrame", "leversLeft", "I", false)
def t_Frame : Nat → FieldType := fun k => match k with
  | 0 => .array .int
  | 1 => .int
  | 2 => .object "InterlockingFrame$SheetParse\x72"
  | 3 => .object "InterlockingFrame$Sheet"
  | 4 => .object "InterlockingFrame$Sheet"
  | 5 => .object "InterlockingFrame$History"
  | 6 => .int
  | 7 => .object "InterlockingFrame$Search"
  | 8 => .boolean
  | 9 => .object "InterlockingFrame$Search"
  | 10 => .object "InterlockingFrame$LockPlanne\x72"
  | 11 => .boolean
  | 12 => .int
  | 13 => .object "InterlockingFrame$Merge\x72"
  | 14 => .boolean
  | _ => .int
theorem n_Frame : ∀ a, a < 16 → ∀ b, b < 16 → a ≠ b → (F_Frame a).2.1 ≠ (F_Frame b).2.1 := by decide +kernel
theorem t_Frame_ok : ∀ k, k < 16 → parseFieldDescriptor (F_Frame k).2.2.1 = some (t_Frame k) := by decide +kernel
def R_Model : String := "InterlockingFrameModel"
def F_Model : u_T := fun k => match k with
  | 0 => ("InterlockingFrameModel", "levers", "I", false)
  | 1 => ("InterlockingFrameModel", "routes", "I", false)
  | 2 => ("InterlockingFrameModel", "conflicts", "I", false)
  | 3 => ("InterlockingFrameModel", "s", "[I", true)
  | 4 => ("InterlockingFrameModel", "acts", "[I", true)
  | 5 => ("InterlockingFrameModel", "route", "[I", true)
  | 6 => ("InterlockingFrameModel", "first", "[I", true)
  | 7 => ("InterlockingFrameModel", "second", "[I", true)
  | 8 => ("InterlockingFrameModel", "actMany", "I", false)
  | 9 => ("InterlockingFrameModel", "thrown", "I", false)
  | 10 => ("InterlockingFrameModel", "tape", "[I", true)
  | 11 => ("InterlockingFrameModel", "taped", "I", false)
  | 12 => ("InterlockingFrameModel", "size", "I", false)
  | 13 => ("InterlockingFrameModel", "spot", "I", false)
  | 14 => ("InterlockingFrameModel", "wrong", "I", false)
  | 15 => ("InterlockingFrameModel", "wrongAt", "I", false)
  | 16 => ("InterlockingFrameModel", "numberAt", "I", false)
  | 17 => ("InterlockingFrameModel", "newLevers", "I", false)
  | 18 => ("InterlockingFrameModel", "newRules", "I", false)
  | 19 => ("InterlockingFrameModel", "newRoutes", "I", false)
  | 20 => ("InterlockingFrameModel", "newConflicts", "I", false)
  | 21 => ("InterlockingFrameModel", "newRule", "[I", true)
  | 22 => ("InterlockingFrameModel", "newRoute", "[I", true)
  | 23 => ("InterlockingFrameModel", "newFirst", "[I", true)
  | 24 => ("InterlockingFrameModel", "newSecond", "[I", true)
  | 25 => ("InterlockingFrameModel", "\x72", "[I", true)
  | 26 => ("InterlockingFrameModel", "way", "[I", true)
  | 27 => ("InterlockingFrameModel", "many", "I", false)
  | 28 => ("InterlockingFrameModel", "used", "I", false)
  | 29 => ("InterlockingFrameModel", "gone", "I", false)
  | 30 => ("InterlockingFrameModel", "fa\x72", "[I", true)
  | 31 => ("InterlockingFrameModel", "queue", "[I", true)
  | 32 => ("InterlockingFrameModel", "queued", "I", false)
  | 33 => ("InterlockingFrameModel", "added", "[I", true)
  | 34 => ("InterlockingFrameModel", "addedMany", "I", false)
  | 35 => ("InterlockingFrameModel", "targets", "[I", true)
  | 36 => ("InterlockingFrameModel", "targetMany", "I", false)
  | 37 => ("InterlockingFrameModel", "dueRoutes", "I", false)
  | 38 => ("InterlockingFrameModel", "dueConflicts", "I", false)
  | 39 => ("InterlockingFrameModel", "wasRule", "[I", true)
  | 40 => ("InterlockingFrameModel", "wasWay", "[I", true)
  | _ => ("InterlockingFrameModel", "wasGone", "I", false)
def t_Model : Nat → FieldType := fun k => match k with
  | 0 => .int
  | 1 => .int
  | 2 => .int
  | 3 => .array .int
  | 4 => .array .int
  | 5 => .array .int
  | 6 => .array .int
  | 7 => .array .int
  | 8 => .int
  | 9 => .int
  | 10 => .array .int
  | 11 => .int
  | 12 => .int
  | 13 => .int
  | 14 => .int
  | 15 => .int
  | 16 => .int
  | 17 => .int
  | 18 => .int
  | 19 => .int
  | 20 => .int
  | 21 => .array .int
  | 22 => .array .int
  | 23 => .array .int
  | 24 => .array .int
  | 25 => .array .int
  | 26 => .array .int
  | 27 => .int
  | 28 => .int
  | 29 => .int
  | 30 => .array .int
  | 31 => .array .int
  | 32 => .int
  | 33 => .array .int
  | 34 => .int
  | 35 => .array .int
  | 36 => .int
  | 37 => .int
  | 38 => .int
  | 39 => .array .int
  | 40 => .array .int
  | _ => .int
theorem n_Model : ∀ a, a < 42 → ∀ b, b < 42 → a ≠ b → (F_Model a).2.1 ≠ (F_Model b).2.1 := by decide +kernel
theorem t_Model_ok : ∀ k, k < 42 → parseFieldDescriptor (F_Model k).2.2.1 = some (t_Model k) := by decide +kernel
/-- words that a callee may take over -/
def ja_tb : List Cond := lw_tbl.filter goodWord
theorem ja_mem (i : Nat) {w : Cond} (h : lw_tbl[i]? = some w) (hg : goodWord w = true) : w ∈ ja_tb := List.mem_filter.mpr ⟨List.mem_of_getElem? h, hg⟩
theorem ja_good {c : Cond} (h : c ∈ ja_tb) : GoodIn ja_tb (c :: ja_tb) := by
  intro w hw
  rcases List.mem_cons.mp hw with rfl | hw
  · exact ⟨h, good_of_word (List.mem_filter.mp h).2⟩
  · exact ⟨hw, good_of_word (List.mem_filter.mp hw).2⟩
theorem ja_in (ws : List Cond) (ps : List Nat) (hp : ws = ps.filterMap (fun i => lw_tbl[i]?)) (hg : ws.all goodWord = true) : ∀ w ∈ ws, w ∈ ja_tb := by
  intro w hw
  have h1 := List.all_eq_true.mp hg w hw
  rw [hp] at hw
  obtain ⟨i, -, hi⟩ := List.mem_filterMap.mp hw
  exact ja_mem i hi h1
set_option maxRecDepth 20000 in
theorem i_History : ∀ w ∈ u_ws R_History F_History 7, w ∈ ja_tb := ja_in _ [195, 197, 199, 201, 203, 205, 207] (by decide +kernel) (by decide +kernel)
set_option maxRecDepth 20000 in
theorem i_LockPlanner : ∀ w ∈ u_ws R_LockPlanner F_LockPlanner 4, w ∈ ja_tb := ja_in _ [268, 270, 272, 274] (by decide +kernel) (by decide +kernel)
set_option maxRecDepth 20000 in
theorem i_Locking : ∀ w ∈ u_ws R_Locking F_Locking 2, w ∈ ja_tb := ja_in _ [224, 226] (by decide +kernel) (by decide +kernel)
set_option maxRecDepth 20000 in
theorem i_Merger : ∀ w ∈ u_ws R_Merger F_Merger 5, w ∈ ja_tb := ja_in _ [290, 292, 294, 296, 298] (by decide +kernel) (by decide +kernel)
set_option maxRecDepth 20000 in
theorem i_Search : ∀ w ∈ u_ws R_Search F_Search 5, w ∈ ja_tb := ja_in _ [243, 245, 247, 249, 251] (by decide +kernel) (by decide +kernel)
set_option maxRecDepth 20000 in
theorem i_Sheet : ∀ w ∈ u_ws R_Sheet F_Sheet 9, w ∈ ja_tb := ja_in _ [159, 161, 163, 165, 167, 169, 171, 173, 175] (by decide +kernel) (by decide +kernel)
set_option maxRecDepth 20000 in
theorem i_SheetParser : ∀ w ∈ u_ws R_SheetParser F_SheetParser 6, w ∈ ja_tb := ja_in _ [114, 116, 118, 120, 122, 124] (by decide +kernel) (by decide +kernel)
set_option maxRecDepth 20000 in
theorem i_Frame : ∀ w ∈ u_ws R_Frame F_Frame 16, w ∈ ja_tb := ja_in _ [317, 319, 321, 323, 325, 327, 329, 331, 333, 335, 337, 339, 341, 343, 345, 347] (by decide +kernel) (by decide +kernel)
set_option maxRecDepth 20000 in
theorem i_Model : ∀ w ∈ u_ws R_Model F_Model 42, w ∈ ja_tb := ja_in _ [1030, 1032, 1034, 1036, 1038, 1040, 1042, 1044, 1046, 1048, 1050, 1052, 1054, 1056, 1058, 1060, 1062, 1064, 1066, 1068, 1070, 1072, 1074, 1076, 1078, 1080, 1082, 1084, 1086, 1088, 1090, 1092, 1094, 1096, 1098, 1100, 1102, 1104, 1106, 1108, 1110, 1112] (by decide +kernel) (by decide +kernel)
abbrev classes : List vw_C := [(R_History, F_History, 7), (R_LockPlanner, F_LockPlanner, 4), (R_Locking, F_Locking, 2), (R_Merger, F_Merger, 5), (R_Search, F_Search, 5), (R_Sheet, F_Sheet, 9), (R_SheetParser, F_SheetParser, 6), (R_Frame, F_Frame, 16), (R_Model, F_Model, 42)]
end
section
/-! a method: code, locals, its class, its name, what it returns, frames and words that it needs -/
abbrev ja_M : Type := ByteArray × Nat × String × String × Option FieldType × Nat × Nat
abbrev ja_G : Type := Program × Launch × Env × Room × State × MethodId × Array Value × List Frame × Method × Code
abbrev ja_X : Type := va_G × ClassId × ClassId
/-- where it began: addresses, cells, slots, how many of both it may make, which cells are its -/
abbrev ja_B : Type := (Nat → Nat) × Nat × Nat × Nat × Nat × (Nat → Prop)
abbrev ja_C : Type := ja_G × ja_X × ja_B × (ja_Z → State → Prop) × Nat × (Nat → Int32)
def ja_rv (j : Nat) : Int64 := match j with
  | 0 => -6148914691236517206
  | 1 => -3689348814741910324
  | 2 => -1085102592571150096
  | 3 => -71777214294589696
  | 4 => -281470681808896
  | _ => -4294967296
/-- what lies outside and never changes: the static table, the text constants -/
def ja_F (nk : List (String × Nat × MethodName × String)) (N : Nat) (len : List Nat) (byt : List (List Int32)) (rf : Nat → String × Nat × String) (ad : Nat → Nat) (A : Nat → Prop) (U : State) (H : Heap) : Prop :=
  va_Z "InterlockingFrame$Locking" "REVERSED_IN_WORD" "[J" (.ref (ad 2000)) A U H ∧ va_T .long (ad 2000) 6 (fun j => .long (ja_rv j)) A U H ∧ va_Z "java/lang/String" "COMPACT_STRINGS" "Z" (.int 1) A U H ∧ (va_Z "jdk/internal/util/Preconditions" "SIOOBE_FORMATTE\x52" "Ljava/util/function/BiFunction;" .null A U H ∨ va_Z "jdk/internal/util/Preconditions" "SIOOBE_FORMATTE\x52" "Ljava/util/function/BiFunction;" (.ref (ad 2001)) A U H) ∧ vk_S N len byt (fun i => ad (1000 + i)) (fun i => ad (1100 + i)) A U H ∧ (∀ i, i < N → vk_R (rf i).1 (rf i).2.1 (rf i).2.2 (ad (1000 + i)) U) ∧ ∀ q ∈ nk, va_Nw (.methodLinkNest q.1 q.2.1 q.2.2.1 q.2.2.2) U
def ja_ln : List Nat := [6, 1, 5, 8, 5, 4, 8, 6, 5, 8, 65]
def ja_by : List (List Int32) := [[108, 101, 118, 101, 114, 115], [59], [108, 111, 99, 107, 115], [114, 101, 108, 101, 97, 115, 101, 115], [104, 111, 108, 100, 115], [119, 104, 101, 110], [114, 101, 118, 101, 114, 115, 101, 100], [110, 111, 114, 109, 97, 108], [114, 111, 117, 116, 101], [99, 111, 110, 102, 108, 105, 99, 116], [32, 108, 101, 118, 101, 114, 115, 32, 114, 111, 117, 116, 101, 32, 99, 111, 110, 102, 108, 105, 99, 116, 32, 119, 104, 101, 110, 32, 108, 111, 99, 107, 115, 32, 114, 101, 108, 101, 97, 115, 101, 115, 32, 104, 111, 108, 100, 115, 32, 110, 111, 114, 109, 97, 108, 32, 114, 101, 118, 101, 114, 115, 101, 100, 32]]
def ja_sr (i : Nat) : String × Nat × String := match i with
  | 0 => ("InterlockingFrame$SheetParse\x72", 51, "levers")
  | 1 => ("InterlockingFrame$SheetParse\x72", 70, ";")
  | 2 => ("InterlockingFrame$SheetParse\x72", 123, "locks")
  | 3 => ("InterlockingFrame$SheetParse\x72", 125, "releases")
  | 4 => ("InterlockingFrame$SheetParse\x72", 127, "holds")
  | 5 => ("InterlockingFrame$SheetParse\x72", 107, "when")
  | 6 => ("InterlockingFrame$SheetParse\x72", 129, "reversed")
  | 7 => ("InterlockingFrame$SheetParse\x72", 131, "normal")
  | 8 => ("InterlockingFrame$SheetParse\x72", 82, "route")
  | 9 => ("InterlockingFrame$SheetParse\x72", 90, "conflict")
  | _ => ("InterlockingFrameModel", 104, " levers route conflict when locks releases holds normal reversed ")
def ja_nk : List (String × Nat × MethodName × String) := [("InterlockingFrame", 28, ⟨"InterlockingFrame$Sheet", "<init>", "()V"⟩, "InterlockingFrame"), ("InterlockingFrame", 38, ⟨"InterlockingFrame$History", "<init>", "()V"⟩, "InterlockingFrame"), ("InterlockingFrame$Search", 11, ⟨"InterlockingFrame$Locking", "<init>", "()V"⟩, "InterlockingFrame"), ("InterlockingFrame$LockPlanne\x72", 11, ⟨"InterlockingFrame$Locking", "<init>", "()V"⟩, "InterlockingFrame"), ("InterlockingFrame$Merge\x72", 11, ⟨"InterlockingFrame$Sheet", "<init>", "()V"⟩, "InterlockingFrame"), ("InterlockingFrame$LockPlanne\x72", 54, ⟨"InterlockingFrame", "leverPai\x72", "(II)I"⟩, "InterlockingFrame")]
def ja_SF : (Nat → Nat) → (Nat → Prop) → State → Heap → Prop := ja_F ja_nk 11 ja_ln ja_by ja_sr
theorem ja_SF_moved {ad : Nat → Nat} {A : Nat → Prop} {u U : State} {H : Heap} (hW : u.WarmedH U.vm) (h : ja_SF ad A u H) : ja_SF ad A U H := by
  obtain ⟨h1, h2, h3, h4, h5, h6, h7⟩ := h
  exact ⟨va_Z.moved hW.alike h1, va_T.moved hW.alike h2, va_Z.moved hW.alike h3, h4.imp (va_Z.moved hW.alike) (va_Z.moved hW.alike), vk_S.moved hW.alike h5, fun i hi => vk_R.warm hW (h6 i hi), fun q hq => va_Nw.warmM hW (h7 q hq)⟩
theorem ja_SF_same {ad : Nat → Nat} {A : Nat → Prop} {u U : State} {H : Heap} (hv : u.vm = U.vm) (h : ja_SF ad A u H) : ja_SF ad A U H := by
  obtain ⟨h1, h2, h3, h4, h5, h6, h7⟩ := h
  have hA : u.vm.Alike U.vm := hv ▸ Vm.Alike.refl u.vm
  exact ⟨va_Z.moved hA h1, va_T.moved hA h2, va_Z.moved hA h3, h4.imp (va_Z.moved hA) (va_Z.moved hA), vk_S.moved hA h5, fun i hi => vk_R.same hv.symm (h6 i hi), fun q hq => va_Nw.same rfl hv (h7 q hq)⟩
theorem ja_SF_kept {ad : Nat → Nat} {A : Nat → Prop} {U : State} {H H1 : Heap} (h : ja_SF ad A U H) (hq : ∀ a : Nat, a < H.size → ¬ A a → H1[a]? = H[a]?) : ja_SF ad A U H1 := by
  obtain ⟨h1, h2, h3, h4, h5, h6, h7⟩ := h
  exact ⟨h1.kept hq, h2.kept hq, h3.kept hq, h4.imp (fun h => h.kept hq) (fun h => h.kept hq), h5.kept hq, h6, h7⟩
theorem ja_SF_narrow {ad : Nat → Nat} {A B : Nat → Prop} {U : State} {H : Heap} (h : ja_SF ad A U H) (hAB : ∀ q, B q → A q) : ja_SF ad B U H := by
  obtain ⟨h1, h2, h3, h4, h5, h6, h7⟩ := h
  exact ⟨h1.narrow hAB, h2.narrow hAB, h3.narrow hAB, h4.imp (fun h => h.narrow hAB) (fun h => h.narrow hAB), h5.narrow hAB, h6, h7⟩
theorem ja_SF_ad {ad ad' : Nat → Nat} {A : Nat → Prop} {U : State} {H : Heap} (h : ja_SF ad A U H) (he : ∀ k, 1000 ≤ k → ad' k = ad k) : ja_SF ad' A U H := by
  obtain ⟨h1, h2, h3, h4, h5, h6, h7⟩ := h
  have e : (fun i => ad' (1000 + i)) = fun i => ad (1000 + i) := funext fun i => he _ (by omega)
  have e2 : (fun i => ad' (1100 + i)) = fun i => ad (1100 + i) := funext fun i => he _ (by omega)
  refine ⟨?_, ?_, h3, ?_, ?_, fun i hi => ?_, h7⟩
  · rw [he 2000 (by omega)]; exact h1
  · rw [he 2000 (by omega)]; exact h2
  · rw [he 2001 (by omega)]; exact h4
  · rw [e, e2]; exact h5
  · rw [he _ (by omega)]; exact h6 i hi
def ja_wf (Λ : ja_L) : Prop := ∀ k j i, k < Λ.1 → Λ.2.2.2 k j = some i → i < Λ.1
def ja_inv (C : ja_C) (ad : Nat → Nat) (Λ : ja_L) (σ : ja_S) (H : Heap) (locs : List Loc) : Prop := match C with
  | ⟨⟨_, _, _, _, s, _, _, _, _, _⟩, ⟨D, cI, cJ⟩, ⟨ad0, n0, sl0, MC, MS, A⟩, _, _⟩ =>
    va_P D classes (ja_wl cI cJ Λ σ ad) H ∧ va_D A (ja_wl cI cJ Λ σ ad) ∧ va_S A s.heap H locs ∧ (∀ k, k < n0 ∨ Λ.1 ≤ k → ad k = ad0 k) ∧ (n0 ≤ Λ.1 ∧ sl0 ≤ Λ.2.1 ∧ Λ.1 - n0 ≤ MC ∧ Λ.2.1 - sl0 ≤ MS ∧ Λ.1 ≤ 1000 ∧ ja_wf Λ)
def ja_W (C : ja_C) (Λ : ja_L) (H : Heap) (locs : List Loc) (zz : ja_Z) (pc : Nat) (ls : Array Slot) (st : List Value) : Prop := match C with
  | ⟨⟨p, l, e, R, s, m, args, below, meth, c⟩, _, ⟨_, n0, sl0, _, _, _⟩, Qf, _⟩ => W p l e R s m args below meth c H locs (Λ.1 - n0) (Λ.2.1 - sl0) (Qf zz) (F0 m pc ls st)
/-- what the instruction of a return must be, by what the method returns -/
def ja_ri (r : Option FieldType) (v : Option Value) : Option Instr := match r, v with
  | none, none => some .return_
  | some .int, some (.int _) => some .ireturn
  | some .boolean, some (.int x) => if x = 0 ∨ x = 1 then some .ireturn else none
  | some .byte, some (.int x) => if narrow .byte (.int x) = .int x then some .ireturn else none
  | some .char, some (.int x) => if narrow .char (.int x) = .int x then some .ireturn else none
  | some .long, some (.long _) => some .lreturn
  | some (.object _), some (.ref _) => some .areturn
  | _, _ => none
def ja_ok (M : ja_M) (C : ja_C) : Prop := match C with
  | ⟨⟨p, _, _, R, s, m, args, _, meth, c⟩, ⟨D, cI, cJ⟩, ⟨ad0, _, _, MC, MS, A⟩, _, ⟨L, xs⟩⟩ =>
    CallFix p m c M.1 M.2.1 s args ja_tb M.2.2.1 ∧ va_K D classes [(cI, .int), (cJ, .long)] s ∧ (∀ q, s.heap.size ≤ q → A q) ∧ ja_SF ad0 A s s.heap ∧ (M.2.2.2.2.2.1 ≤ R.frames ∧ M.2.2.2.2.2.2 ≤ R.locals ∧ MC ≤ R.cells ∧ MS ≤ R.slots) ∧ (M.2.2.2.1 = "<init>" → meth.name = "<init>") ∧ (L = 0 ∨ va_X (ad0 3000) L xs s s.heap ∧ ad0 3000 < s.heap.size ∧ ¬ A (ad0 3000)) ∧
    ∀ v ad Λ σ H locs pc ls, decode M.1 pc = .ok ((ja_ri M.2.2.2.2.1 v).getD .nop, 1) → (ja_ri M.2.2.2.2.1 v).isSome = true → ja_inv C ad Λ σ H locs → ja_W C Λ H locs (v, Λ, σ) pc ls (v.toList.map (ja_cv ad))
/-- from here the method comes to its end with zz -/
def ja_J (M : ja_M) (C : ja_C) (pc : Nat) (lv : List (Nat × Value)) (st : List Value) (Λ : ja_L) (σ : ja_S) (zz : ja_Z) : Prop :=
  ja_ok M C → ∀ ad H locs ls, ja_inv C ad Λ σ H locs → lv_has ls M.2.1 (ja_cl ad lv) → ja_W C Λ H locs zz pc ls (st.map (ja_cv ad))
section JA
variable {M : ja_M} {C : ja_C} {pc : Nat} {lv lv' : List (Nat × Value)} {st : List Value} {Λ : ja_L} {σ : ja_S} {zz : ja_Z}
theorem ja_iconst {n : Int} {v : Int32} (hd : decode M.1 pc = .ok (.iconst n, 1)) (hv : Int32.ofInt n = v) (k : ja_J M C (pc + 1) lv (.int v :: st) Λ σ zz) : ja_J M C pc lv (st) Λ σ zz := by
  obtain ⟨⟨p, l, e, R, s, m, args, below, meth, c⟩, ⟨D, cI, cJ⟩, ⟨ad0, n0, sl0, MC, MS, A⟩, Qf, L, xs⟩ := C
  intro ok ad H locs ls iv hl
  exact lv_iconst  (rest := st.map (ja_cv ad)) ok.1.1 ok.1.2.1 hd hv (k ok ad H locs ls iv hl)
theorem ja_bipush {n : Int} {v : Int32} (hd : decode M.1 pc = .ok (.bipush n, 2)) (hv : (Int8.ofInt n).toInt32 = v) (k : ja_J M C (pc + 2) lv (.int v :: st) Λ σ zz) : ja_J M C pc lv (st) Λ σ zz := by
  obtain ⟨⟨p, l, e, R, s, m, args, below, meth, c⟩, ⟨D, cI, cJ⟩, ⟨ad0, n0, sl0, MC, MS, A⟩, Qf, L, xs⟩ := C
  intro ok ad H locs ls iv hl
  exact lv_bipush  (rest := st.map (ja_cv ad)) ok.1.1 ok.1.2.1 hd hv (k ok ad H locs ls iv hl)
theorem ja_sipush {n : Int} {v : Int32} (hd : decode M.1 pc = .ok (.sipush n, 3)) (hv : (Int16.ofInt n).toInt32 = v) (k : ja_J M C (pc + 3) lv (.int v :: st) Λ σ zz) : ja_J M C pc lv (st) Λ σ zz := by
  obtain ⟨⟨p, l, e, R, s, m, args, below, meth, c⟩, ⟨D, cI, cJ⟩, ⟨ad0, n0, sl0, MC, MS, A⟩, Qf, L, xs⟩ := C
  intro ok ad H locs ls iv hl
  exact lv_sipush  (rest := st.map (ja_cv ad)) ok.1.1 ok.1.2.1 hd hv (k ok ad H locs ls iv hl)
theorem ja_lconst {n : Fin 2} {v : Int64} (hd : decode M.1 pc = .ok (.lconst n, 1)) (hv : Int64.ofNat (n : Nat) = v) (k : ja_J M C (pc + 1) lv (.long v :: st) Λ σ zz) : ja_J M C pc lv (st) Λ σ zz := by
  obtain ⟨⟨p, l, e, R, s, m, args, below, meth, c⟩, ⟨D, cI, cJ⟩, ⟨ad0, n0, sl0, MC, MS, A⟩, Qf, L, xs⟩ := C
  intro ok ad H locs ls iv hl
  exact lv_lconst  (rest := st.map (ja_cv ad)) ok.1.1 ok.1.2.1 hd hv (k ok ad H locs ls iv hl)
theorem ja_iload_n {f : Fin 4} {i : Nat} {x : Int32} (q : Nat) (hd : decode M.1 pc = .ok (.iload_n f, 1)) (hi : (f : Nat) = i) (hq : lv[q]? = some (i, .int x)) (k : ja_J M C (pc + 1) lv (.int x :: st) Λ σ zz) : ja_J M C pc lv (st) Λ σ zz := by
  obtain ⟨⟨p, l, e, R, s, m, args, below, meth, c⟩, ⟨D, cI, cJ⟩, ⟨ad0, n0, sl0, MC, MS, A⟩, Qf, L, xs⟩ := C
  intro ok ad H locs ls iv hl
  exact lv_iload_n  (rest := st.map (ja_cv ad)) ok.1.1 ok.1.2.1 hd hi (lv_at hl q (ja_cl_at hq)) (k ok ad H locs ls iv hl)
theorem ja_lload_n {f : Fin 4} {i : Nat} {x : Int64} (q : Nat) (hd : decode M.1 pc = .ok (.lload_n f, 1)) (hi : (f : Nat) = i) (hq : lv[q]? = some (i, .long x)) (k : ja_J M C (pc + 1) lv (.long x :: st) Λ σ zz) : ja_J M C pc lv (st) Λ σ zz := by
  obtain ⟨⟨p, l, e, R, s, m, args, below, meth, c⟩, ⟨D, cI, cJ⟩, ⟨ad0, n0, sl0, MC, MS, A⟩, Qf, L, xs⟩ := C
  intro ok ad H locs ls iv hl
  exact lv_lload_n  (rest := st.map (ja_cv ad)) ok.1.1 ok.1.2.1 hd hi (lv_at hl q (ja_cl_at hq)) (k ok ad H locs ls iv hl)
theorem ja_aload_n {f : Fin 4} {i : Nat} {x : Nat} (q : Nat) (hd : decode M.1 pc = .ok (.aload_n f, 1)) (hi : (f : Nat) = i) (hq : lv[q]? = some (i, .ref x)) (k : ja_J M C (pc + 1) lv (.ref x :: st) Λ σ zz) : ja_J M C pc lv (st) Λ σ zz := by
  obtain ⟨⟨p, l, e, R, s, m, args, below, meth, c⟩, ⟨D, cI, cJ⟩, ⟨ad0, n0, sl0, MC, MS, A⟩, Qf, L, xs⟩ := C
  intro ok ad H locs ls iv hl
  exact lv_aload_n  (rest := st.map (ja_cv ad)) ok.1.1 ok.1.2.1 hd hi (lv_at hl q (ja_cl_at hq)) (k ok ad H locs ls iv hl)
theorem ja_iload {i : Nat} {x : Int32} (q : Nat) (hd : decode M.1 pc = .ok (.iload i, 2)) (hq : lv[q]? = some (i, .int x)) (k : ja_J M C (pc + 2) lv (.int x :: st) Λ σ zz) : ja_J M C pc lv (st) Λ σ zz := by
  obtain ⟨⟨p, l, e, R, s, m, args, below, meth, c⟩, ⟨D, cI, cJ⟩, ⟨ad0, n0, sl0, MC, MS, A⟩, Qf, L, xs⟩ := C
  intro ok ad H locs ls iv hl
  exact lv_iload  (rest := st.map (ja_cv ad)) ok.1.1 ok.1.2.1 hd (lv_at hl q (ja_cl_at hq)) (k ok ad H locs ls iv hl)
theorem ja_lload {i : Nat} {x : Int64} (q : Nat) (hd : decode M.1 pc = .ok (.lload i, 2)) (hq : lv[q]? = some (i, .long x)) (k : ja_J M C (pc + 2) lv (.long x :: st) Λ σ zz) : ja_J M C pc lv (st) Λ σ zz := by
  obtain ⟨⟨p, l, e, R, s, m, args, below, meth, c⟩, ⟨D, cI, cJ⟩, ⟨ad0, n0, sl0, MC, MS, A⟩, Qf, L, xs⟩ := C
  intro ok ad H locs ls iv hl
  exact lv_lload  (rest := st.map (ja_cv ad)) ok.1.1 ok.1.2.1 hd (lv_at hl q (ja_cl_at hq)) (k ok ad H locs ls iv hl)
theorem ja_aload {i : Nat} {x : Nat} (q : Nat) (hd : decode M.1 pc = .ok (.aload i, 2)) (hq : lv[q]? = some (i, .ref x)) (k : ja_J M C (pc + 2) lv (.ref x :: st) Λ σ zz) : ja_J M C pc lv (st) Λ σ zz := by
  obtain ⟨⟨p, l, e, R, s, m, args, below, meth, c⟩, ⟨D, cI, cJ⟩, ⟨ad0, n0, sl0, MC, MS, A⟩, Qf, L, xs⟩ := C
  intro ok ad H locs ls iv hl
  exact lv_aload  (rest := st.map (ja_cv ad)) ok.1.1 ok.1.2.1 hd (lv_at hl q (ja_cl_at hq)) (k ok ad H locs ls iv hl)
theorem ja_istore_n {f : Fin 4} {i : Nat} {x : Int32} (hd : decode M.1 pc = .ok (.istore_n f, 1)) (hi : (f : Nat) = i) (hn : i < M.2.1) (hl' : (i, Value.int x) :: lv.filter (fun q => !(q.1 == i) && !(q.1 + 1 == i && q.2.category == 2)) = lv') (k : ja_J M C (pc + 1) lv' st Λ σ zz) : ja_J M C pc lv (.int x :: st) Λ σ zz := by
  obtain ⟨⟨p, l, e, R, s, m, args, below, meth, c⟩, ⟨D, cI, cJ⟩, ⟨ad0, n0, sl0, MC, MS, A⟩, Qf, L, xs⟩ := C
  intro ok ad H locs ls iv hl
  exact lv_istore_n (rest := st.map (ja_cv ad)) ok.1.1 ok.1.2.1 hd hi hl hn (by rw [ja_cl_f1, ← hl']; rfl) (fun ls' hl2 => k ok ad H locs ls' iv hl2)
theorem ja_lstore_n {f : Fin 4} {i : Nat} {x : Int64} (hd : decode M.1 pc = .ok (.lstore_n f, 1)) (hi : (f : Nat) = i) (hn : i + 1 < M.2.1) (hl' : (i, Value.long x) :: lv.filter (fun q => !(q.1 == i) && (!(q.1 == i + 1) && !(q.1 + 1 == i && q.2.category == 2))) = lv') (k : ja_J M C (pc + 1) lv' st Λ σ zz) : ja_J M C pc lv (.long x :: st) Λ σ zz := by
  obtain ⟨⟨p, l, e, R, s, m, args, below, meth, c⟩, ⟨D, cI, cJ⟩, ⟨ad0, n0, sl0, MC, MS, A⟩, Qf, L, xs⟩ := C
  intro ok ad H locs ls iv hl
  exact lv_lstore_n (rest := st.map (ja_cv ad)) ok.1.1 ok.1.2.1 hd hi hl hn (by rw [ja_cl_f2, ← hl']; rfl) (fun ls' hl2 => k ok ad H locs ls' iv hl2)
theorem ja_astore_n {f : Fin 4} {i : Nat} {x : Nat} (hd : decode M.1 pc = .ok (.astore_n f, 1)) (hi : (f : Nat) = i) (hn : i < M.2.1) (hl' : (i, Value.ref x) :: lv.filter (fun q => !(q.1 == i) && !(q.1 + 1 == i && q.2.category == 2)) = lv') (k : ja_J M C (pc + 1) lv' st Λ σ zz) : ja_J M C pc lv (.ref x :: st) Λ σ zz := by
  obtain ⟨⟨p, l, e, R, s, m, args, below, meth, c⟩, ⟨D, cI, cJ⟩, ⟨ad0, n0, sl0, MC, MS, A⟩, Qf, L, xs⟩ := C
  intro ok ad H locs ls iv hl
  exact lv_astore_n (rest := st.map (ja_cv ad)) ok.1.1 ok.1.2.1 hd hi hl hn (by rw [ja_cl_f1, ← hl']; rfl) (fun ls' hl2 => k ok ad H locs ls' iv hl2)
theorem ja_istore {i : Nat} {x : Int32} (hd : decode M.1 pc = .ok (.istore i, 2)) (hn : i < M.2.1) (hl' : (i, Value.int x) :: lv.filter (fun q => !(q.1 == i) && !(q.1 + 1 == i && q.2.category == 2)) = lv') (k : ja_J M C (pc + 2) lv' st Λ σ zz) : ja_J M C pc lv (.int x :: st) Λ σ zz := by
  obtain ⟨⟨p, l, e, R, s, m, args, below, meth, c⟩, ⟨D, cI, cJ⟩, ⟨ad0, n0, sl0, MC, MS, A⟩, Qf, L, xs⟩ := C
  intro ok ad H locs ls iv hl
  exact lv_istore (rest := st.map (ja_cv ad)) ok.1.1 ok.1.2.1 hd hl hn (by rw [ja_cl_f1, ← hl']; rfl) (fun ls' hl2 => k ok ad H locs ls' iv hl2)
theorem ja_lstore {i : Nat} {x : Int64} (hd : decode M.1 pc = .ok (.lstore i, 2)) (hn : i + 1 < M.2.1) (hl' : (i, Value.long x) :: lv.filter (fun q => !(q.1 == i) && (!(q.1 == i + 1) && !(q.1 + 1 == i && q.2.category == 2))) = lv') (k : ja_J M C (pc + 2) lv' st Λ σ zz) : ja_J M C pc lv (.long x :: st) Λ σ zz := by
  obtain ⟨⟨p, l, e, R, s, m, args, below, meth, c⟩, ⟨D, cI, cJ⟩, ⟨ad0, n0, sl0, MC, MS, A⟩, Qf, L, xs⟩ := C
  intro ok ad H locs ls iv hl
  exact lv_lstore (rest := st.map (ja_cv ad)) ok.1.1 ok.1.2.1 hd hl hn (by rw [ja_cl_f2, ← hl']; rfl) (fun ls' hl2 => k ok ad H locs ls' iv hl2)
theorem ja_astore {i : Nat} {x : Nat} (hd : decode M.1 pc = .ok (.astore i, 2)) (hn : i < M.2.1) (hl' : (i, Value.ref x) :: lv.filter (fun q => !(q.1 == i) && !(q.1 + 1 == i && q.2.category == 2)) = lv') (k : ja_J M C (pc + 2) lv' st Λ σ zz) : ja_J M C pc lv (.ref x :: st) Λ σ zz := by
  obtain ⟨⟨p, l, e, R, s, m, args, below, meth, c⟩, ⟨D, cI, cJ⟩, ⟨ad0, n0, sl0, MC, MS, A⟩, Qf, L, xs⟩ := C
  intro ok ad H locs ls iv hl
  exact lv_astore (rest := st.map (ja_cv ad)) ok.1.1 ok.1.2.1 hd hl hn (by rw [ja_cl_f1, ← hl']; rfl) (fun ls' hl2 => k ok ad H locs ls' iv hl2)
theorem ja_iinc {i : Nat} {n : Int} {x v : Int32} (q : Nat) (hd : decode M.1 pc = .ok (.iinc i n, 3)) (hq : lv[q]? = some (i, .int x)) (hv : x + Int32.ofInt n = v) (hn : i < M.2.1) (hl' : (i, Value.int v) :: lv.filter (fun q => !(q.1 == i) && !(q.1 + 1 == i && q.2.category == 2)) = lv') (k : ja_J M C (pc + 3) lv' st Λ σ zz) : ja_J M C pc lv st Λ σ zz := by
  obtain ⟨⟨p, l, e, R, s, m, args, below, meth, c⟩, ⟨D, cI, cJ⟩, ⟨ad0, n0, sl0, MC, MS, A⟩, Qf, L, xs⟩ := C
  intro ok ad H locs ls iv hl
  exact lv_iinc (rest := st.map (ja_cv ad)) ok.1.1 ok.1.2.1 hd hl (ja_cl_at hq) hv hn (by rw [ja_cl_f1, ← hl']; rfl) (fun ls' hl2 => k ok ad H locs ls' iv hl2)
theorem ja_iadd {x y : Int32} (hd : decode M.1 pc = .ok (.iadd, 1))  (k : ja_J M C (pc + 1) lv (.int (x + y) :: st) Λ σ zz) : ja_J M C pc lv (.int y :: .int x :: st) Λ σ zz := by
  obtain ⟨⟨p, l, e, R, s, m, args, below, meth, c⟩, ⟨D, cI, cJ⟩, ⟨ad0, n0, sl0, MC, MS, A⟩, Qf, L, xs⟩ := C
  intro ok ad H locs ls iv hl
  exact lv_iadd (x := x) (y := y) (rest := st.map (ja_cv ad)) ok.1.1 ok.1.2.1 hd  (k ok ad H locs ls iv hl)
theorem ja_isub {x y : Int32} (hd : decode M.1 pc = .ok (.isub, 1))  (k : ja_J M C (pc + 1) lv (.int (x - y) :: st) Λ σ zz) : ja_J M C pc lv (.int y :: .int x :: st) Λ σ zz := by
  obtain ⟨⟨p, l, e, R, s, m, args, below, meth, c⟩, ⟨D, cI, cJ⟩, ⟨ad0, n0, sl0, MC, MS, A⟩, Qf, L, xs⟩ := C
  intro ok ad H locs ls iv hl
  exact lv_isub (x := x) (y := y) (rest := st.map (ja_cv ad)) ok.1.1 ok.1.2.1 hd  (k ok ad H locs ls iv hl)
theorem ja_imul {x y : Int32} (hd : decode M.1 pc = .ok (.imul, 1))  (k : ja_J M C (pc + 1) lv (.int (x * y) :: st) Λ σ zz) : ja_J M C pc lv (.int y :: .int x :: st) Λ σ zz := by
  obtain ⟨⟨p, l, e, R, s, m, args, below, meth, c⟩, ⟨D, cI, cJ⟩, ⟨ad0, n0, sl0, MC, MS, A⟩, Qf, L, xs⟩ := C
  intro ok ad H locs ls iv hl
  exact lv_imul (x := x) (y := y) (rest := st.map (ja_cv ad)) ok.1.1 ok.1.2.1 hd  (k ok ad H locs ls iv hl)
theorem ja_iand {x y : Int32} (hd : decode M.1 pc = .ok (.iand, 1))  (k : ja_J M C (pc + 1) lv (.int (x &&& y) :: st) Λ σ zz) : ja_J M C pc lv (.int y :: .int x :: st) Λ σ zz := by
  obtain ⟨⟨p, l, e, R, s, m, args, below, meth, c⟩, ⟨D, cI, cJ⟩, ⟨ad0, n0, sl0, MC, MS, A⟩, Qf, L, xs⟩ := C
  intro ok ad H locs ls iv hl
  exact lv_iand (x := x) (y := y) (rest := st.map (ja_cv ad)) ok.1.1 ok.1.2.1 hd  (k ok ad H locs ls iv hl)
theorem ja_ior {x y : Int32} (hd : decode M.1 pc = .ok (.ior, 1))  (k : ja_J M C (pc + 1) lv (.int (x ||| y) :: st) Λ σ zz) : ja_J M C pc lv (.int y :: .int x :: st) Λ σ zz := by
  obtain ⟨⟨p, l, e, R, s, m, args, below, meth, c⟩, ⟨D, cI, cJ⟩, ⟨ad0, n0, sl0, MC, MS, A⟩, Qf, L, xs⟩ := C
  intro ok ad H locs ls iv hl
  exact lv_ior (x := x) (y := y) (rest := st.map (ja_cv ad)) ok.1.1 ok.1.2.1 hd  (k ok ad H locs ls iv hl)
theorem ja_ixor {x y : Int32} (hd : decode M.1 pc = .ok (.ixor, 1))  (k : ja_J M C (pc + 1) lv (.int (x ^^^ y) :: st) Λ σ zz) : ja_J M C pc lv (.int y :: .int x :: st) Λ σ zz := by
  obtain ⟨⟨p, l, e, R, s, m, args, below, meth, c⟩, ⟨D, cI, cJ⟩, ⟨ad0, n0, sl0, MC, MS, A⟩, Qf, L, xs⟩ := C
  intro ok ad H locs ls iv hl
  exact lv_ixor (x := x) (y := y) (rest := st.map (ja_cv ad)) ok.1.1 ok.1.2.1 hd  (k ok ad H locs ls iv hl)
theorem ja_ishl {x y : Int32} (hd : decode M.1 pc = .ok (.ishl, 1))  (k : ja_J M C (pc + 1) lv (.int (x <<< (y &&& 31)) :: st) Λ σ zz) : ja_J M C pc lv (.int y :: .int x :: st) Λ σ zz := by
  obtain ⟨⟨p, l, e, R, s, m, args, below, meth, c⟩, ⟨D, cI, cJ⟩, ⟨ad0, n0, sl0, MC, MS, A⟩, Qf, L, xs⟩ := C
  intro ok ad H locs ls iv hl
  exact lv_ishl (x := x) (y := y) (rest := st.map (ja_cv ad)) ok.1.1 ok.1.2.1 hd  (k ok ad H locs ls iv hl)
theorem ja_ishr {x y : Int32} (hd : decode M.1 pc = .ok (.ishr, 1))  (k : ja_J M C (pc + 1) lv (.int (x >>> (y &&& 31)) :: st) Λ σ zz) : ja_J M C pc lv (.int y :: .int x :: st) Λ σ zz := by
  obtain ⟨⟨p, l, e, R, s, m, args, below, meth, c⟩, ⟨D, cI, cJ⟩, ⟨ad0, n0, sl0, MC, MS, A⟩, Qf, L, xs⟩ := C
  intro ok ad H locs ls iv hl
  exact lv_ishr (x := x) (y := y) (rest := st.map (ja_cv ad)) ok.1.1 ok.1.2.1 hd  (k ok ad H locs ls iv hl)
theorem ja_land {x y : Int64} (hd : decode M.1 pc = .ok (.land, 1))  (k : ja_J M C (pc + 1) lv (.long (x &&& y) :: st) Λ σ zz) : ja_J M C pc lv (.long y :: .long x :: st) Λ σ zz := by
  obtain ⟨⟨p, l, e, R, s, m, args, below, meth, c⟩, ⟨D, cI, cJ⟩, ⟨ad0, n0, sl0, MC, MS, A⟩, Qf, L, xs⟩ := C
  intro ok ad H locs ls iv hl
  exact lv_land (x := x) (y := y) (rest := st.map (ja_cv ad)) ok.1.1 ok.1.2.1 hd  (k ok ad H locs ls iv hl)
theorem ja_lor {x y : Int64} (hd : decode M.1 pc = .ok (.lor, 1))  (k : ja_J M C (pc + 1) lv (.long (x ||| y) :: st) Λ σ zz) : ja_J M C pc lv (.long y :: .long x :: st) Λ σ zz := by
  obtain ⟨⟨p, l, e, R, s, m, args, below, meth, c⟩, ⟨D, cI, cJ⟩, ⟨ad0, n0, sl0, MC, MS, A⟩, Qf, L, xs⟩ := C
  intro ok ad H locs ls iv hl
  exact lv_lor (x := x) (y := y) (rest := st.map (ja_cv ad)) ok.1.1 ok.1.2.1 hd  (k ok ad H locs ls iv hl)
theorem ja_lxor {x y : Int64} (hd : decode M.1 pc = .ok (.lxor, 1))  (k : ja_J M C (pc + 1) lv (.long (x ^^^ y) :: st) Λ σ zz) : ja_J M C pc lv (.long y :: .long x :: st) Λ σ zz := by
  obtain ⟨⟨p, l, e, R, s, m, args, below, meth, c⟩, ⟨D, cI, cJ⟩, ⟨ad0, n0, sl0, MC, MS, A⟩, Qf, L, xs⟩ := C
  intro ok ad H locs ls iv hl
  exact lv_lxor (x := x) (y := y) (rest := st.map (ja_cv ad)) ok.1.1 ok.1.2.1 hd  (k ok ad H locs ls iv hl)
theorem ja_idiv {x y : Int32} (hd : decode M.1 pc = .ok (.idiv, 1)) (hne : ¬ y = 0) (k : ja_J M C (pc + 1) lv (.int (x / y) :: st) Λ σ zz) : ja_J M C pc lv (.int y :: .int x :: st) Λ σ zz := by
  obtain ⟨⟨p, l, e, R, s, m, args, below, meth, c⟩, ⟨D, cI, cJ⟩, ⟨ad0, n0, sl0, MC, MS, A⟩, Qf, L, xs⟩ := C
  intro ok ad H locs ls iv hl
  exact lv_idiv (x := x) (y := y) (rest := st.map (ja_cv ad)) ok.1.1 ok.1.2.1 hd hne (k ok ad H locs ls iv hl)
theorem ja_irem {x y : Int32} (hd : decode M.1 pc = .ok (.irem, 1)) (hne : ¬ y = 0) (k : ja_J M C (pc + 1) lv (.int (x - x / y * y) :: st) Λ σ zz) : ja_J M C pc lv (.int y :: .int x :: st) Λ σ zz := by
  obtain ⟨⟨p, l, e, R, s, m, args, below, meth, c⟩, ⟨D, cI, cJ⟩, ⟨ad0, n0, sl0, MC, MS, A⟩, Qf, L, xs⟩ := C
  intro ok ad H locs ls iv hl
  exact lv_irem (x := x) (y := y) (rest := st.map (ja_cv ad)) ok.1.1 ok.1.2.1 hd hne (k ok ad H locs ls iv hl)
theorem ja_iushr {x y : Int32} (hd : decode M.1 pc = .ok (.iushr, 1))  (k : ja_J M C (pc + 1) lv (.int ((x.toUInt32 >>> (y.toUInt32 &&& Int32.toUInt32 31)).toInt32) :: st) Λ σ zz) : ja_J M C pc lv (.int y :: .int x :: st) Λ σ zz := by
  obtain ⟨⟨p, l, e, R, s, m, args, below, meth, c⟩, ⟨D, cI, cJ⟩, ⟨ad0, n0, sl0, MC, MS, A⟩, Qf, L, xs⟩ := C
  intro ok ad H locs ls iv hl
  exact lv_iushr (x := x) (y := y) (rest := st.map (ja_cv ad)) ok.1.1 ok.1.2.1 hd rfl (k ok ad H locs ls iv hl)
theorem ja_lushr {x : Int64} {y : Int32} (hd : decode M.1 pc = .ok (.lushr, 1))  (k : ja_J M C (pc + 1) lv (.long ((x.toUInt64 >>> (y.toInt64.toUInt64 &&& Int64.toUInt64 63)).toInt64) :: st) Λ σ zz) : ja_J M C pc lv (.int y :: .long x :: st) Λ σ zz := by
  obtain ⟨⟨p, l, e, R, s, m, args, below, meth, c⟩, ⟨D, cI, cJ⟩, ⟨ad0, n0, sl0, MC, MS, A⟩, Qf, L, xs⟩ := C
  intro ok ad H locs ls iv hl
  exact lv_lushr (x := x) (y := y) (rest := st.map (ja_cv ad)) ok.1.1 ok.1.2.1 hd rfl (k ok ad H locs ls iv hl)
theorem ja_i2l {x : Int32} (hd : decode M.1 pc = .ok (.i2l, 1))  (k : ja_J M C (pc + 1) lv (.long x.toInt64 :: st) Λ σ zz) : ja_J M C pc lv (.int x :: st) Λ σ zz := by
  obtain ⟨⟨p, l, e, R, s, m, args, below, meth, c⟩, ⟨D, cI, cJ⟩, ⟨ad0, n0, sl0, MC, MS, A⟩, Qf, L, xs⟩ := C
  intro ok ad H locs ls iv hl
  exact lv_i2l (x := x) (rest := st.map (ja_cv ad)) ok.1.1 ok.1.2.1 hd rfl (k ok ad H locs ls iv hl)
theorem ja_i2c {x : Int32} (hd : decode M.1 pc = .ok (.i2c, 1))  (k : ja_J M C (pc + 1) lv (.int (x.toUInt32 % 65536).toInt32 :: st) Λ σ zz) : ja_J M C pc lv (.int x :: st) Λ σ zz := by
  obtain ⟨⟨p, l, e, R, s, m, args, below, meth, c⟩, ⟨D, cI, cJ⟩, ⟨ad0, n0, sl0, MC, MS, A⟩, Qf, L, xs⟩ := C
  intro ok ad H locs ls iv hl
  exact lv_i2c (x := x) (rest := st.map (ja_cv ad)) ok.1.1 ok.1.2.1 hd rfl (k ok ad H locs ls iv hl)
theorem ja_lcmp {x y : Int64} (hd : decode M.1 pc = .ok (.lcmp, 1))  (k : ja_J M C (pc + 1) lv (.int (lg_cmp x y) :: st) Λ σ zz) : ja_J M C pc lv (.long y :: .long x :: st) Λ σ zz := by
  obtain ⟨⟨p, l, e, R, s, m, args, below, meth, c⟩, ⟨D, cI, cJ⟩, ⟨ad0, n0, sl0, MC, MS, A⟩, Qf, L, xs⟩ := C
  intro ok ad H locs ls iv hl
  exact W.lcmp (x := x) (y := y) (rest := st.map (ja_cv ad)) ok.1.1 ok.1.2.1 hd  (k ok ad H locs ls iv hl)
theorem ja_dup {v : Value} (hd : decode M.1 pc = .ok (.dup, 1)) (hv : v.category = 1) (k : ja_J M C (pc + 1) lv (v :: v :: st) Λ σ zz) : ja_J M C pc lv (v :: st) Λ σ zz := by
  obtain ⟨⟨p, l, e, R, s, m, args, below, meth, c⟩, ⟨D, cI, cJ⟩, ⟨ad0, n0, sl0, MC, MS, A⟩, Qf, L, xs⟩ := C
  intro ok ad H locs ls iv hl
  exact lv_dup (va := ja_cv ad v) (rest := st.map (ja_cv ad)) ok.1.1 ok.1.2.1 hd ((ja_cat ad v).trans hv) (k ok ad H locs ls iv hl)
theorem ja_pop {v : Value} (hd : decode M.1 pc = .ok (.pop, 1)) (hv : v.category = 1) (k : ja_J M C (pc + 1) lv (st) Λ σ zz) : ja_J M C pc lv (v :: st) Λ σ zz := by
  obtain ⟨⟨p, l, e, R, s, m, args, below, meth, c⟩, ⟨D, cI, cJ⟩, ⟨ad0, n0, sl0, MC, MS, A⟩, Qf, L, xs⟩ := C
  intro ok ad H locs ls iv hl
  exact lv_pop (va := ja_cv ad v) (rest := st.map (ja_cv ad)) ok.1.1 ok.1.2.1 hd ((ja_cat ad v).trans hv) (k ok ad H locs ls iv hl)
theorem ja_dup_x1 {v w : Value} (hd : decode M.1 pc = .ok (.dup_x1, 1)) (hv : v.category = 1) (hw : w.category = 1) (k : ja_J M C (pc + 1) lv (v :: w :: v :: st) Λ σ zz) : ja_J M C pc lv (v :: w :: st) Λ σ zz := by
  obtain ⟨⟨p, l, e, R, s, m, args, below, meth, c⟩, ⟨D, cI, cJ⟩, ⟨ad0, n0, sl0, MC, MS, A⟩, Qf, L, xs⟩ := C
  intro ok ad H locs ls iv hl
  exact lv_dup_x1 (va := ja_cv ad v) (vb := ja_cv ad w) (rest := st.map (ja_cv ad)) ok.1.1 ok.1.2.1 hd ((ja_cat ad v).trans hv) ((ja_cat ad w).trans hw) (k ok ad H locs ls iv hl)
theorem ja_dup2 {v w : Value} (hd : decode M.1 pc = .ok (.dup2, 1)) (hv : v.category = 1) (hw : w.category = 1) (k : ja_J M C (pc + 1) lv (v :: w :: v :: w :: st) Λ σ zz) : ja_J M C pc lv (v :: w :: st) Λ σ zz := by
  obtain ⟨⟨p, l, e, R, s, m, args, below, meth, c⟩, ⟨D, cI, cJ⟩, ⟨ad0, n0, sl0, MC, MS, A⟩, Qf, L, xs⟩ := C
  intro ok ad H locs ls iv hl
  exact lv_dup2_11 (va := ja_cv ad v) (vb := ja_cv ad w) (rest := st.map (ja_cv ad)) ok.1.1 ok.1.2.1 hd ((ja_cat ad v).trans hv) ((ja_cat ad w).trans hw) (k ok ad H locs ls iv hl)
theorem ja_icmp_eq {x y : Int32} {α : Type} {X Y w : Option α} {off : Int} (tgt : Nat) (hd : decode M.1 pc = .ok (.if_icmp .eq off, 3)) (ht : (pc : Int) + off = (tgt : Int)) (hf : (if x = y then X else Y) = w) (kt : X = w → ja_J M C tgt lv st Λ σ zz) (kf : Y = w → ja_J M C (pc + 3) lv st Λ σ zz) : ja_J M C pc lv (.int y :: .int x :: st) Λ σ zz := by
  obtain ⟨⟨p, l, e, R, s, m, args, below, meth, c⟩, ⟨D, cI, cJ⟩, ⟨ad0, n0, sl0, MC, MS, A⟩, Qf, L, xs⟩ := C
  intro ok ad H locs ls iv hl
  exact lv_icmp_eq (x := x) (y := y) (rest := st.map (ja_cv ad)) ok.1.1 ok.1.2.1 hd ht (fun hc => kt (by rw [← hf, if_pos hc]) ok ad H locs ls iv hl) (fun hc => kf (by rw [← hf, if_neg hc]) ok ad H locs ls iv hl)
theorem ja_if_eq {x : Int32} {α : Type} {X Y w : Option α} {off : Int} (tgt : Nat) (hd : decode M.1 pc = .ok (.ifCond .eq off, 3)) (ht : (pc : Int) + off = (tgt : Int)) (hf : (if x = 0 then X else Y) = w) (kt : X = w → ja_J M C tgt lv st Λ σ zz) (kf : Y = w → ja_J M C (pc + 3) lv st Λ σ zz) : ja_J M C pc lv (.int x :: st) Λ σ zz := by
  obtain ⟨⟨p, l, e, R, s, m, args, below, meth, c⟩, ⟨D, cI, cJ⟩, ⟨ad0, n0, sl0, MC, MS, A⟩, Qf, L, xs⟩ := C
  intro ok ad H locs ls iv hl
  exact lv_if_eq (x := x) (rest := st.map (ja_cv ad)) ok.1.1 ok.1.2.1 hd ht (fun hc => kt (by rw [← hf, if_pos hc]) ok ad H locs ls iv hl) (fun hc => kf (by rw [← hf, if_neg hc]) ok ad H locs ls iv hl)
theorem ja_icmp_ne {x y : Int32} {α : Type} {X Y w : Option α} {off : Int} (tgt : Nat) (hd : decode M.1 pc = .ok (.if_icmp .ne off, 3)) (ht : (pc : Int) + off = (tgt : Int)) (hf : (if x = y then X else Y) = w) (kt : Y = w → ja_J M C tgt lv st Λ σ zz) (kf : X = w → ja_J M C (pc + 3) lv st Λ σ zz) : ja_J M C pc lv (.int y :: .int x :: st) Λ σ zz := by
  obtain ⟨⟨p, l, e, R, s, m, args, below, meth, c⟩, ⟨D, cI, cJ⟩, ⟨ad0, n0, sl0, MC, MS, A⟩, Qf, L, xs⟩ := C
  intro ok ad H locs ls iv hl
  exact lv_icmp_ne (x := x) (y := y) (rest := st.map (ja_cv ad)) ok.1.1 ok.1.2.1 hd ht (fun hc => kt (by rw [← hf, if_neg hc]) ok ad H locs ls iv hl) (fun hc => kf (by rw [← hf, if_pos hc]) ok ad H locs ls iv hl)
theorem ja_if_ne {x : Int32} {α : Type} {X Y w : Option α} {off : Int} (tgt : Nat) (hd : decode M.1 pc = .ok (.ifCond .ne off, 3)) (ht : (pc : Int) + off = (tgt : Int)) (hf : (if x = 0 then X else Y) = w) (kt : Y = w → ja_J M C tgt lv st Λ σ zz) (kf : X = w → ja_J M C (pc + 3) lv st Λ σ zz) : ja_J M C pc lv (.int x :: st) Λ σ zz := by
  obtain ⟨⟨p, l, e, R, s, m, args, below, meth, c⟩, ⟨D, cI, cJ⟩, ⟨ad0, n0, sl0, MC, MS, A⟩, Qf, L, xs⟩ := C
  intro ok ad H locs ls iv hl
  exact lv_if_ne (x := x) (rest := st.map (ja_cv ad)) ok.1.1 ok.1.2.1 hd ht (fun hc => kt (by rw [← hf, if_neg hc]) ok ad H locs ls iv hl) (fun hc => kf (by rw [← hf, if_pos hc]) ok ad H locs ls iv hl)
theorem ja_icmp_lt {x y : Int32} {α : Type} {X Y w : Option α} {off : Int} (tgt : Nat) (hd : decode M.1 pc = .ok (.if_icmp .lt off, 3)) (ht : (pc : Int) + off = (tgt : Int)) (hf : (if x < y then X else Y) = w) (kt : X = w → ja_J M C tgt lv st Λ σ zz) (kf : Y = w → ja_J M C (pc + 3) lv st Λ σ zz) : ja_J M C pc lv (.int y :: .int x :: st) Λ σ zz := by
  obtain ⟨⟨p, l, e, R, s, m, args, below, meth, c⟩, ⟨D, cI, cJ⟩, ⟨ad0, n0, sl0, MC, MS, A⟩, Qf, L, xs⟩ := C
  intro ok ad H locs ls iv hl
  exact lv_icmp_lt (x := x) (y := y) (rest := st.map (ja_cv ad)) ok.1.1 ok.1.2.1 hd ht (fun hc => kt (by rw [← hf, if_pos hc]) ok ad H locs ls iv hl) (fun hc => kf (by rw [← hf, if_neg hc]) ok ad H locs ls iv hl)
theorem ja_if_lt {x : Int32} {α : Type} {X Y w : Option α} {off : Int} (tgt : Nat) (hd : decode M.1 pc = .ok (.ifCond .lt off, 3)) (ht : (pc : Int) + off = (tgt : Int)) (hf : (if x < 0 then X else Y) = w) (kt : X = w → ja_J M C tgt lv st Λ σ zz) (kf : Y = w → ja_J M C (pc + 3) lv st Λ σ zz) : ja_J M C pc lv (.int x :: st) Λ σ zz := by
  obtain ⟨⟨p, l, e, R, s, m, args, below, meth, c⟩, ⟨D, cI, cJ⟩, ⟨ad0, n0, sl0, MC, MS, A⟩, Qf, L, xs⟩ := C
  intro ok ad H locs ls iv hl
  exact lv_if_lt (x := x) (rest := st.map (ja_cv ad)) ok.1.1 ok.1.2.1 hd ht (fun hc => kt (by rw [← hf, if_pos hc]) ok ad H locs ls iv hl) (fun hc => kf (by rw [← hf, if_neg hc]) ok ad H locs ls iv hl)
theorem ja_icmp_ge {x y : Int32} {α : Type} {X Y w : Option α} {off : Int} (tgt : Nat) (hd : decode M.1 pc = .ok (.if_icmp .ge off, 3)) (ht : (pc : Int) + off = (tgt : Int)) (hf : (if y ≤ x then X else Y) = w) (kt : X = w → ja_J M C tgt lv st Λ σ zz) (kf : Y = w → ja_J M C (pc + 3) lv st Λ σ zz) : ja_J M C pc lv (.int y :: .int x :: st) Λ σ zz := by
  obtain ⟨⟨p, l, e, R, s, m, args, below, meth, c⟩, ⟨D, cI, cJ⟩, ⟨ad0, n0, sl0, MC, MS, A⟩, Qf, L, xs⟩ := C
  intro ok ad H locs ls iv hl
  exact lv_icmp_ge (x := x) (y := y) (rest := st.map (ja_cv ad)) ok.1.1 ok.1.2.1 hd ht (fun hc => kt (by rw [← hf, if_pos hc]) ok ad H locs ls iv hl) (fun hc => kf (by rw [← hf, if_neg hc]) ok ad H locs ls iv hl)
theorem ja_if_ge {x : Int32} {α : Type} {X Y w : Option α} {off : Int} (tgt : Nat) (hd : decode M.1 pc = .ok (.ifCond .ge off, 3)) (ht : (pc : Int) + off = (tgt : Int)) (hf : (if 0 ≤ x then X else Y) = w) (kt : X = w → ja_J M C tgt lv st Λ σ zz) (kf : Y = w → ja_J M C (pc + 3) lv st Λ σ zz) : ja_J M C pc lv (.int x :: st) Λ σ zz := by
  obtain ⟨⟨p, l, e, R, s, m, args, below, meth, c⟩, ⟨D, cI, cJ⟩, ⟨ad0, n0, sl0, MC, MS, A⟩, Qf, L, xs⟩ := C
  intro ok ad H locs ls iv hl
  exact lv_if_ge (x := x) (rest := st.map (ja_cv ad)) ok.1.1 ok.1.2.1 hd ht (fun hc => kt (by rw [← hf, if_pos hc]) ok ad H locs ls iv hl) (fun hc => kf (by rw [← hf, if_neg hc]) ok ad H locs ls iv hl)
theorem ja_icmp_gt {x y : Int32} {α : Type} {X Y w : Option α} {off : Int} (tgt : Nat) (hd : decode M.1 pc = .ok (.if_icmp .gt off, 3)) (ht : (pc : Int) + off = (tgt : Int)) (hf : (if y < x then X else Y) = w) (kt : X = w → ja_J M C tgt lv st Λ σ zz) (kf : Y = w → ja_J M C (pc + 3) lv st Λ σ zz) : ja_J M C pc lv (.int y :: .int x :: st) Λ σ zz := by
  obtain ⟨⟨p, l, e, R, s, m, args, below, meth, c⟩, ⟨D, cI, cJ⟩, ⟨ad0, n0, sl0, MC, MS, A⟩, Qf, L, xs⟩ := C
  intro ok ad H locs ls iv hl
  exact lv_icmp_gt (x := x) (y := y) (rest := st.map (ja_cv ad)) ok.1.1 ok.1.2.1 hd ht (fun hc => kt (by rw [← hf, if_pos hc]) ok ad H locs ls iv hl) (fun hc => kf (by rw [← hf, if_neg hc]) ok ad H locs ls iv hl)
theorem ja_if_gt {x : Int32} {α : Type} {X Y w : Option α} {off : Int} (tgt : Nat) (hd : decode M.1 pc = .ok (.ifCond .gt off, 3)) (ht : (pc : Int) + off = (tgt : Int)) (hf : (if 0 < x then X else Y) = w) (kt : X = w → ja_J M C tgt lv st Λ σ zz) (kf : Y = w → ja_J M C (pc + 3) lv st Λ σ zz) : ja_J M C pc lv (.int x :: st) Λ σ zz := by
  obtain ⟨⟨p, l, e, R, s, m, args, below, meth, c⟩, ⟨D, cI, cJ⟩, ⟨ad0, n0, sl0, MC, MS, A⟩, Qf, L, xs⟩ := C
  intro ok ad H locs ls iv hl
  exact lv_if_gt (x := x) (rest := st.map (ja_cv ad)) ok.1.1 ok.1.2.1 hd ht (fun hc => kt (by rw [← hf, if_pos hc]) ok ad H locs ls iv hl) (fun hc => kf (by rw [← hf, if_neg hc]) ok ad H locs ls iv hl)
theorem ja_icmp_le {x y : Int32} {α : Type} {X Y w : Option α} {off : Int} (tgt : Nat) (hd : decode M.1 pc = .ok (.if_icmp .le off, 3)) (ht : (pc : Int) + off = (tgt : Int)) (hf : (if x ≤ y then X else Y) = w) (kt : X = w → ja_J M C tgt lv st Λ σ zz) (kf : Y = w → ja_J M C (pc + 3) lv st Λ σ zz) : ja_J M C pc lv (.int y :: .int x :: st) Λ σ zz := by
  obtain ⟨⟨p, l, e, R, s, m, args, below, meth, c⟩, ⟨D, cI, cJ⟩, ⟨ad0, n0, sl0, MC, MS, A⟩, Qf, L, xs⟩ := C
  intro ok ad H locs ls iv hl
  exact lv_icmp_le (x := x) (y := y) (rest := st.map (ja_cv ad)) ok.1.1 ok.1.2.1 hd ht (fun hc => kt (by rw [← hf, if_pos hc]) ok ad H locs ls iv hl) (fun hc => kf (by rw [← hf, if_neg hc]) ok ad H locs ls iv hl)
theorem ja_if_le {x : Int32} {α : Type} {X Y w : Option α} {off : Int} (tgt : Nat) (hd : decode M.1 pc = .ok (.ifCond .le off, 3)) (ht : (pc : Int) + off = (tgt : Int)) (hf : (if x ≤ 0 then X else Y) = w) (kt : X = w → ja_J M C tgt lv st Λ σ zz) (kf : Y = w → ja_J M C (pc + 3) lv st Λ σ zz) : ja_J M C pc lv (.int x :: st) Λ σ zz := by
  obtain ⟨⟨p, l, e, R, s, m, args, below, meth, c⟩, ⟨D, cI, cJ⟩, ⟨ad0, n0, sl0, MC, MS, A⟩, Qf, L, xs⟩ := C
  intro ok ad H locs ls iv hl
  exact lv_if_le (x := x) (rest := st.map (ja_cv ad)) ok.1.1 ok.1.2.1 hd ht (fun hc => kt (by rw [← hf, if_pos hc]) ok ad H locs ls iv hl) (fun hc => kf (by rw [← hf, if_neg hc]) ok ad H locs ls iv hl)
theorem ja_goto {off : Int} (tgt : Nat) (hd : decode M.1 pc = .ok (.goto off, 3)) (ht : (pc : Int) + off = (tgt : Int)) (k : ja_J M C tgt lv st Λ σ zz) : ja_J M C pc lv st Λ σ zz := by
  obtain ⟨⟨p, l, e, R, s, m, args, below, meth, c⟩, ⟨D, cI, cJ⟩, ⟨ad0, n0, sl0, MC, MS, A⟩, Qf, L, xs⟩ := C
  intro ok ad H locs ls iv hl
  exact lv_goto ok.1.1 ok.1.2.1 hd ht (k ok ad H locs ls iv hl)
theorem ja_ret (v : Option Value) (i : Instr) (hd : decode M.1 pc = .ok (i, 1)) (hi : ja_ri M.2.2.2.2.1 v = some i) (hz : zz = (v, Λ, σ)) : ja_J M C pc lv v.toList Λ σ zz := by
  intro ok ad H locs ls iv hl
  subst hz
  have ok2 := ok
  obtain ⟨⟨p, l, e, R, s, m, args, below, meth, c⟩, ⟨D, cI, cJ⟩, ⟨ad0, n0, sl0, MC, MS, A⟩, Qf, L, xs⟩ := C
  exact ok.2.2.2.2.2.2.2 v ad Λ σ H locs pc ls (by rw [hi]; exact hd) (by rw [hi]; rfl) iv
end JA
theorem ja_bind {α β : Type} {o : Option α} {g : α → Option β} {w : β} {P : Prop} (hf : o.bind g = some w) (k : ∀ a, o = some a → g a = some w → P) : P := by
  cases o with
  | none => cases hf
  | some a => exact k a rfl hf
end
section
/-! rows of the heap -/
/-- a field: class t, place j, its type, whether it is a reference, whether final -/
def ja_fd (own : String) (idx t j : Nat) (isref fin : Bool) (ty : FieldType) : Prop := ∃ (Cn : String) (T : u_T) (NN : Nat) (ty0 : Nat → FieldType), classes[t]? = some (Cn, T, NN) ∧ (∀ w ∈ u_ws Cn T NN, w ∈ ja_tb) ∧ j < NN ∧ Cond.fieldLink own idx (T j).1 (T j).2.1 (T j).2.2.1 ∈ ja_tb ∧ (ja_kd t).getD j false = isref ∧ (ja_kd t).length = NN ∧ (∀ k, k < NN → parseFieldDescriptor (T k).2.2.1 = some (ty0 k)) ∧ (∀ a, a < NN → ∀ b, b < NN → a ≠ b → (T a).2.1 ≠ (T b).2.1) ∧ (T j).2.2.2 = fin ∧ ty0 j = ty
/-- the cell k is an object of class t; a row of ints; of longs -/
def ja_ob (Λ : ja_L) (t k : Nat) : Prop := k < Λ.1 ∧ (Λ.2.2.1 k).1 = t + 2
def ja_ai (Λ : ja_L) (k : Nat) : Prop := k < Λ.1 ∧ (Λ.2.2.1 k).1 = 0
def ja_al (Λ : ja_L) (k : Nat) : Prop := k < Λ.1 ∧ (Λ.2.2.1 k).1 = 1
def ja_len (Λ : ja_L) (k : Nat) : Nat := (Λ.2.2.1 k).2
theorem ja_wl_o {cI cJ : ClassId} {Λ : ja_L} {σ : ja_S} {ad : Nat → Nat} {k t : Nat} (hk : ja_ob Λ t k) : (ja_wl cI cJ Λ σ ad)[k]? = some (ad k, .inr (t, ja_fl Λ σ ad k t)) := by rw [ja_wl_at hk.1, ja_ce_o hk.2]
theorem ja_wl_i {cI cJ : ClassId} {Λ : ja_L} {σ : ja_S} {ad : Nat → Nat} {k : Nat} (hk : ja_ai Λ k) : (ja_wl cI cJ Λ σ ad)[k]? = some (ad k, .inl (cI, ja_len Λ k, .inl (σ.1 k))) := by rw [ja_wl_at hk.1, ja_ce_i hk.2]; rfl
theorem ja_wl_l {cI cJ : ClassId} {Λ : ja_L} {σ : ja_S} {ad : Nat → Nat} {k : Nat} (hk : ja_al Λ k) : (ja_wl cI cJ Λ σ ad)[k]? = some (ad k, .inl (cJ, ja_len Λ k, .inr (.inl (σ.2 k)))) := by rw [ja_wl_at hk.1, ja_ce_l hk.2]; rfl
def ja_ld (Λ : ja_L) (σ : ja_S) (k : Nat) (i : Int32) : Option Int32 := if 0 ≤ i.toInt ∧ i.toInt < ja_len Λ k then some (σ.1 k i.toInt.toNat) else none
def ja_ldl (Λ : ja_L) (σ : ja_S) (k : Nat) (i : Int32) : Option Int64 := if 0 ≤ i.toInt ∧ i.toInt < ja_len Λ k then some (σ.2 k i.toInt.toNat) else none
def ja_st (Λ : ja_L) (σ : ja_S) (k : Nat) (i : Int32) (v : Int32) : Option ja_S := if 0 ≤ i.toInt ∧ i.toInt < ja_len Λ k then some (ja_si σ k i.toInt.toNat v) else none
def ja_stl (Λ : ja_L) (σ : ja_S) (k : Nat) (i : Int32) (v : Int64) : Option ja_S := if 0 ≤ i.toInt ∧ i.toInt < ja_len Λ k then some (ja_sl σ k i.toInt.toNat v) else none
def ja_ldt (i : Int32) : Option Int64 := if 0 ≤ i.toInt ∧ i.toInt < 6 then some (ja_rv i.toInt.toNat) else none
def ja_cpi (Λ : ja_L) (σ : ja_S) (a : Nat) (sp : Int32) (b : Nat) (dp n : Int32) : Option ja_S := if 0 ≤ sp.toInt ∧ 0 ≤ dp.toInt ∧ 0 ≤ n.toInt ∧ sp.toInt + n.toInt ≤ ja_len Λ a ∧ dp.toInt + n.toInt ≤ ja_len Λ b then some (va_up σ.1 b (va_cpy (σ.1 a) (σ.1 b) sp.toInt.toNat dp.toInt.toNat n.toInt.toNat), σ.2) else none
def ja_cpl (Λ : ja_L) (σ : ja_S) (a : Nat) (sp : Int32) (b : Nat) (dp n : Int32) : Option ja_S := if 0 ≤ sp.toInt ∧ 0 ≤ dp.toInt ∧ 0 ≤ n.toInt ∧ sp.toInt + n.toInt ≤ ja_len Λ a ∧ dp.toInt + n.toInt ≤ ja_len Λ b then some (σ.1, va_up σ.2 b (va_cpy (σ.2 a) (σ.2 b) sp.toInt.toNat dp.toInt.toNat n.toInt.toNat)) else none
theorem ja_ite {α : Type} {p : Prop} {_ : Decidable p} {a b : α} (h : (if p then some a else none) = some b) : p ∧ a = b := by
  by_cases hp : p
  · rw [if_pos hp] at h
    exact ⟨hp, Option.some.inj h⟩
  · rw [if_neg hp] at h
    cases h
theorem ja_vp {i : Int32} {n : Nat} (h : 0 ≤ i.toInt ∧ i.toInt < n) : vp_in i n := vp_in_iff.mpr h
theorem ja_nn {z : Int32} (h : 0 ≤ z.toInt) : ¬ z < 0 := by
  intro q
  have := Int32.lt_iff_toInt_lt.mp q
  rw [Int32.toInt_zero] at this
  omega
section JH
variable {M : ja_M} {C : ja_C} {pc : Nat} {lv : List (Nat × Value)} {st : List Value} {Λ : ja_L} {σ : ja_S} {zz : ja_Z}
theorem ja_geti {idx t j k : Nat} {fin : Bool} {ty : FieldType} (hd : decode M.1 pc = .ok (.getfield idx, 3)) (hF : ja_fd M.2.2.1 idx t j false fin ty) (hk : ja_ob Λ t k) (kk : ja_J M C (pc + 3) lv (.int (σ.1 k j) :: st) Λ σ zz) : ja_J M C pc lv (.ref k :: st) Λ σ zz := by
  obtain ⟨⟨p, l, e, R, s, m, args, below, meth, c⟩, ⟨D, cI, cJ⟩, ⟨ad0, n0, sl0, MC, MS, A⟩, Qf, L, xs⟩ := C
  intro ok ad H locs ls iv hl
  obtain ⟨Cn, T, NN, ty0, h1, h2, h3, h4, h5, h6, -⟩ := hF
  exact va_get (rest := st.map (ja_cv ad)) ok.1.1 ok.1.2.1 ok.1.2.2.2.2 h2 ok.1.2.2.2.1 ok.2.1 iv.1 k (ja_wl_o hk) h1 j h3 (ok.1.2.2.2.2 _ h4) (fun _ h => h) ((ja_fl_at (by omega)).trans (by rw [h5]; rfl)) hd (kk ok ad H locs ls iv hl)
theorem ja_getr {idx t j k k' : Nat} {fin : Bool} {ty : FieldType} (hd : decode M.1 pc = .ok (.getfield idx, 3)) (hF : ja_fd M.2.2.1 idx t j true fin ty) (hk : ja_ob Λ t k) (hr : Λ.2.2.2 k j = some k') (kk : ja_J M C (pc + 3) lv (.ref k' :: st) Λ σ zz) : ja_J M C pc lv (.ref k :: st) Λ σ zz := by
  obtain ⟨⟨p, l, e, R, s, m, args, below, meth, c⟩, ⟨D, cI, cJ⟩, ⟨ad0, n0, sl0, MC, MS, A⟩, Qf, L, xs⟩ := C
  intro ok ad H locs ls iv hl
  obtain ⟨Cn, T, NN, ty0, h1, h2, h3, h4, h5, h6, -⟩ := hF
  exact va_get (rest := st.map (ja_cv ad)) ok.1.1 ok.1.2.1 ok.1.2.2.2.2 h2 ok.1.2.2.2.1 ok.2.1 iv.1 k (ja_wl_o hk) h1 j h3 (ok.1.2.2.2.2 _ h4) (fun _ h => h) ((ja_fl_at (by omega)).trans (by rw [h5, hr]; rfl)) hd (kk ok ad H locs ls iv hl)
theorem ja_ce_si {cI cJ : ClassId} {Λ : ja_L} {σ : ja_S} {ad : Nat → Nat} {k j : Nat} {v : Int32} : ∀ i, i ≠ k → ja_ce cI cJ Λ (ja_si σ k j v) ad i = ja_ce cI cJ Λ σ ad i := by
  intro i hi
  have e : (ja_si σ k j v).1 i = σ.1 i := va_up_ne _ _ hi
  unfold ja_ce
  rw [e, show (ja_si σ k j v).2 = σ.2 from rfl]
  split <;> (try rfl)
  unfold ja_fl
  rw [e]
theorem ja_ce_sl {cI cJ : ClassId} {Λ : ja_L} {σ : ja_S} {ad : Nat → Nat} {k j : Nat} {v : Int64} : ∀ i, i ≠ k → ja_ce cI cJ Λ (ja_sl σ k j v) ad i = ja_ce cI cJ Λ σ ad i := by
  intro i hi
  have e : (ja_sl σ k j v).2 i = σ.2 i := va_up_ne _ _ hi
  unfold ja_ce
  rw [e, show (ja_sl σ k j v).1 = σ.1 from rfl]
  rfl
theorem ja_puti {idx t j k : Nat} {v : Int32} {ty : FieldType} (hd : decode M.1 pc = .ok (.putfield idx, 3)) (hF : ja_fd M.2.2.1 idx t j false false ty) (hk : ja_ob Λ t k) (hv : narrow ty (.int v) = .int v ∧ fits ty (.int v) = true) (kk : ja_J M C (pc + 3) lv st Λ (ja_si σ k j v) zz) : ja_J M C pc lv (.int v :: .ref k :: st) Λ σ zz := by
  obtain ⟨⟨p, l, e, R, s, m, args, below, meth, c⟩, ⟨D, cI, cJ⟩, ⟨ad0, n0, sl0, MC, MS, A⟩, Qf, L, xs⟩ := C
  intro ok ad H locs ls iv hl
  obtain ⟨Cn, T, NN, ty0, h1, h2, h3, h4, h5, h6, h7, h8, h9, h10⟩ := hF
  obtain ⟨iP, iD, iS, i4⟩ := iv
  refine va_put (v := .int v) (rest := st.map (ja_cv ad)) ok.1.1 ok.1.2.1 ok.1.2.2.2.2 h2 ty0 h7 h8 ok.1.2.2.2.1 ok.2.1 iP iD iS k (ja_wl_o hk) h1 j h3 (ok.1.2.2.2.2 _ h4) (fun _ h => h) h9 (ty := ty) (by rw [h7 j h3, h10]) hv.1 hv.2 (by rw [ja_fl_len]; omega) hd (fun H1 locs1 hP hD hS => ?_)
  have e : (ja_wl cI cJ Λ σ ad).set k (ad k, .inr (t, (ja_fl Λ σ ad k t).set j (.int v))) = ja_wl cI cJ Λ (ja_si σ k j v) ad := by
    refine ja_wl_set rfl ?_ ja_ce_si
    rw [ja_ce_o hk.2]
    congr 2
    refine (ja_fl_set ?_ ?_).symm
    · rw [h5]
      show Value.int (va_up σ.1 k _ k j) = _
      rw [va_up_self]
      simp [upd]
    · intro i hi
      refine ⟨rfl, ?_⟩
      show va_up σ.1 k _ k i = _
      rw [va_up_self]
      simp [upd, hi]
  rw [e] at hP hD
  exact kk ok ad H1 locs1 ls ⟨hP, hD, hS, i4⟩ hl
theorem ja_iald {k : Nat} {i v : Int32} (hd : decode M.1 pc = .ok (.iaload, 1)) (hk : ja_ai Λ k) (hv : ja_ld Λ σ k i = some v) (kk : ja_J M C (pc + 1) lv (.int v :: st) Λ σ zz) : ja_J M C pc lv (.int i :: .ref k :: st) Λ σ zz := by
  obtain ⟨⟨p, l, e, R, s, m, args, below, meth, c⟩, ⟨D, cI, cJ⟩, ⟨ad0, n0, sl0, MC, MS, A⟩, Qf, L, xs⟩ := C
  intro ok ad H locs ls iv hl
  obtain ⟨hb, rfl⟩ := ja_ite hv
  exact va_iald (rest := st.map (ja_cv ad)) ok.1.1 ok.1.2.1 ok.2.1 iv.1 k 0 (ja_wl_i hk) rfl (ja_vp hb) hd (kk ok ad H locs ls iv hl)
theorem ja_lald {k : Nat} {i : Int32} {v : Int64} (hd : decode M.1 pc = .ok (.laload, 1)) (hk : ja_al Λ k) (hv : ja_ldl Λ σ k i = some v) (kk : ja_J M C (pc + 1) lv (.long v :: st) Λ σ zz) : ja_J M C pc lv (.int i :: .ref k :: st) Λ σ zz := by
  obtain ⟨⟨p, l, e, R, s, m, args, below, meth, c⟩, ⟨D, cI, cJ⟩, ⟨ad0, n0, sl0, MC, MS, A⟩, Qf, L, xs⟩ := C
  intro ok ad H locs ls iv hl
  obtain ⟨hb, rfl⟩ := ja_ite hv
  exact va_lald (rest := st.map (ja_cv ad)) ok.1.1 ok.1.2.1 ok.2.1 iv.1 k 1 (ja_wl_l hk) rfl (ja_vp hb) hd (kk ok ad H locs ls iv hl)
theorem ja_alen {k : Nat} (hd : decode M.1 pc = .ok (.arraylength, 1)) (hk : ja_ai Λ k ∨ ja_al Λ k) (kk : ja_J M C (pc + 1) lv (.int (Int32.ofNat (ja_len Λ k)) :: st) Λ σ zz) : ja_J M C pc lv (.ref k :: st) Λ σ zz := by
  obtain ⟨⟨p, l, e, R, s, m, args, below, meth, c⟩, ⟨D, cI, cJ⟩, ⟨ad0, n0, sl0, MC, MS, A⟩, Qf, L, xs⟩ := C
  intro ok ad H locs ls iv hl
  rcases hk with hk | hk
  · exact va_alen (rest := st.map (ja_cv ad)) ok.1.1 ok.1.2.1 ok.2.1 iv.1 k 0 (ja_wl_i hk) rfl rfl hd (kk ok ad H locs ls iv hl)
  · exact va_alen (rest := st.map (ja_cv ad)) ok.1.1 ok.1.2.1 ok.2.1 iv.1 k 1 (ja_wl_l hk) rfl rfl hd (kk ok ad H locs ls iv hl)
theorem ja_iast {k : Nat} {i x : Int32} {σ' : ja_S} (hd : decode M.1 pc = .ok (.iastore, 1)) (hk : ja_ai Λ k) (hv : ja_st Λ σ k i x = some σ') (kk : ja_J M C (pc + 1) lv st Λ σ' zz) : ja_J M C pc lv (.int x :: .int i :: .ref k :: st) Λ σ zz := by
  obtain ⟨⟨p, l, e, R, s, m, args, below, meth, c⟩, ⟨D, cI, cJ⟩, ⟨ad0, n0, sl0, MC, MS, A⟩, Qf, L, xs⟩ := C
  intro ok ad H locs ls iv hl
  obtain ⟨hb, rfl⟩ := ja_ite hv
  obtain ⟨iP, iD, iS, i4⟩ := iv
  refine va_iast (rest := st.map (ja_cv ad)) ok.1.1 ok.1.2.1 ok.2.1 iP iD iS k 0 (ja_wl_i hk) rfl (ja_vp hb) hd (fun H1 locs1 hP hD hS => ?_)
  have e : (ja_wl cI cJ Λ σ ad).set k (ad k, .inl (cI, ja_len Λ k, .inl (upd (σ.1 k) i.toNatClampNeg x))) = ja_wl cI cJ Λ (ja_si σ k i.toInt.toNat x) ad := by
    refine ja_wl_set rfl ?_ ja_ce_si
    rw [ja_ce_i hk.2]
    show Sum.inl (cI, _, Sum.inl (va_up σ.1 k _ k)) = _
    rw [va_up_self]
    rfl
  rw [e] at hP hD
  exact kk ok ad H1 locs1 ls ⟨hP, hD, hS, i4⟩ hl
theorem ja_last {k : Nat} {i : Int32} {x : Int64} {σ' : ja_S} (hd : decode M.1 pc = .ok (.lastore, 1)) (hk : ja_al Λ k) (hv : ja_stl Λ σ k i x = some σ') (kk : ja_J M C (pc + 1) lv st Λ σ' zz) : ja_J M C pc lv (.long x :: .int i :: .ref k :: st) Λ σ zz := by
  obtain ⟨⟨p, l, e, R, s, m, args, below, meth, c⟩, ⟨D, cI, cJ⟩, ⟨ad0, n0, sl0, MC, MS, A⟩, Qf, L, xs⟩ := C
  intro ok ad H locs ls iv hl
  obtain ⟨hb, rfl⟩ := ja_ite hv
  obtain ⟨iP, iD, iS, i4⟩ := iv
  refine va_last (rest := st.map (ja_cv ad)) ok.1.1 ok.1.2.1 ok.2.1 iP iD iS k 1 (ja_wl_l hk) rfl (ja_vp hb) hd (fun H1 locs1 hP hD hS => ?_)
  have e : (ja_wl cI cJ Λ σ ad).set k (ad k, .inl (cJ, ja_len Λ k, .inr (.inl (vp_updL (σ.2 k) i.toNatClampNeg x)))) = ja_wl cI cJ Λ (ja_sl σ k i.toInt.toNat x) ad := by
    refine ja_wl_set rfl ?_ ja_ce_sl
    rw [ja_ce_l hk.2]
    show Sum.inl (cJ, _, Sum.inr (Sum.inl (va_up σ.2 k _ k))) = _
    rw [va_up_self]
    rfl
  rw [e] at hP hD
  exact kk ok ad H1 locs1 ls ⟨hP, hD, hS, i4⟩ hl
/-- the static table -/
theorem ja_gets {idx : Nat} (hd : decode M.1 pc = .ok (.getstatic idx, 3)) (hlink : Cond.fieldLink M.2.2.1 idx "InterlockingFrame$Locking" "REVERSED_IN_WORD" "[J" ∈ ja_tb) (kk : ja_J M C (pc + 3) lv (.ref 2000 :: st) Λ σ zz) : ja_J M C pc lv st Λ σ zz := by
  obtain ⟨⟨p, l, e, R, s, m, args, below, meth, c⟩, ⟨D, cI, cJ⟩, ⟨ad0, n0, sl0, MC, MS, A⟩, Qf, L, xs⟩ := C
  intro ok ad H locs ls iv hl
  refine va_gets (rest := st.map (ja_cv ad)) (v := .ref (ad0 2000)) ok.1.1 ok.1.2.1 ok.2.2.2.1.1 iv.2.2.1 ok.1.2.2.2.1 (ok.1.2.2.2.2 _ hlink) (fun _ h => h) hd ?_
  have hk := kk ok ad H locs ls iv hl
  rw [show ad0 2000 = ad 2000 from (iv.2.2.2.1 2000 (Or.inr (by have := iv.2.2.2.2.2.2.2.2.1; omega))).symm]
  exact hk
theorem ja_tald {i : Int32} {v : Int64} (hd : decode M.1 pc = .ok (.laload, 1)) (hv : ja_ldt i = some v) (kk : ja_J M C (pc + 1) lv (.long v :: st) Λ σ zz) : ja_J M C pc lv (.int i :: .ref 2000 :: st) Λ σ zz := by
  obtain ⟨⟨p, l, e, R, s, m, args, below, meth, c⟩, ⟨D, cI, cJ⟩, ⟨ad0, n0, sl0, MC, MS, A⟩, Qf, L, xs⟩ := C
  intro ok ad H locs ls iv hl
  obtain ⟨hb, rfl⟩ := ja_ite hv
  have hT := ok.2.2.2.1.2.1
  rw [show ad0 2000 = ad 2000 from (iv.2.2.2.1 2000 (Or.inr (by have := iv.2.2.2.2.2.2.2.2.1; omega))).symm] at hT
  exact va_tl (rest := st.map (ja_cv ad)) ok.1.1 ok.1.2.1 hT iv.2.2.1 (ja_vp hb) rfl hd (kk ok ad H locs ls iv hl)
/-- a text constant -/
theorem ja_ldcs {idx : Nat} (i : Nat) (hi : i < 11) (hd : decode M.1 pc = .ok (.ldc idx, 2)) (hr : (ja_sr i).1 = M.2.2.1 ∧ (ja_sr i).2.1 = idx) (kk : ja_J M C (pc + 2) lv (.ref (1000 + i) :: st) Λ σ zz) : ja_J M C pc lv st Λ σ zz := by
  obtain ⟨⟨p, l, e, R, s, m, args, below, meth, c⟩, ⟨D, cI, cJ⟩, ⟨ad0, n0, sl0, MC, MS, A⟩, Qf, L, xs⟩ := C
  intro ok ad H locs ls iv hl
  have hR := ok.2.2.2.1.2.2.2.2.2.1 i hi
  rw [hr.1, hr.2, show ad0 (1000 + i) = ad (1000 + i) from (iv.2.2.2.1 _ (Or.inr (by have := iv.2.2.2.2.2.2.2.2.1; omega))).symm] at hR
  exact va_ldcS (rest := st.map (ja_cv ad)) ok.1.1 ok.1.2.1 ok.1.2.2.2.1 hR hd (kk ok ad H locs ls iv hl)
theorem ja_ldc2 {idx : Nat} {v : Int64} (hd : decode M.1 pc = .ok (.ldc2_w idx, 3)) (hw : Cond.constantLong M.2.2.1 idx v ∈ ja_tb) (kk : ja_J M C (pc + 3) lv (.long v :: st) Λ σ zz) : ja_J M C pc lv st Λ σ zz := by
  obtain ⟨⟨p, l, e, R, s, m, args, below, meth, c⟩, ⟨D, cI, cJ⟩, ⟨ad0, n0, sl0, MC, MS, A⟩, Qf, L, xs⟩ := C
  intro ok ad H locs ls iv hl
  exact lv_ldc2 (rest := st.map (ja_cv ad)) ok.1.1 ok.1.2.1 ok.1.2.2.2.1 (ok.1.2.2.2.2 _ hw) hd (kk ok ad H locs ls iv hl)
theorem ja_ldcw {idx : Nat} {v : Int32} (hd : decode M.1 pc = .ok (.ldc_w idx, 3)) (hw : Cond.constant M.2.2.1 idx v ∈ ja_tb) (kk : ja_J M C (pc + 3) lv (.int v :: st) Λ σ zz) : ja_J M C pc lv st Λ σ zz := by
  obtain ⟨⟨p, l, e, R, s, m, args, below, meth, c⟩, ⟨D, cI, cJ⟩, ⟨ad0, n0, sl0, MC, MS, A⟩, Qf, L, xs⟩ := C
  intro ok ad H locs ls iv hl
  exact lv_ldcw (rest := st.map (ja_cv ad)) ok.1.1 ok.1.2.1 ok.1.2.2.2.1 (ok.1.2.2.2.2 _ hw) hd (kk ok ad H locs ls iv hl)
end JH
end
section
/-! contracts: what a method does with the whole abstract heap; how a walk gives one, how a call uses one -/
def ja_Pc (x : ja_X) (as : List Value) (Λ : ja_L) (σ : ja_S) (ad : Nat → Nat) (sz : Nat) : Array Value → State → Prop := va_Pc (as.map (ja_cv ad)) (fun U => U.heap.size = sz ∧ va_P x.1 classes (ja_wl x.2.1 x.2.2 Λ σ ad) U.heap ∧ va_K x.1 classes [(x.2.1, .int), (x.2.2, .long)] U ∧ va_D (fun _ => True) (ja_wl x.2.1 x.2.2 Λ σ ad) ∧ ja_SF ad (va_A (ja_wl x.2.1 x.2.2 Λ σ ad) sz) U U.heap)
def ja_Qc (x : ja_X) (zz : ja_Z) (n0 sl0 : Nat) (ad : Nat → Nat) (A : Nat → Prop) : Array Value → State → Outcome → State → Prop := fun _ st oc t => (∃ ad' : Nat → Nat, oc = .returned (zz.1.map (ja_cv ad')) ∧ (∀ k, k < n0 ∨ zz.2.1.1 ≤ k → ad' k = ad k) ∧ va_P x.1 classes (ja_wl x.2.1 x.2.2 zz.2.1 zz.2.2 ad') t.heap ∧ va_D A (ja_wl x.2.1 x.2.2 zz.2.1 zz.2.2 ad') ∧ (n0 ≤ zz.2.1.1 ∧ sl0 ≤ zz.2.1.2.1 ∧ zz.2.1.1 ≤ 1000 ∧ ja_wf zz.2.1)) ∧ va_F A st t
def ja_rm (M : ja_M) (mc ms : Nat) : Room := { frames := M.2.2.2.2.2.1, cells := mc, slots := ms, locals := M.2.2.2.2.2.2 }
def ja_Ct (l : Launch) (x : ja_X) (y : MethodName) (M : ja_M) (as : List Value) (Λ : ja_L) (σ : ja_S) (zz : ja_Z) : Prop := Λ.1 ≤ 1000 ∧ ja_wf Λ → ∀ (ad : Nat → Nat) (sz : Nat), Met l y (.code y M.1 M.2.1 M.2.2.2.2.1 :: ja_tb) (ja_rm M (zz.2.1.1 - Λ.1) (zz.2.1.2.1 - Λ.2.1)) (ja_Pc x as Λ σ ad sz) (ja_Qc x zz Λ.1 Λ.2.1 ad (va_A (ja_wl x.2.1 x.2.2 Λ σ ad) sz)) (zz.2.1.1 - Λ.1) (zz.2.1.2.1 - Λ.2.1) (va_A (ja_wl x.2.1 x.2.2 Λ σ ad) sz)
theorem ja_args (ad : Nat → Nat) : ∀ (as : List Value) (i : Nat), lv_args i (as.map (ja_cv ad)) = ja_cl ad (lv_args i as)
  | [], _ => rfl
  | a :: l, i => by
    rw [List.map_cons, lv_args, lv_args, ja_args ad l, ja_cat]
    rfl
theorem ja_slen (ad : Nat → Nat) : ∀ (as : List Value), (lg_sl (as.map (ja_cv ad))).length = (lg_sl as).length
  | [] => rfl
  | a :: l => by
    have h := ja_slen ad l
    unfold lg_sl at h ⊢
    rw [List.map_cons, List.flatMap_cons, List.flatMap_cons, List.length_append, List.length_append, h, ja_cat]
    by_cases hc : a.category = 2
    · rw [if_pos hc, if_pos hc]; rfl
    · rw [if_neg hc, if_neg hc]; rfl
/-- a walk from the entry gives the contract -/
theorem ja_mk {M : ja_M} {l : Launch} {x : ja_X} {y : MethodName} {as : List Value} {lv : List (Nat × Value)} {Λ : ja_L} {σ : ja_S} {zz : ja_Z} (hy : plainName y.cls = true ∧ y.cls = M.2.2.1 ∧ y.name = M.2.2.2.1) (hn : (lg_sl as).length ≤ M.2.1) (hlv : lv_args 0 as = lv)
    (hJ : ∀ C : ja_C, C.1.2.1 = l → C.2.1 = x → C.2.2.1.2.1 = Λ.1 → C.2.2.1.2.2.1 = Λ.2.1 → C.2.2.1.2.2.2.1 = zz.2.1.1 - Λ.1 → C.2.2.1.2.2.2.2.1 = zz.2.1.2.1 - Λ.2.1 → ja_J M C 0 lv [] Λ σ zz) : ja_Ct l x y M as Λ σ zz := by
  intro hΛ ad sz
  obtain ⟨D, cI, cJ⟩ := x
  refine Met.ofW (cc := M.1) (maxL := M.2.1) (ret := M.2.2.2.2.1) hy.1 rfl ?_
  intro p e s m args below meth c s₁ B hml hv
  obtain ⟨rfl, hsz, hP, hK, hD0, hSF⟩ := hv
  have hts := atoms_spec (ws := .code y M.1 M.2.1 M.2.2.2.2.1 :: ja_tb) B.pre
  have hown : s.vm.findClass M.2.2.1 = some m.cls := hy.2.1 ▸ findClass_of_methodNamed B.named
  have hlocks := B.notSynchronized
  have hr := B.returns
  subst hsz
  have hD := hD0.self (sz := s.heap.size)
  have hl := lv_entry (as.map (ja_cv ad)) (n := M.2.1) (by rw [ja_slen]; exact hn)
  rw [ja_args, hlv] at hl
  rw [lg_entry_eq]
  generalize hA0 : va_A (ja_wl cI cJ Λ σ ad) s.heap.size = A at hSF hD ⊢
  generalize (lg_sl (as.map (ja_cv ad)) ++ List.replicate (M.2.1 - (lg_sl (as.map (ja_cv ad))).length) Slot.unset).toArray = ls at hl ⊢
  have key := hJ ((p, l, e, ja_rm M (zz.2.1.1 - Λ.1) (zz.2.1.2.1 - Λ.2.1), s, m, (as.map (ja_cv ad)).toArray, below, meth, c), (D, cI, cJ), (ad, Λ.1, Λ.2.1, zz.2.1.1 - Λ.1, zz.2.1.2.1 - Λ.2.1, A), (fun z2 => MQ below (ja_Qc (D, cI, cJ) z2 Λ.1 Λ.2.1 ad A) (as.map (ja_cv ad)).toArray s (z2.2.1.1 - Λ.1) (z2.2.1.2.1 - Λ.2.1) A), 0, fun _ => 0) rfl rfl rfl rfl rfl rfl
  have hok : ja_ok M ((p, l, e, ja_rm M (zz.2.1.1 - Λ.1) (zz.2.1.2.1 - Λ.2.1), s, m, (as.map (ja_cv ad)).toArray, below, meth, c), (D, cI, cJ), (ad, Λ.1, Λ.2.1, zz.2.1.1 - Λ.1, zz.2.1.2.1 - Λ.2.1, A), (fun z2 => MQ below (ja_Qc (D, cI, cJ) z2 Λ.1 Λ.2.1 ad A) (as.map (ja_cv ad)).toArray s (z2.2.1.1 - Λ.1) (z2.2.1.2.1 - Λ.2.1) A), 0, fun _ => 0) := by
    refine ⟨⟨B.exec, B.bytes, hml, hown, fun w hw => hts w (List.mem_cons_of_mem _ hw)⟩, hK, fun q hq => by rw [← hA0]; exact Or.inr hq, hSF, ⟨Nat.le_refl _, Nat.le_refl _, Nat.le_refl _, Nat.le_refl _⟩, fun h => by rw [(name_of_methodNamed B.named B.method).1, hy.2.2]; exact h, Or.inl rfl, ?_⟩
    intro v ad2 Λ2 σ2 H locs pc ls2 hd hi iv
    have hq : ∀ t : State, t.heap = H → s.WarmedH t.vm → ja_Qc (D, cI, cJ) (v, Λ2, σ2) Λ.1 Λ.2.1 ad A (as.map (ja_cv ad)).toArray s (.returned (v.map (ja_cv ad2))) t := by
      intro t ht hW
      exact ⟨⟨ad2, rfl, iv.2.2.2.1, by rw [ht]; exact iv.1, iv.2.1, iv.2.2.2.2.1, iv.2.2.2.2.2.1, iv.2.2.2.2.2.2.2.2.1, iv.2.2.2.2.2.2.2.2.2⟩, iv.2.2.1.F ht⟩
    have hf := iv.2.2.1.2.2
    generalize hrr : M.2.2.2.2.1 = rr at hi hd hr
    cases v with
    | none =>
      cases rr with
      | none => exact W.vret B.exec B.bytes hr hq hf hd
      | some ty => simp [ja_ri] at hi
    | some v =>
      cases rr with
      | none => simp [ja_ri] at hi
      | some ty =>
        cases ty <;> cases v <;> (try (simp [ja_ri] at hi; done))
        · rename_i z
          have hz : narrow .byte (.int z) = .int z := by
            by_cases h : narrow .byte (.int z) = .int z
            · exact h
            · simp [ja_ri, h] at hi
          have hd2 : decode M.1 pc = .ok (.ireturn, 1) := by
            rw [hd]; simp [ja_ri, hz]
          exact W.zret (ty := .byte) B.exec B.bytes hr hz hq hf hd2
        · rename_i z
          have hz : narrow .char (.int z) = .int z := by
            by_cases h : narrow .char (.int z) = .int z
            · exact h
            · simp [ja_ri, h] at hi
          have hd2 : decode M.1 pc = .ok (.ireturn, 1) := by
            rw [hd]; simp [ja_ri, hz]
          exact W.zret (ty := .char) B.exec B.bytes hr hz hq hf hd2
        · exact W.iret B.exec B.bytes hr hq hf hd
        · exact W.lret B.exec B.bytes hr hq hf hd
        · rename_i z
          have hz : z = 0 ∨ z = 1 := by
            by_cases h : z = 0 ∨ z = 1
            · exact h
            · simp [ja_ri, h] at hi
          have hd2 : decode M.1 pc = .ok (.ireturn, 1) := by
            rw [hd]; simp [ja_ri, hz]
          refine W.zret (ty := .boolean) B.exec B.bytes hr ?_ hq hf hd2
          rcases hz with rfl | rfl <;> rfl
        · exact W.aret B.exec B.bytes hr (Or.inl ⟨_, rfl⟩) (Or.inr ⟨_, rfl⟩) hq hf hd
  have h2 := key hok ad s.heap [] ls ⟨hP, hD, va_S.rf, fun _ _ => rfl, Nat.le_refl _, Nat.le_refl _, by omega, by omega, hΛ.1, hΛ.2⟩ hl
  have e1 : Λ.1 - Λ.1 = 0 := Nat.sub_self _
  have e2 : Λ.2.1 - Λ.2.1 = 0 := Nat.sub_self _
  unfold ja_W at h2
  dsimp only at h2
  rw [e1, e2] at h2
  exact h2
/-- behind a call -/
theorem ja_after {p : Program} {l : Launch} {e : Env} {R : Room} {s : State} {m : MethodId} {args : Array Value} {below : List Frame} {meth : Method} {c : Code} {H : Heap} {locs : List Loc} {cells slots : Nat} {Q : State → Prop} {pc : Nat} {ls : Array Slot} {rest st0 : List Value} {a : Array Value} {A0 A1 : Nat → Prop} {H0 : Heap} {mc ms n1 sl1 : Nat} {free : Addr → Prop} {x : ja_X} {z1 : ja_Z} {ad : Nat → Nat}
    (hr : va_Run p l e R s m args below meth c H locs cells slots mc ms (F0 m pc ls st0) rest (ja_Qc x z1 n1 sl1 ad A1 a) free) (hS : va_S A0 H0 H locs) (hA : ∀ q, q < H.size → A1 q → A0 q) (hf : ∀ q, free q → A0 q)
    (kk : ∀ (ad' : Nat → Nat) (H1 : Heap) (locs1 : List Loc), (∀ k, k < n1 ∨ z1.2.1.1 ≤ k → ad' k = ad k) → va_P x.1 classes (ja_wl x.2.1 x.2.2 z1.2.1 z1.2.2 ad') H1 → va_D A1 (ja_wl x.2.1 x.2.2 z1.2.1 z1.2.2 ad') → (n1 ≤ z1.2.1.1 ∧ sl1 ≤ z1.2.1.2.1 ∧ z1.2.1.1 ≤ 1000 ∧ ja_wf z1.2.1) → va_S A0 H0 H1 locs1 → W p l e R s m args below meth c H1 locs1 (cells + mc) (slots + ms) Q (F0 m (pc + 3) ls ((z1.1.map (ja_cv ad')).toList ++ rest))) : W p l e R s m args below meth c H locs cells slots Q (F0 m pc ls st0) := by
  intro T hT X
  obtain ⟨v, st₀, t, T', L, h0, X', hL, e1, e2, ⟨⟨ad', hv, h1, h2, h3, h4⟩, hz, hk⟩, st⟩ := hr T hT X
  cases hv
  rw [h0] at hz hk
  obtain ⟨t2, a1, b1⟩ := kk ad' T'.heap (locs ++ L) h1 (by rw [e1]; exact h2) h3 h4
    ⟨Nat.le_trans hS.1 (by rw [e1]; exact hz), fun q g1 g2 => by rw [e1, hk q (Nat.lt_of_lt_of_le g1 hS.1) (fun z => g2 (hA q (Nat.lt_of_lt_of_le g1 hS.1) z))]; exact hS.2.1 q g1 g2, fun q hq => by
      rcases List.mem_append.mp hq with h | h
      · exact hS.2.2 q h
      · exact hf _ (hL q h)⟩ T' rfl X'
  exact ⟨t2, st t2 a1, b1⟩
theorem ja_blind {x : ja_X} {as : List Value} {Λ : ja_L} {σ : ja_S} {ad : Nat → Nat} {sz : Nat} : FrameBlind (ja_Pc x as Λ σ ad sz) := by
  intro a U g mk q
  obtain ⟨q0, q1, qP, qK, qD, qS⟩ := q
  exact ⟨q0, q1, qP, va_K.moved (u := U) (U := U.calling g mk a) (Vm.Alike.refl U.vm) qK, qD, ja_SF_same rfl qS⟩
/-- what a call of y says of the tables -/
def ja_kB (y : MethodName) (M' : ja_M) (n : Nat) : Prop := Cond.initialized y.cls ∈ ja_tb ∧ Cond.code y M'.1 M'.2.1 M'.2.2.2.2.1 ∈ ja_tb ∧ y.cls ≠ "java/lang/invoke/MethodHandle" ∧ y.cls ≠ "java/lang/invoke/VarHandle" ∧ (parseMethodDescriptor y.desc).map (fun d => d.parameters.length) = some n
def ja_kV (y : MethodName) (M' : ja_M) (n t : Nat) : Prop := ja_kB y M' n ∧ Cond.instanceMethod y ∈ ja_tb ∧ Cond.selects y.cls y y ∈ ja_tb ∧ ∃ q, classes[t]? = some q ∧ q.1 = y.cls
def ja_kS (y : MethodName) (M' : ja_M) (n : Nat) : Prop := ja_kB y M' n ∧ Cond.static y ∈ ja_tb
def ja_rr (M M' : ja_M) : Prop := M'.2.2.2.2.2.1 + 1 ≤ M.2.2.2.2.2.1 ∧ 8 + (M'.2.1 + 11) + M'.2.2.2.2.2.2 ≤ M.2.2.2.2.2.2
section JC
variable {M M' : ja_M} {C : ja_C} {pc idx t b n : Nat} {lv : List (Nat × Value)} {st st0 as : List Value} {Λ : ja_L} {σ σ1 : ja_S} {zz : ja_Z} {y : MethodName} {v1 : Option Value}
theorem ja_callV0 (hd : decode M.1 pc = .ok (.invokevirtual idx, 3)) (hk : ja_kV y M' n t) (hlink : Cond.methodLink M.2.2.1 idx y ∈ ja_tb) (hro : ja_rr M M') (hM : ja_Ct C.1.2.1 C.2.1 y M' (.ref b :: as) Λ σ (v1, Λ, σ1)) (hb : ja_ob Λ t b) (hn : as.length = n) (hst : (st.map fun v => v.category).sum ≤ 8) (hs : st0 = as.reverse ++ .ref b :: st) (kk : ja_J M C (pc + 3) lv (v1.toList ++ st) Λ σ1 zz) : ja_J M C pc lv st0 Λ σ zz := by
  obtain ⟨⟨p, l, e, R, s, m, args, below, meth, c⟩, ⟨D, cI, cJ⟩, ⟨ad0, n0, sl0, MC, MS, A⟩, Qf, L, xs⟩ := C
  intro ok ad H locs ls iv hl
  subst hs
  obtain ⟨iP, iD, iS, i4, i5⟩ := iv
  obtain ⟨⟨k1, k2, k3⟩, k4, k5, q, k6, k7⟩ := hk
  have hM := hM ⟨i5.2.2.2.2.1, i5.2.2.2.2.2⟩ ad H.size
  have hts := ok.1.2.2.2.2
  have hFc : ∀ q, va_A (ja_wl cI cJ Λ σ ad) H.size q → A q := by
    intro q h
    rcases h with ⟨k, e, h⟩ | h
    · exact iD.2 _ _ h
    · exact ok.2.2.1 q (Nat.le_trans iS.1 h)
  have z0 : (v1, Λ, σ1).2.1.1 - Λ.1 = 0 := Nat.sub_self _
  have z1 : (v1, Λ, σ1).2.1.2.1 - Λ.2.1 = 0 := Nat.sub_self _
  have hrun := va_runV (p := p) (e := e) (R := R) (below := below) (meth := meth) (H := H) (locs := locs) (cells := Λ.1 - n0) (slots := Λ.2.1 - sl0) (b := ad b) (As := as.map (ja_cv ad)) (rest := st.map (ja_cv ad)) (g := F0 m pc ls ((as.reverse ++ .ref b :: st).map (ja_cv ad))) (n := n) (C := y.cls) (index := idx) ok.1 hM ⟨callB_of (Ts := ja_tb) n hts (ja_good k2) rfl rfl rfl (hts _ k1) (hts _ hlink) k3 ⟨Nat.le_trans hro.1 ok.2.2.2.2.1.1, Nat.le_trans hro.2 ok.2.2.2.2.1.2.1⟩, hts _ k4, hts _ k5⟩
    ⟨ja_blind, by have h := va_recv ok.2.1 iP k6 (ja_wl_o hb); rw [k7] at h; exact h, fun U hU hW => ⟨rfl, by rw [hU], by rw [hU]; exact iP, va_K.moved hW.alike ok.2.1, iD.weaken (fun _ _ _ _ => trivial), by
      have h1 := ja_SF_narrow (ja_SF_moved hW (ja_SF_kept (ja_SF_ad ok.2.2.2.1 (fun k hk => i4 k (Or.inr (by omega)))) iS.2.1)) hFc
      rw [hU]
      exact h1⟩⟩
    rfl (by rw [List.length_map]; exact hn) hl.1 (by simp [ja_cv]) (lv_room (by rw [ja_cats]; exact hst)) hd ⟨by rw [z0]; have := ok.2.2.2.2.1.2.2.1; omega, by rw [z1]; have := ok.2.2.2.2.1.2.2.2; omega⟩
  refine ja_after (x := (D, cI, cJ)) hrun iS (fun q _ h => hFc q h) hFc (fun ad' H1 locs1 h1 h2 h3 h4 h5 => ?_)
  have ha : ad' = ad := funext fun k => h1 k (by show k < Λ.1 ∨ Λ.1 ≤ k; omega)
  subst ha
  have h6 := kk ok ad' H1 locs1 ls ⟨h2, h3.weaken (fun _ _ _ h => hFc _ h), h5, i4, i5⟩ hl
  rw [z0, z1, Nat.add_zero, Nat.add_zero]
  have e1 : (v1.map (ja_cv ad')).toList ++ st.map (ja_cv ad') = (v1.toList ++ st).map (ja_cv ad') := by cases v1 <;> rfl
  show W p l e R s m args below meth c H1 locs1 (Λ.1 - n0) (Λ.2.1 - sl0) (Qf zz) (F0 m (pc + 3) ls ((v1.map (ja_cv ad')).toList ++ st.map (ja_cv ad')))
  rw [e1]
  exact h6
theorem ja_callS0 (hd : decode M.1 pc = .ok (.invokestatic idx, 3)) (hk : ja_kS y M' n) (hlink : Cond.methodLink M.2.2.1 idx y ∈ ja_tb) (hro : ja_rr M M') (hM : ja_Ct C.1.2.1 C.2.1 y M' as Λ σ (v1, Λ, σ1)) (hn : as.length = n) (hst : (st.map fun v => v.category).sum ≤ 8) (hs : st0 = as.reverse ++ st) (kk : ja_J M C (pc + 3) lv (v1.toList ++ st) Λ σ1 zz) : ja_J M C pc lv st0 Λ σ zz := by
  obtain ⟨⟨p, l, e, R, s, m, args, below, meth, c⟩, ⟨D, cI, cJ⟩, ⟨ad0, n0, sl0, MC, MS, A⟩, Qf, L, xs⟩ := C
  intro ok ad H locs ls iv hl
  subst hs
  obtain ⟨iP, iD, iS, i4, i5⟩ := iv
  obtain ⟨⟨k1, k2, k3⟩, k4⟩ := hk
  have hM := hM ⟨i5.2.2.2.2.1, i5.2.2.2.2.2⟩ ad H.size
  have hts := ok.1.2.2.2.2
  have hFc : ∀ q, va_A (ja_wl cI cJ Λ σ ad) H.size q → A q := by
    intro q h
    rcases h with ⟨k, e, h⟩ | h
    · exact iD.2 _ _ h
    · exact ok.2.2.1 q (Nat.le_trans iS.1 h)
  have z0 : (v1, Λ, σ1).2.1.1 - Λ.1 = 0 := Nat.sub_self _
  have z1 : (v1, Λ, σ1).2.1.2.1 - Λ.2.1 = 0 := Nat.sub_self _
  have hrun := va_runS (p := p) (e := e) (R := R) (below := below) (meth := meth) (H := H) (locs := locs) (cells := Λ.1 - n0) (slots := Λ.2.1 - sl0) (As := as.map (ja_cv ad)) (rest := st.map (ja_cv ad)) (g := F0 m pc ls ((as.reverse ++ st).map (ja_cv ad))) (n := n) (index := idx) ok.1 hM ⟨callB_of (Ts := ja_tb) n hts (ja_good k2) rfl rfl rfl (hts _ k1) (hts _ hlink) k3 ⟨Nat.le_trans hro.1 ok.2.2.2.2.1.1, Nat.le_trans hro.2 ok.2.2.2.2.1.2.1⟩, hts _ k4⟩
    ⟨ja_blind, fun U hU hW => ⟨rfl, by rw [hU], by rw [hU]; exact iP, va_K.moved hW.alike ok.2.1, iD.weaken (fun _ _ _ _ => trivial), by
      have h1 := ja_SF_narrow (ja_SF_moved hW (ja_SF_kept (ja_SF_ad ok.2.2.2.1 (fun k hk => i4 k (Or.inr (by omega)))) iS.2.1)) hFc
      rw [hU]
      exact h1⟩⟩
    rfl (by rw [List.length_map]; exact hn) hl.1 (by simp) (lv_room (by rw [ja_cats]; exact hst)) hd ⟨by rw [z0]; have := ok.2.2.2.2.1.2.2.1; omega, by rw [z1]; have := ok.2.2.2.2.1.2.2.2; omega⟩
  refine ja_after (x := (D, cI, cJ)) hrun iS (fun q _ h => hFc q h) hFc (fun ad' H1 locs1 h1 h2 h3 h4 h5 => ?_)
  have ha : ad' = ad := funext fun k => h1 k (by show k < Λ.1 ∨ Λ.1 ≤ k; omega)
  subst ha
  have h6 := kk ok ad' H1 locs1 ls ⟨h2, h3.weaken (fun _ _ _ h => hFc _ h), h5, i4, i5⟩ hl
  rw [z0, z1, Nat.add_zero, Nat.add_zero]
  have e1 : (v1.map (ja_cv ad')).toList ++ st.map (ja_cv ad') = (v1.toList ++ st).map (ja_cv ad') := by cases v1 <;> rfl
  show W p l e R s m args below meth c H1 locs1 (Λ.1 - n0) (Λ.2.1 - sl0) (Qf zz) (F0 m (pc + 3) ls ((v1.map (ja_cv ad')).toList ++ st.map (ja_cv ad')))
  rw [e1]
  exact h6
end JC
end
section
/-! fewer locals; copies; Math.min and max; calls by what they answer -/
theorem ja_pick (ad : Nat → Nat) (lv : List (Nat × Value)) (ks : List Nat) : lv_pick (ja_cl ad lv) ks = ja_cl ad (lv_pick lv ks) := by
  unfold lv_pick ja_cl
  induction ks with
  | nil => rfl
  | cons k l ih =>
    simp only [List.filterMap_cons, List.getElem?_map]
    cases h : lv[k]? with
    | none => simpa using ih
    | some q => simpa using ih
theorem ja_ce_congr {cI cJ : ClassId} {Λ Λ' : ja_L} {σ σ' : ja_S} {ad ad' : Nat → Nat} {i : Nat} (h1 : Λ'.2.2.1 i = Λ.2.2.1 i) (h2 : ∀ j, (Λ'.2.2.2 i j).map ad' = (Λ.2.2.2 i j).map ad) (h3 : σ'.1 i = σ.1 i) (h4 : σ'.2 i = σ.2 i) : ja_ce cI cJ Λ' σ' ad' i = ja_ce cI cJ Λ σ ad i := by
  unfold ja_ce ja_fl
  rw [h1, h3, h4]
  simp only [h2]
theorem ja_ce_up1 {cI cJ : ClassId} {Λ : ja_L} {σ : ja_S} {ad : Nat → Nat} {k : Nat} {f : Nat → Int32} : ∀ i, i ≠ k → ja_ce cI cJ Λ (va_up σ.1 k f, σ.2) ad i = ja_ce cI cJ Λ σ ad i := fun _ hi => ja_ce_congr rfl (fun _ => rfl) (va_up_ne _ _ hi) rfl
theorem ja_ce_up2 {cI cJ : ClassId} {Λ : ja_L} {σ : ja_S} {ad : Nat → Nat} {k : Nat} {f : Nat → Int64} : ∀ i, i ≠ k → ja_ce cI cJ Λ (σ.1, va_up σ.2 k f) ad i = ja_ce cI cJ Λ σ ad i := fun _ hi => ja_ce_congr rfl (fun _ => rfl) rfl (va_up_ne _ _ hi)
theorem ja_tn {z : Int32} : z.toNatClampNeg = z.toInt.toNat := rfl
section JM
variable {M M' : ja_M} {C : ja_C} {pc idx t b n : Nat} {lv lv' : List (Nat × Value)} {st st0 as : List Value} {Λ : ja_L} {σ σ1 : ja_S} {zz : ja_Z} {y : MethodName} {v1 : Option Value}
theorem ja_lv (ks : List Nat) (h : lv_pick lv ks = lv') (k : ja_J M C pc lv' st Λ σ zz) : ja_J M C pc lv st Λ σ zz := by
  intro ok ad H locs ls iv hl
  exact k ok ad H locs ls iv (lv_sub hl ks (by rw [ja_pick, h]))
/-- arraycopy's words -/
def ja_kC (own : String) (idx : Nat) : Prop := Cond.methodLink own idx arraycopyName ∈ ja_tb ∧ Cond.native arraycopyName ∈ ja_tb ∧ Cond.static arraycopyName ∈ ja_tb ∧ Cond.initialized "java/lang/System" ∈ ja_tb
theorem ja_cpyi {a b : Nat} {sp dp n : Int32} {σ' : ja_S} (hd : decode M.1 pc = .ok (.invokestatic idx, 3)) (hk : ja_kC M.2.2.1 idx) (hro : 1 ≤ M.2.2.2.2.2.1 ∧ 26 ≤ M.2.2.2.2.2.2) (ha : ja_ai Λ a) (hb : ja_ai Λ b) (hst : (st.map fun v => v.category).sum ≤ 8) (hv : ja_cpi Λ σ a sp b dp n = some σ') (kk : ja_J M C (pc + 3) lv st Λ σ' zz) : ja_J M C pc lv (.int n :: .int dp :: .ref b :: .int sp :: .ref a :: st) Λ σ zz := by
  obtain ⟨⟨p, l, e, R, s, m, args, below, meth, c⟩, ⟨D, cI, cJ⟩, ⟨ad0, n0, sl0, MC, MS, A⟩, Qf, L, xs⟩ := C
  intro ok ad H locs ls iv hl
  obtain ⟨⟨g1, g2, g3, g4, g5⟩, rfl⟩ := ja_ite hv
  obtain ⟨iP, iD, iS, i4⟩ := iv
  obtain ⟨k1, k2, k3, k4⟩ := hk
  have hts := ok.1.2.2.2.2
  have hfr := ok.2.2.2.2.1
  refine va_copyi (rest := st.map (ja_cv ad)) ok.1.1 ok.1.2.1 (ok.1.2.2.1.trans hl.1.symm) ok.1.2.2.2.1 (hts _ k1) (hts _ k2) (hts _ k3) (hts _ k4) ok.2.1 iP iD iS a b 0 0 (ja_wl_i ha) (ja_wl_i hb) rfl rfl (by rfl) (ja_nn g1) (ja_nn g2) (ja_nn g3) (by rw [ja_tn, ja_tn]; omega) (by rw [ja_tn, ja_tn]; omega) (fun _ _ => rfl) (Nat.le_trans hro.1 hfr.1) (by rw [ja_cats]; show _ + 18 ≤ _; omega) hd (fun H1 locs1 hP hD hS => ?_)
  have e : (ja_wl cI cJ Λ σ ad).set b (ad b, .inl (cI, ja_len Λ b, .inl (va_cpy (σ.1 a) (σ.1 b) sp.toNatClampNeg dp.toNatClampNeg n.toNatClampNeg))) = ja_wl cI cJ Λ (va_up σ.1 b (va_cpy (σ.1 a) (σ.1 b) sp.toInt.toNat dp.toInt.toNat n.toInt.toNat), σ.2) ad := by
    refine ja_wl_set rfl ?_ ja_ce_up1
    rw [ja_ce_i hb.2]
    show Sum.inl (cI, _, Sum.inl (va_up σ.1 b _ b)) = _
    rw [va_up_self]
    rfl
  rw [e] at hP hD
  exact kk ok ad H1 locs1 ls ⟨hP, hD, hS, i4⟩ hl
theorem ja_cpyl {a b : Nat} {sp dp n : Int32} {σ' : ja_S} (hd : decode M.1 pc = .ok (.invokestatic idx, 3)) (hk : ja_kC M.2.2.1 idx) (hro : 1 ≤ M.2.2.2.2.2.1 ∧ 26 ≤ M.2.2.2.2.2.2) (ha : ja_al Λ a) (hb : ja_al Λ b) (hst : (st.map fun v => v.category).sum ≤ 8) (hv : ja_cpl Λ σ a sp b dp n = some σ') (kk : ja_J M C (pc + 3) lv st Λ σ' zz) : ja_J M C pc lv (.int n :: .int dp :: .ref b :: .int sp :: .ref a :: st) Λ σ zz := by
  obtain ⟨⟨p, l, e, R, s, m, args, below, meth, c⟩, ⟨D, cI, cJ⟩, ⟨ad0, n0, sl0, MC, MS, A⟩, Qf, L, xs⟩ := C
  intro ok ad H locs ls iv hl
  obtain ⟨⟨g1, g2, g3, g4, g5⟩, rfl⟩ := ja_ite hv
  obtain ⟨iP, iD, iS, i4⟩ := iv
  obtain ⟨k1, k2, k3, k4⟩ := hk
  have hts := ok.1.2.2.2.2
  have hfr := ok.2.2.2.2.1
  refine va_copyl (rest := st.map (ja_cv ad)) ok.1.1 ok.1.2.1 (ok.1.2.2.1.trans hl.1.symm) ok.1.2.2.2.1 (hts _ k1) (hts _ k2) (hts _ k3) (hts _ k4) ok.2.1 iP iD iS a b 1 1 (ja_wl_l ha) (ja_wl_l hb) rfl rfl (by rfl) (ja_nn g1) (ja_nn g2) (ja_nn g3) (by rw [ja_tn, ja_tn]; omega) (by rw [ja_tn, ja_tn]; omega) (fun _ _ => rfl) (Nat.le_trans hro.1 hfr.1) (by rw [ja_cats]; show _ + 18 ≤ _; omega) hd (fun H1 locs1 hP hD hS => ?_)
  have e : (ja_wl cI cJ Λ σ ad).set b (ad b, .inl (cJ, ja_len Λ b, .inr (.inl (va_cpy (σ.2 a) (σ.2 b) sp.toNatClampNeg dp.toNatClampNeg n.toNatClampNeg)))) = ja_wl cI cJ Λ (σ.1, va_up σ.2 b (va_cpy (σ.2 a) (σ.2 b) sp.toInt.toNat dp.toInt.toNat n.toInt.toNat)) ad := by
    refine ja_wl_set rfl ?_ ja_ce_up2
    rw [ja_ce_l hb.2]
    show Sum.inl (cJ, _, Sum.inr (Sum.inl (va_up σ.2 b _ b))) = _
    rw [va_up_self]
    rfl
  rw [e] at hP hD
  exact kk ok ad H1 locs1 ls ⟨hP, hD, hS, i4⟩ hl
theorem ja_max {x y : Int32} (hd : decode M.1 pc = .ok (.invokestatic idx, 3)) (hk : Cond.methodLink M.2.2.1 idx Lib.Math.max.name ∈ ja_tb ∧ Cond.static Lib.Math.max.name ∈ ja_tb ∧ Cond.initialized "java/lang/Math" ∈ ja_tb ∧ Cond.code Lib.Math.max.name Lib.Math.max.code 2 (some .int) ∈ ja_tb) (hro : 1 ≤ M.2.2.2.2.2.1 ∧ 26 ≤ M.2.2.2.2.2.2) (hst : (st.map fun v => v.category).sum ≤ 8) (kk : ja_J M C (pc + 3) lv (.int (if x < y then y else x) :: st) Λ σ zz) : ja_J M C pc lv (.int y :: .int x :: st) Λ σ zz := by
  obtain ⟨⟨p, l, e, R, s, m, args, below, meth, c⟩, ⟨D, cI, cJ⟩, ⟨ad0, n0, sl0, MC, MS, A⟩, Qf, L, xs⟩ := C
  intro ok ad H locs ls iv hl
  obtain ⟨k1, k2, k3, k4⟩ := hk
  have hts := ok.1.2.2.2.2
  have hfr := ok.2.2.2.2.1
  have hi5 := iv.2.2.2.2
  exact va_mmax (rest := st.map (ja_cv ad)) ok.1.1 ok.1.2.1 (ok.1.2.2.1.trans hl.1.symm) ok.1.2.2.2.1 (hts _ k1) (hts _ k2) (hts _ k3) (hts _ k4) (Nat.le_trans hro.1 hfr.1) (by rw [ja_cats]; omega) (by omega) (by omega) hd (kk ok ad H locs ls iv hl)
theorem ja_min {x y : Int32} (hd : decode M.1 pc = .ok (.invokestatic idx, 3)) (hk : Cond.methodLink M.2.2.1 idx Lib.Math.min.name ∈ ja_tb ∧ Cond.static Lib.Math.min.name ∈ ja_tb ∧ Cond.initialized "java/lang/Math" ∈ ja_tb ∧ Cond.code Lib.Math.min.name Lib.Math.min.code 2 (some .int) ∈ ja_tb) (hro : 1 ≤ M.2.2.2.2.2.1 ∧ 26 ≤ M.2.2.2.2.2.2) (hst : (st.map fun v => v.category).sum ≤ 8) (kk : ja_J M C (pc + 3) lv (.int (if y < x then y else x) :: st) Λ σ zz) : ja_J M C pc lv (.int y :: .int x :: st) Λ σ zz := by
  obtain ⟨⟨p, l, e, R, s, m, args, below, meth, c⟩, ⟨D, cI, cJ⟩, ⟨ad0, n0, sl0, MC, MS, A⟩, Qf, L, xs⟩ := C
  intro ok ad H locs ls iv hl
  obtain ⟨k1, k2, k3, k4⟩ := hk
  have hts := ok.1.2.2.2.2
  have hfr := ok.2.2.2.2.1
  have hi5 := iv.2.2.2.2
  exact va_mmin (rest := st.map (ja_cv ad)) ok.1.1 ok.1.2.1 (ok.1.2.2.1.trans hl.1.symm) ok.1.2.2.2.1 (hts _ k1) (hts _ k2) (hts _ k3) (hts _ k4) (Nat.le_trans hro.1 hfr.1) (by rw [ja_cats]; omega) (by omega) (by omega) hd (kk ok ad H locs ls iv hl)
/-- a static method of a nest mate -/
theorem ja_callN0 (q : Nat) {host : String} (hd : decode M.1 pc = .ok (.invokestatic idx, 3)) (hk : ja_kS y M' n) (hlink : ja_nk[q]? = some (M.2.2.1, idx, y, host)) (hro : ja_rr M M') (hM : ja_Ct C.1.2.1 C.2.1 y M' as Λ σ (v1, Λ, σ1)) (hn : as.length = n) (hst : (st.map fun v => v.category).sum ≤ 8) (hs : st0 = as.reverse ++ st) (kk : ja_J M C (pc + 3) lv (v1.toList ++ st) Λ σ1 zz) : ja_J M C pc lv st0 Λ σ zz := by
  obtain ⟨⟨p, l, e, R, s, m, args, below, meth, c⟩, ⟨D, cI, cJ⟩, ⟨ad0, n0, sl0, MC, MS, A⟩, Qf, L, xs⟩ := C
  intro ok ad H locs ls iv hl
  subst hs
  obtain ⟨iP, iD, iS, i4, i5⟩ := iv
  obtain ⟨⟨k1, k2, k3⟩, k4⟩ := hk
  have hM := hM ⟨i5.2.2.2.2.1, i5.2.2.2.2.2⟩ ad H.size
  have hts := ok.1.2.2.2.2
  have hFc : ∀ q, va_A (ja_wl cI cJ Λ σ ad) H.size q → A q := by
    intro q h
    rcases h with ⟨k, e, h⟩ | h
    · exact iD.2 _ _ h
    · exact ok.2.2.1 q (Nat.le_trans iS.1 h)
  have z0 : (v1, Λ, σ1).2.1.1 - Λ.1 = 0 := Nat.sub_self _
  have z1 : (v1, Λ, σ1).2.1.2.1 - Λ.2.1 = 0 := Nat.sub_self _
  have hrun := va_runSN (p := p) (e := e) (R := R) (below := below) (meth := meth) (H := H) (locs := locs) (cells := Λ.1 - n0) (slots := Λ.2.1 - sl0) (As := as.map (ja_cv ad)) (rest := st.map (ja_cv ad)) (g := F0 m pc ls ((as.reverse ++ st).map (ja_cv ad))) (n := n) (index := idx) ok.1 hM ⟨va_cnB (Ts := ja_tb) n hts (ja_good k2) rfl rfl rfl (ok.2.2.2.1.2.2.2.2.2.2 _ (List.mem_of_getElem? hlink)) (hts _ k1) k3 ⟨Nat.le_trans hro.1 ok.2.2.2.2.1.1, Nat.le_trans hro.2 ok.2.2.2.2.1.2.1⟩, hts _ k4, trivial⟩
    ⟨ja_blind, fun U hU hW => ⟨rfl, by rw [hU], by rw [hU]; exact iP, va_K.moved hW.alike ok.2.1, iD.weaken (fun _ _ _ _ => trivial), by
      have h1 := ja_SF_narrow (ja_SF_moved hW (ja_SF_kept (ja_SF_ad ok.2.2.2.1 (fun k hk => i4 k (Or.inr (by omega)))) iS.2.1)) hFc
      rw [hU]
      exact h1⟩⟩
    rfl (by rw [List.length_map]; exact hn) hl.1 (by simp) (lv_room (by rw [ja_cats]; exact hst)) hd ⟨by rw [z0]; have := ok.2.2.2.2.1.2.2.1; omega, by rw [z1]; have := ok.2.2.2.2.1.2.2.2; omega⟩
  refine ja_after (x := (D, cI, cJ)) hrun iS (fun q _ h => hFc q h) hFc (fun ad' H1 locs1 h1 h2 h3 h4 h5 => ?_)
  have ha : ad' = ad := funext fun k => h1 k (by show k < Λ.1 ∨ Λ.1 ≤ k; omega)
  subst ha
  have h6 := kk ok ad' H1 locs1 ls ⟨h2, h3.weaken (fun _ _ _ h => hFc _ h), h5, i4, i5⟩ hl
  rw [z0, z1, Nat.add_zero, Nat.add_zero]
  have e1 : (v1.map (ja_cv ad')).toList ++ st.map (ja_cv ad') = (v1.toList ++ st).map (ja_cv ad') := by cases v1 <;> rfl
  show W p l e R s m args below meth c H1 locs1 (Λ.1 - n0) (Λ.2.1 - sl0) (Qf zz) (F0 m (pc + 3) ls ((v1.map (ja_cv ad')).toList ++ st.map (ja_cv ad')))
  rw [e1]
  exact h6
end JM
/-- the ends of the printed functions -/
def ja_pu (σ : ja_S) (k j : Nat) (v : Int32) : Option ja_S := some (ja_si σ k j v)
def ja_rb (v : Int32) (σ : ja_S) : Option (Int32 × ja_S) := if v = 0 ∨ v = 1 then some (v, σ) else none
def ja_dv (x y : Int32) : Option Int32 := if y = 0 then none else some (x / y)
def ja_rmd (x y : Int32) : Option Int32 := if y = 0 then none else some (x - x / y * y)
def ja_FU : Nat := 10000
end
section
theorem ja_m0 (i : Nat) {w : Cond} (h : (k2_sels lw_privs)[i]? = some w) (hg : goodWord w = true) : w ∈ ja_tb := List.mem_filter.mpr ⟨List.mem_append_left _ (List.mem_of_getElem? h), hg⟩
theorem ja_m1 (i : Nat) {w : Cond} (h : tables_1_1[i]? = some w) (hg : goodWord w = true) : w ∈ ja_tb := List.mem_filter.mpr ⟨List.mem_append_right _ (List.mem_append_left _ (List.mem_of_getElem? h)), hg⟩
theorem ja_m2 (i : Nat) {w : Cond} (h : tables_1_2[i]? = some w) (hg : goodWord w = true) : w ∈ ja_tb := List.mem_filter.mpr ⟨List.mem_append_right _ (List.mem_append_right _ (List.mem_append_left _ (List.mem_of_getElem? h))), hg⟩
theorem ja_m3 (i : Nat) {w : Cond} (h : tables_1_3[i]? = some w) (hg : goodWord w = true) : w ∈ ja_tb := List.mem_filter.mpr ⟨List.mem_append_right _ (List.mem_append_right _ (List.mem_append_right _ (List.mem_append_left _ (List.mem_of_getElem? h)))), hg⟩
theorem ja_m4 (i : Nat) {w : Cond} (h : tables_1_4[i]? = some w) (hg : goodWord w = true) : w ∈ ja_tb := List.mem_filter.mpr ⟨List.mem_append_right _ (List.mem_append_right _ (List.mem_append_right _ (List.mem_append_right _ (List.mem_append_left _ (List.mem_of_getElem? h))))), hg⟩
theorem ja_m5 (i : Nat) {w : Cond} (h : tables_1_5[i]? = some w) (hg : goodWord w = true) : w ∈ ja_tb := List.mem_filter.mpr ⟨List.mem_append_right _ (List.mem_append_right _ (List.mem_append_right _ (List.mem_append_right _ (List.mem_append_right _ (List.mem_append_left _ (List.mem_of_getElem? h)))))), hg⟩
theorem ja_m6 (i : Nat) {w : Cond} (h : tables_1_6[i]? = some w) (hg : goodWord w = true) : w ∈ ja_tb := List.mem_filter.mpr ⟨List.mem_append_right _ (List.mem_append_right _ (List.mem_append_right _ (List.mem_append_right _ (List.mem_append_right _ (List.mem_append_right _ (List.mem_of_getElem? h)))))), hg⟩
/-! the layout behind both constructors -/
def ja_shl : List (Nat × Nat) := [(9, 0), (0, 900), (8, 0), (7, 0), (0, 24), (0, 8), (0, 8), (0, 8), (7, 0), (0, 24), (0, 8), (0, 8), (0, 8), (2, 0), (0, 12), (0, 12), (0, 12), (6, 0), (4, 0), (1, 64), (1, 768), (0, 4096), (0, 4096), (6, 0), (4, 0), (1, 64), (1, 768), (0, 4096), (0, 4096), (3, 0), (4, 0), (1, 64), (1, 768), (0, 8), (5, 0), (7, 0), (0, 24), (0, 8), (0, 8), (0, 8), (7, 0), (0, 24), (0, 8), (0, 8), (0, 8), (10, 0), (0, 98), (0, 1176), (0, 8), (0, 8), (0, 8), (0, 900), (0, 100), (0, 8), (0, 8), (0, 8), (0, 128), (0, 8), (0, 4096), (0, 4096), (0, 8), (0, 4096), (0, 128), (0, 8)]
def ja_rfl : List (List (Option Nat)) := [[some 1, none, some 2, some 3, some 8, some 13, none, some 17, none, some 23, some 29, none, none, some 34, none, none], [], [none, none, some 1, none, none, none], [none, none, some 4, none, some 5, none, some 6, some 7, none], [], [], [], [], [none, none, some 9, none, some 10, none, some 11, some 12, none], [], [], [], [], [none, none, none, none, some 14, some 15, some 16], [], [], [], [some 18, none, none, some 21, some 22], [some 19, some 20], [], [], [], [], [some 24, none, none, some 27, some 28], [some 25, some 26], [], [], [], [], [some 23, some 30, some 33, none], [some 31, some 32], [], [], [], [some 23, some 35, some 40, none, none], [none, none, some 36, none, some 37, none, some 38, some 39, none], [], [], [], [], [none, none, some 41, none, some 42, none, some 43, some 44, none], [], [], [], [], [none, none, none, some 46, some 47, some 48, some 49, some 50, none, none, some 51, none, none, none, none, none, none, none, none, none, none, some 52, some 53, some 54, some 55, some 56, some 57, none, none, none, some 58, some 59, none, some 60, none, some 61, none, none, none, some 62, some 63, none], [], [], [], [], [], [], [], [], [], [], [], [], [], [], [], [], [], []]
def ja_L0 : ja_L := (64, 35038, (fun k => ja_shl.getD k (0, 0)), fun k j => (ja_rfl.getD k []).getD j none)
def ja_q (k j : Nat) : Nat := ((ja_rfl.getD k []).getD j none).getD 0
theorem fa_0_4 : ∀ k, k < 64 → (ja_shl.getD k (0, 0)).1 = 2 → (ja_rfl.getD k []).getD 4 none = some (ja_q k 4) ∧ ja_q k 4 < 64 ∧ (ja_shl.getD (ja_q k 4) (0, 0)).1 = 0 := by decide +kernel
theorem fr_0_4 {k : Nat} (h : ja_ob ja_L0 0 k) : ja_L0.2.2.2 k 4 = some (ja_q k 4) := (fa_0_4 k h.1 h.2).1
theorem fk_0_4 {k : Nat} (h : ja_ob ja_L0 0 k) : ja_ai ja_L0 (ja_q k 4) := (fa_0_4 k h.1 h.2).2
theorem fa_0_5 : ∀ k, k < 64 → (ja_shl.getD k (0, 0)).1 = 2 → (ja_rfl.getD k []).getD 5 none = some (ja_q k 5) ∧ ja_q k 5 < 64 ∧ (ja_shl.getD (ja_q k 5) (0, 0)).1 = 0 := by decide +kernel
theorem fr_0_5 {k : Nat} (h : ja_ob ja_L0 0 k) : ja_L0.2.2.2 k 5 = some (ja_q k 5) := (fa_0_5 k h.1 h.2).1
theorem fk_0_5 {k : Nat} (h : ja_ob ja_L0 0 k) : ja_ai ja_L0 (ja_q k 5) := (fa_0_5 k h.1 h.2).2
theorem fa_0_6 : ∀ k, k < 64 → (ja_shl.getD k (0, 0)).1 = 2 → (ja_rfl.getD k []).getD 6 none = some (ja_q k 6) ∧ ja_q k 6 < 64 ∧ (ja_shl.getD (ja_q k 6) (0, 0)).1 = 0 := by decide +kernel
theorem fr_0_6 {k : Nat} (h : ja_ob ja_L0 0 k) : ja_L0.2.2.2 k 6 = some (ja_q k 6) := (fa_0_6 k h.1 h.2).1
theorem fk_0_6 {k : Nat} (h : ja_ob ja_L0 0 k) : ja_ai ja_L0 (ja_q k 6) := (fa_0_6 k h.1 h.2).2
theorem fa_1_0 : ∀ k, k < 64 → (ja_shl.getD k (0, 0)).1 = 3 → (ja_rfl.getD k []).getD 0 none = some (ja_q k 0) ∧ ja_q k 0 < 64 ∧ (ja_shl.getD (ja_q k 0) (0, 0)).1 = 6 := by decide +kernel
theorem fr_1_0 {k : Nat} (h : ja_ob ja_L0 1 k) : ja_L0.2.2.2 k 0 = some (ja_q k 0) := (fa_1_0 k h.1 h.2).1
theorem fk_1_0 {k : Nat} (h : ja_ob ja_L0 1 k) : ja_ob ja_L0 4 (ja_q k 0) := (fa_1_0 k h.1 h.2).2
theorem fa_1_1 : ∀ k, k < 64 → (ja_shl.getD k (0, 0)).1 = 3 → (ja_rfl.getD k []).getD 1 none = some (ja_q k 1) ∧ ja_q k 1 < 64 ∧ (ja_shl.getD (ja_q k 1) (0, 0)).1 = 4 := by decide +kernel
theorem fr_1_1 {k : Nat} (h : ja_ob ja_L0 1 k) : ja_L0.2.2.2 k 1 = some (ja_q k 1) := (fa_1_1 k h.1 h.2).1
theorem fk_1_1 {k : Nat} (h : ja_ob ja_L0 1 k) : ja_ob ja_L0 2 (ja_q k 1) := (fa_1_1 k h.1 h.2).2
theorem fa_1_2 : ∀ k, k < 64 → (ja_shl.getD k (0, 0)).1 = 3 → (ja_rfl.getD k []).getD 2 none = some (ja_q k 2) ∧ ja_q k 2 < 64 ∧ (ja_shl.getD (ja_q k 2) (0, 0)).1 = 0 := by decide +kernel
theorem fr_1_2 {k : Nat} (h : ja_ob ja_L0 1 k) : ja_L0.2.2.2 k 2 = some (ja_q k 2) := (fa_1_2 k h.1 h.2).1
theorem fk_1_2 {k : Nat} (h : ja_ob ja_L0 1 k) : ja_ai ja_L0 (ja_q k 2) := (fa_1_2 k h.1 h.2).2
theorem fa_2_0 : ∀ k, k < 64 → (ja_shl.getD k (0, 0)).1 = 4 → (ja_rfl.getD k []).getD 0 none = some (ja_q k 0) ∧ ja_q k 0 < 64 ∧ (ja_shl.getD (ja_q k 0) (0, 0)).1 = 1 := by decide +kernel
theorem fr_2_0 {k : Nat} (h : ja_ob ja_L0 2 k) : ja_L0.2.2.2 k 0 = some (ja_q k 0) := (fa_2_0 k h.1 h.2).1
theorem fk_2_0 {k : Nat} (h : ja_ob ja_L0 2 k) : ja_al ja_L0 (ja_q k 0) := (fa_2_0 k h.1 h.2).2
theorem fa_2_1 : ∀ k, k < 64 → (ja_shl.getD k (0, 0)).1 = 4 → (ja_rfl.getD k []).getD 1 none = some (ja_q k 1) ∧ ja_q k 1 < 64 ∧ (ja_shl.getD (ja_q k 1) (0, 0)).1 = 1 := by decide +kernel
theorem fr_2_1 {k : Nat} (h : ja_ob ja_L0 2 k) : ja_L0.2.2.2 k 1 = some (ja_q k 1) := (fa_2_1 k h.1 h.2).1
theorem fk_2_1 {k : Nat} (h : ja_ob ja_L0 2 k) : ja_al ja_L0 (ja_q k 1) := (fa_2_1 k h.1 h.2).2
theorem fa_3_0 : ∀ k, k < 64 → (ja_shl.getD k (0, 0)).1 = 5 → (ja_rfl.getD k []).getD 0 none = some (ja_q k 0) ∧ ja_q k 0 < 64 ∧ (ja_shl.getD (ja_q k 0) (0, 0)).1 = 6 := by decide +kernel
theorem fr_3_0 {k : Nat} (h : ja_ob ja_L0 3 k) : ja_L0.2.2.2 k 0 = some (ja_q k 0) := (fa_3_0 k h.1 h.2).1
theorem fk_3_0 {k : Nat} (h : ja_ob ja_L0 3 k) : ja_ob ja_L0 4 (ja_q k 0) := (fa_3_0 k h.1 h.2).2
theorem fa_3_1 : ∀ k, k < 64 → (ja_shl.getD k (0, 0)).1 = 5 → (ja_rfl.getD k []).getD 1 none = some (ja_q k 1) ∧ ja_q k 1 < 64 ∧ (ja_shl.getD (ja_q k 1) (0, 0)).1 = 7 := by decide +kernel
theorem fr_3_1 {k : Nat} (h : ja_ob ja_L0 3 k) : ja_L0.2.2.2 k 1 = some (ja_q k 1) := (fa_3_1 k h.1 h.2).1
theorem fk_3_1 {k : Nat} (h : ja_ob ja_L0 3 k) : ja_ob ja_L0 5 (ja_q k 1) := (fa_3_1 k h.1 h.2).2
theorem fa_3_2 : ∀ k, k < 64 → (ja_shl.getD k (0, 0)).1 = 5 → (ja_rfl.getD k []).getD 2 none = some (ja_q k 2) ∧ ja_q k 2 < 64 ∧ (ja_shl.getD (ja_q k 2) (0, 0)).1 = 7 := by decide +kernel
theorem fr_3_2 {k : Nat} (h : ja_ob ja_L0 3 k) : ja_L0.2.2.2 k 2 = some (ja_q k 2) := (fa_3_2 k h.1 h.2).1
theorem fk_3_2 {k : Nat} (h : ja_ob ja_L0 3 k) : ja_ob ja_L0 5 (ja_q k 2) := (fa_3_2 k h.1 h.2).2
theorem fa_4_0 : ∀ k, k < 64 → (ja_shl.getD k (0, 0)).1 = 6 → (ja_rfl.getD k []).getD 0 none = some (ja_q k 0) ∧ ja_q k 0 < 64 ∧ (ja_shl.getD (ja_q k 0) (0, 0)).1 = 4 := by decide +kernel
theorem fr_4_0 {k : Nat} (h : ja_ob ja_L0 4 k) : ja_L0.2.2.2 k 0 = some (ja_q k 0) := (fa_4_0 k h.1 h.2).1
theorem fk_4_0 {k : Nat} (h : ja_ob ja_L0 4 k) : ja_ob ja_L0 2 (ja_q k 0) := (fa_4_0 k h.1 h.2).2
theorem fa_4_3 : ∀ k, k < 64 → (ja_shl.getD k (0, 0)).1 = 6 → (ja_rfl.getD k []).getD 3 none = some (ja_q k 3) ∧ ja_q k 3 < 64 ∧ (ja_shl.getD (ja_q k 3) (0, 0)).1 = 0 := by decide +kernel
theorem fr_4_3 {k : Nat} (h : ja_ob ja_L0 4 k) : ja_L0.2.2.2 k 3 = some (ja_q k 3) := (fa_4_3 k h.1 h.2).1
theorem fk_4_3 {k : Nat} (h : ja_ob ja_L0 4 k) : ja_ai ja_L0 (ja_q k 3) := (fa_4_3 k h.1 h.2).2
theorem fa_4_4 : ∀ k, k < 64 → (ja_shl.getD k (0, 0)).1 = 6 → (ja_rfl.getD k []).getD 4 none = some (ja_q k 4) ∧ ja_q k 4 < 64 ∧ (ja_shl.getD (ja_q k 4) (0, 0)).1 = 0 := by decide +kernel
theorem fr_4_4 {k : Nat} (h : ja_ob ja_L0 4 k) : ja_L0.2.2.2 k 4 = some (ja_q k 4) := (fa_4_4 k h.1 h.2).1
theorem fk_4_4 {k : Nat} (h : ja_ob ja_L0 4 k) : ja_ai ja_L0 (ja_q k 4) := (fa_4_4 k h.1 h.2).2
theorem fa_5_2 : ∀ k, k < 64 → (ja_shl.getD k (0, 0)).1 = 7 → (ja_rfl.getD k []).getD 2 none = some (ja_q k 2) ∧ ja_q k 2 < 64 ∧ (ja_shl.getD (ja_q k 2) (0, 0)).1 = 0 := by decide +kernel
theorem fr_5_2 {k : Nat} (h : ja_ob ja_L0 5 k) : ja_L0.2.2.2 k 2 = some (ja_q k 2) := (fa_5_2 k h.1 h.2).1
theorem fk_5_2 {k : Nat} (h : ja_ob ja_L0 5 k) : ja_ai ja_L0 (ja_q k 2) := (fa_5_2 k h.1 h.2).2
theorem fa_5_4 : ∀ k, k < 64 → (ja_shl.getD k (0, 0)).1 = 7 → (ja_rfl.getD k []).getD 4 none = some (ja_q k 4) ∧ ja_q k 4 < 64 ∧ (ja_shl.getD (ja_q k 4) (0, 0)).1 = 0 := by decide +kernel
theorem fr_5_4 {k : Nat} (h : ja_ob ja_L0 5 k) : ja_L0.2.2.2 k 4 = some (ja_q k 4) := (fa_5_4 k h.1 h.2).1
theorem fk_5_4 {k : Nat} (h : ja_ob ja_L0 5 k) : ja_ai ja_L0 (ja_q k 4) := (fa_5_4 k h.1 h.2).2
theorem fa_5_6 : ∀ k, k < 64 → (ja_shl.getD k (0, 0)).1 = 7 → (ja_rfl.getD k []).getD 6 none = some (ja_q k 6) ∧ ja_q k 6 < 64 ∧ (ja_shl.getD (ja_q k 6) (0, 0)).1 = 0 := by decide +kernel
theorem fr_5_6 {k : Nat} (h : ja_ob ja_L0 5 k) : ja_L0.2.2.2 k 6 = some (ja_q k 6) := (fa_5_6 k h.1 h.2).1
theorem fk_5_6 {k : Nat} (h : ja_ob ja_L0 5 k) : ja_ai ja_L0 (ja_q k 6) := (fa_5_6 k h.1 h.2).2
theorem fa_5_7 : ∀ k, k < 64 → (ja_shl.getD k (0, 0)).1 = 7 → (ja_rfl.getD k []).getD 7 none = some (ja_q k 7) ∧ ja_q k 7 < 64 ∧ (ja_shl.getD (ja_q k 7) (0, 0)).1 = 0 := by decide +kernel
theorem fr_5_7 {k : Nat} (h : ja_ob ja_L0 5 k) : ja_L0.2.2.2 k 7 = some (ja_q k 7) := (fa_5_7 k h.1 h.2).1
theorem fk_5_7 {k : Nat} (h : ja_ob ja_L0 5 k) : ja_ai ja_L0 (ja_q k 7) := (fa_5_7 k h.1 h.2).2
theorem fa_6_2 : ∀ k, k < 64 → (ja_shl.getD k (0, 0)).1 = 8 → (ja_rfl.getD k []).getD 2 none = some (ja_q k 2) ∧ ja_q k 2 < 64 ∧ (ja_shl.getD (ja_q k 2) (0, 0)).1 = 0 := by decide +kernel
theorem fr_6_2 {k : Nat} (h : ja_ob ja_L0 6 k) : ja_L0.2.2.2 k 2 = some (ja_q k 2) := (fa_6_2 k h.1 h.2).1
theorem fk_6_2 {k : Nat} (h : ja_ob ja_L0 6 k) : ja_ai ja_L0 (ja_q k 2) := (fa_6_2 k h.1 h.2).2
theorem fa_7_0 : ∀ k, k < 64 → (ja_shl.getD k (0, 0)).1 = 9 → (ja_rfl.getD k []).getD 0 none = some (ja_q k 0) ∧ ja_q k 0 < 64 ∧ (ja_shl.getD (ja_q k 0) (0, 0)).1 = 0 := by decide +kernel
theorem fr_7_0 {k : Nat} (h : ja_ob ja_L0 7 k) : ja_L0.2.2.2 k 0 = some (ja_q k 0) := (fa_7_0 k h.1 h.2).1
theorem fk_7_0 {k : Nat} (h : ja_ob ja_L0 7 k) : ja_ai ja_L0 (ja_q k 0) := (fa_7_0 k h.1 h.2).2
theorem fa_7_2 : ∀ k, k < 64 → (ja_shl.getD k (0, 0)).1 = 9 → (ja_rfl.getD k []).getD 2 none = some (ja_q k 2) ∧ ja_q k 2 < 64 ∧ (ja_shl.getD (ja_q k 2) (0, 0)).1 = 8 := by decide +kernel
theorem fr_7_2 {k : Nat} (h : ja_ob ja_L0 7 k) : ja_L0.2.2.2 k 2 = some (ja_q k 2) := (fa_7_2 k h.1 h.2).1
theorem fk_7_2 {k : Nat} (h : ja_ob ja_L0 7 k) : ja_ob ja_L0 6 (ja_q k 2) := (fa_7_2 k h.1 h.2).2
theorem fa_7_3 : ∀ k, k < 64 → (ja_shl.getD k (0, 0)).1 = 9 → (ja_rfl.getD k []).getD 3 none = some (ja_q k 3) ∧ ja_q k 3 < 64 ∧ (ja_shl.getD (ja_q k 3) (0, 0)).1 = 7 := by decide +kernel
theorem fr_7_3 {k : Nat} (h : ja_ob ja_L0 7 k) : ja_L0.2.2.2 k 3 = some (ja_q k 3) := (fa_7_3 k h.1 h.2).1
theorem fk_7_3 {k : Nat} (h : ja_ob ja_L0 7 k) : ja_ob ja_L0 5 (ja_q k 3) := (fa_7_3 k h.1 h.2).2
theorem fa_7_4 : ∀ k, k < 64 → (ja_shl.getD k (0, 0)).1 = 9 → (ja_rfl.getD k []).getD 4 none = some (ja_q k 4) ∧ ja_q k 4 < 64 ∧ (ja_shl.getD (ja_q k 4) (0, 0)).1 = 7 := by decide +kernel
theorem fr_7_4 {k : Nat} (h : ja_ob ja_L0 7 k) : ja_L0.2.2.2 k 4 = some (ja_q k 4) := (fa_7_4 k h.1 h.2).1
theorem fk_7_4 {k : Nat} (h : ja_ob ja_L0 7 k) : ja_ob ja_L0 5 (ja_q k 4) := (fa_7_4 k h.1 h.2).2
theorem fa_7_5 : ∀ k, k < 64 → (ja_shl.getD k (0, 0)).1 = 9 → (ja_rfl.getD k []).getD 5 none = some (ja_q k 5) ∧ ja_q k 5 < 64 ∧ (ja_shl.getD (ja_q k 5) (0, 0)).1 = 2 := by decide +kernel
theorem fr_7_5 {k : Nat} (h : ja_ob ja_L0 7 k) : ja_L0.2.2.2 k 5 = some (ja_q k 5) := (fa_7_5 k h.1 h.2).1
theorem fk_7_5 {k : Nat} (h : ja_ob ja_L0 7 k) : ja_ob ja_L0 0 (ja_q k 5) := (fa_7_5 k h.1 h.2).2
theorem fa_7_7 : ∀ k, k < 64 → (ja_shl.getD k (0, 0)).1 = 9 → (ja_rfl.getD k []).getD 7 none = some (ja_q k 7) ∧ ja_q k 7 < 64 ∧ (ja_shl.getD (ja_q k 7) (0, 0)).1 = 6 := by decide +kernel
theorem fr_7_7 {k : Nat} (h : ja_ob ja_L0 7 k) : ja_L0.2.2.2 k 7 = some (ja_q k 7) := (fa_7_7 k h.1 h.2).1
theorem fk_7_7 {k : Nat} (h : ja_ob ja_L0 7 k) : ja_ob ja_L0 4 (ja_q k 7) := (fa_7_7 k h.1 h.2).2
theorem fa_7_9 : ∀ k, k < 64 → (ja_shl.getD k (0, 0)).1 = 9 → (ja_rfl.getD k []).getD 9 none = some (ja_q k 9) ∧ ja_q k 9 < 64 ∧ (ja_shl.getD (ja_q k 9) (0, 0)).1 = 6 := by decide +kernel
theorem fr_7_9 {k : Nat} (h : ja_ob ja_L0 7 k) : ja_L0.2.2.2 k 9 = some (ja_q k 9) := (fa_7_9 k h.1 h.2).1
theorem fk_7_9 {k : Nat} (h : ja_ob ja_L0 7 k) : ja_ob ja_L0 4 (ja_q k 9) := (fa_7_9 k h.1 h.2).2
theorem fa_7_10 : ∀ k, k < 64 → (ja_shl.getD k (0, 0)).1 = 9 → (ja_rfl.getD k []).getD 10 none = some (ja_q k 10) ∧ ja_q k 10 < 64 ∧ (ja_shl.getD (ja_q k 10) (0, 0)).1 = 3 := by decide +kernel
theorem fr_7_10 {k : Nat} (h : ja_ob ja_L0 7 k) : ja_L0.2.2.2 k 10 = some (ja_q k 10) := (fa_7_10 k h.1 h.2).1
theorem fk_7_10 {k : Nat} (h : ja_ob ja_L0 7 k) : ja_ob ja_L0 1 (ja_q k 10) := (fa_7_10 k h.1 h.2).2
theorem fa_7_13 : ∀ k, k < 64 → (ja_shl.getD k (0, 0)).1 = 9 → (ja_rfl.getD k []).getD 13 none = some (ja_q k 13) ∧ ja_q k 13 < 64 ∧ (ja_shl.getD (ja_q k 13) (0, 0)).1 = 5 := by decide +kernel
theorem fr_7_13 {k : Nat} (h : ja_ob ja_L0 7 k) : ja_L0.2.2.2 k 13 = some (ja_q k 13) := (fa_7_13 k h.1 h.2).1
theorem fk_7_13 {k : Nat} (h : ja_ob ja_L0 7 k) : ja_ob ja_L0 3 (ja_q k 13) := (fa_7_13 k h.1 h.2).2
theorem fa_8_3 : ∀ k, k < 64 → (ja_shl.getD k (0, 0)).1 = 10 → (ja_rfl.getD k []).getD 3 none = some (ja_q k 3) ∧ ja_q k 3 < 64 ∧ (ja_shl.getD (ja_q k 3) (0, 0)).1 = 0 := by decide +kernel
theorem fr_8_3 {k : Nat} (h : ja_ob ja_L0 8 k) : ja_L0.2.2.2 k 3 = some (ja_q k 3) := (fa_8_3 k h.1 h.2).1
theorem fk_8_3 {k : Nat} (h : ja_ob ja_L0 8 k) : ja_ai ja_L0 (ja_q k 3) := (fa_8_3 k h.1 h.2).2
theorem fa_8_4 : ∀ k, k < 64 → (ja_shl.getD k (0, 0)).1 = 10 → (ja_rfl.getD k []).getD 4 none = some (ja_q k 4) ∧ ja_q k 4 < 64 ∧ (ja_shl.getD (ja_q k 4) (0, 0)).1 = 0 := by decide +kernel
theorem fr_8_4 {k : Nat} (h : ja_ob ja_L0 8 k) : ja_L0.2.2.2 k 4 = some (ja_q k 4) := (fa_8_4 k h.1 h.2).1
theorem fk_8_4 {k : Nat} (h : ja_ob ja_L0 8 k) : ja_ai ja_L0 (ja_q k 4) := (fa_8_4 k h.1 h.2).2
theorem fa_8_5 : ∀ k, k < 64 → (ja_shl.getD k (0, 0)).1 = 10 → (ja_rfl.getD k []).getD 5 none = some (ja_q k 5) ∧ ja_q k 5 < 64 ∧ (ja_shl.getD (ja_q k 5) (0, 0)).1 = 0 := by decide +kernel
theorem fr_8_5 {k : Nat} (h : ja_ob ja_L0 8 k) : ja_L0.2.2.2 k 5 = some (ja_q k 5) := (fa_8_5 k h.1 h.2).1
theorem fk_8_5 {k : Nat} (h : ja_ob ja_L0 8 k) : ja_ai ja_L0 (ja_q k 5) := (fa_8_5 k h.1 h.2).2
theorem fa_8_6 : ∀ k, k < 64 → (ja_shl.getD k (0, 0)).1 = 10 → (ja_rfl.getD k []).getD 6 none = some (ja_q k 6) ∧ ja_q k 6 < 64 ∧ (ja_shl.getD (ja_q k 6) (0, 0)).1 = 0 := by decide +kernel
theorem fr_8_6 {k : Nat} (h : ja_ob ja_L0 8 k) : ja_L0.2.2.2 k 6 = some (ja_q k 6) := (fa_8_6 k h.1 h.2).1
theorem fk_8_6 {k : Nat} (h : ja_ob ja_L0 8 k) : ja_ai ja_L0 (ja_q k 6) := (fa_8_6 k h.1 h.2).2
theorem fa_8_7 : ∀ k, k < 64 → (ja_shl.getD k (0, 0)).1 = 10 → (ja_rfl.getD k []).getD 7 none = some (ja_q k 7) ∧ ja_q k 7 < 64 ∧ (ja_shl.getD (ja_q k 7) (0, 0)).1 = 0 := by decide +kernel
theorem fr_8_7 {k : Nat} (h : ja_ob ja_L0 8 k) : ja_L0.2.2.2 k 7 = some (ja_q k 7) := (fa_8_7 k h.1 h.2).1
theorem fk_8_7 {k : Nat} (h : ja_ob ja_L0 8 k) : ja_ai ja_L0 (ja_q k 7) := (fa_8_7 k h.1 h.2).2
theorem fa_8_10 : ∀ k, k < 64 → (ja_shl.getD k (0, 0)).1 = 10 → (ja_rfl.getD k []).getD 10 none = some (ja_q k 10) ∧ ja_q k 10 < 64 ∧ (ja_shl.getD (ja_q k 10) (0, 0)).1 = 0 := by decide +kernel
theorem fr_8_10 {k : Nat} (h : ja_ob ja_L0 8 k) : ja_L0.2.2.2 k 10 = some (ja_q k 10) := (fa_8_10 k h.1 h.2).1
theorem fk_8_10 {k : Nat} (h : ja_ob ja_L0 8 k) : ja_ai ja_L0 (ja_q k 10) := (fa_8_10 k h.1 h.2).2
theorem fa_8_21 : ∀ k, k < 64 → (ja_shl.getD k (0, 0)).1 = 10 → (ja_rfl.getD k []).getD 21 none = some (ja_q k 21) ∧ ja_q k 21 < 64 ∧ (ja_shl.getD (ja_q k 21) (0, 0)).1 = 0 := by decide +kernel
theorem fr_8_21 {k : Nat} (h : ja_ob ja_L0 8 k) : ja_L0.2.2.2 k 21 = some (ja_q k 21) := (fa_8_21 k h.1 h.2).1
theorem fk_8_21 {k : Nat} (h : ja_ob ja_L0 8 k) : ja_ai ja_L0 (ja_q k 21) := (fa_8_21 k h.1 h.2).2
theorem fa_8_22 : ∀ k, k < 64 → (ja_shl.getD k (0, 0)).1 = 10 → (ja_rfl.getD k []).getD 22 none = some (ja_q k 22) ∧ ja_q k 22 < 64 ∧ (ja_shl.getD (ja_q k 22) (0, 0)).1 = 0 := by decide +kernel
theorem fr_8_22 {k : Nat} (h : ja_ob ja_L0 8 k) : ja_L0.2.2.2 k 22 = some (ja_q k 22) := (fa_8_22 k h.1 h.2).1
theorem fk_8_22 {k : Nat} (h : ja_ob ja_L0 8 k) : ja_ai ja_L0 (ja_q k 22) := (fa_8_22 k h.1 h.2).2
theorem fa_8_23 : ∀ k, k < 64 → (ja_shl.getD k (0, 0)).1 = 10 → (ja_rfl.getD k []).getD 23 none = some (ja_q k 23) ∧ ja_q k 23 < 64 ∧ (ja_shl.getD (ja_q k 23) (0, 0)).1 = 0 := by decide +kernel
theorem fr_8_23 {k : Nat} (h : ja_ob ja_L0 8 k) : ja_L0.2.2.2 k 23 = some (ja_q k 23) := (fa_8_23 k h.1 h.2).1
theorem fk_8_23 {k : Nat} (h : ja_ob ja_L0 8 k) : ja_ai ja_L0 (ja_q k 23) := (fa_8_23 k h.1 h.2).2
theorem fa_8_24 : ∀ k, k < 64 → (ja_shl.getD k (0, 0)).1 = 10 → (ja_rfl.getD k []).getD 24 none = some (ja_q k 24) ∧ ja_q k 24 < 64 ∧ (ja_shl.getD (ja_q k 24) (0, 0)).1 = 0 := by decide +kernel
theorem fr_8_24 {k : Nat} (h : ja_ob ja_L0 8 k) : ja_L0.2.2.2 k 24 = some (ja_q k 24) := (fa_8_24 k h.1 h.2).1
theorem fk_8_24 {k : Nat} (h : ja_ob ja_L0 8 k) : ja_ai ja_L0 (ja_q k 24) := (fa_8_24 k h.1 h.2).2
theorem fa_8_25 : ∀ k, k < 64 → (ja_shl.getD k (0, 0)).1 = 10 → (ja_rfl.getD k []).getD 25 none = some (ja_q k 25) ∧ ja_q k 25 < 64 ∧ (ja_shl.getD (ja_q k 25) (0, 0)).1 = 0 := by decide +kernel
theorem fr_8_25 {k : Nat} (h : ja_ob ja_L0 8 k) : ja_L0.2.2.2 k 25 = some (ja_q k 25) := (fa_8_25 k h.1 h.2).1
theorem fk_8_25 {k : Nat} (h : ja_ob ja_L0 8 k) : ja_ai ja_L0 (ja_q k 25) := (fa_8_25 k h.1 h.2).2
theorem fa_8_26 : ∀ k, k < 64 → (ja_shl.getD k (0, 0)).1 = 10 → (ja_rfl.getD k []).getD 26 none = some (ja_q k 26) ∧ ja_q k 26 < 64 ∧ (ja_shl.getD (ja_q k 26) (0, 0)).1 = 0 := by decide +kernel
theorem fr_8_26 {k : Nat} (h : ja_ob ja_L0 8 k) : ja_L0.2.2.2 k 26 = some (ja_q k 26) := (fa_8_26 k h.1 h.2).1
theorem fk_8_26 {k : Nat} (h : ja_ob ja_L0 8 k) : ja_ai ja_L0 (ja_q k 26) := (fa_8_26 k h.1 h.2).2
theorem fa_8_30 : ∀ k, k < 64 → (ja_shl.getD k (0, 0)).1 = 10 → (ja_rfl.getD k []).getD 30 none = some (ja_q k 30) ∧ ja_q k 30 < 64 ∧ (ja_shl.getD (ja_q k 30) (0, 0)).1 = 0 := by decide +kernel
theorem fr_8_30 {k : Nat} (h : ja_ob ja_L0 8 k) : ja_L0.2.2.2 k 30 = some (ja_q k 30) := (fa_8_30 k h.1 h.2).1
theorem fk_8_30 {k : Nat} (h : ja_ob ja_L0 8 k) : ja_ai ja_L0 (ja_q k 30) := (fa_8_30 k h.1 h.2).2
theorem fa_8_31 : ∀ k, k < 64 → (ja_shl.getD k (0, 0)).1 = 10 → (ja_rfl.getD k []).getD 31 none = some (ja_q k 31) ∧ ja_q k 31 < 64 ∧ (ja_shl.getD (ja_q k 31) (0, 0)).1 = 0 := by decide +kernel
theorem fr_8_31 {k : Nat} (h : ja_ob ja_L0 8 k) : ja_L0.2.2.2 k 31 = some (ja_q k 31) := (fa_8_31 k h.1 h.2).1
theorem fk_8_31 {k : Nat} (h : ja_ob ja_L0 8 k) : ja_ai ja_L0 (ja_q k 31) := (fa_8_31 k h.1 h.2).2
theorem fa_8_33 : ∀ k, k < 64 → (ja_shl.getD k (0, 0)).1 = 10 → (ja_rfl.getD k []).getD 33 none = some (ja_q k 33) ∧ ja_q k 33 < 64 ∧ (ja_shl.getD (ja_q k 33) (0, 0)).1 = 0 := by decide +kernel
theorem fr_8_33 {k : Nat} (h : ja_ob ja_L0 8 k) : ja_L0.2.2.2 k 33 = some (ja_q k 33) := (fa_8_33 k h.1 h.2).1
theorem fk_8_33 {k : Nat} (h : ja_ob ja_L0 8 k) : ja_ai ja_L0 (ja_q k 33) := (fa_8_33 k h.1 h.2).2
theorem fa_8_35 : ∀ k, k < 64 → (ja_shl.getD k (0, 0)).1 = 10 → (ja_rfl.getD k []).getD 35 none = some (ja_q k 35) ∧ ja_q k 35 < 64 ∧ (ja_shl.getD (ja_q k 35) (0, 0)).1 = 0 := by decide +kernel
theorem fr_8_35 {k : Nat} (h : ja_ob ja_L0 8 k) : ja_L0.2.2.2 k 35 = some (ja_q k 35) := (fa_8_35 k h.1 h.2).1
theorem fk_8_35 {k : Nat} (h : ja_ob ja_L0 8 k) : ja_ai ja_L0 (ja_q k 35) := (fa_8_35 k h.1 h.2).2
theorem fa_8_39 : ∀ k, k < 64 → (ja_shl.getD k (0, 0)).1 = 10 → (ja_rfl.getD k []).getD 39 none = some (ja_q k 39) ∧ ja_q k 39 < 64 ∧ (ja_shl.getD (ja_q k 39) (0, 0)).1 = 0 := by decide +kernel
theorem fr_8_39 {k : Nat} (h : ja_ob ja_L0 8 k) : ja_L0.2.2.2 k 39 = some (ja_q k 39) := (fa_8_39 k h.1 h.2).1
theorem fk_8_39 {k : Nat} (h : ja_ob ja_L0 8 k) : ja_ai ja_L0 (ja_q k 39) := (fa_8_39 k h.1 h.2).2
theorem fa_8_40 : ∀ k, k < 64 → (ja_shl.getD k (0, 0)).1 = 10 → (ja_rfl.getD k []).getD 40 none = some (ja_q k 40) ∧ ja_q k 40 < 64 ∧ (ja_shl.getD (ja_q k 40) (0, 0)).1 = 0 := by decide +kernel
theorem fr_8_40 {k : Nat} (h : ja_ob ja_L0 8 k) : ja_L0.2.2.2 k 40 = some (ja_q k 40) := (fa_8_40 k h.1 h.2).1
theorem fk_8_40 {k : Nat} (h : ja_ob ja_L0 8 k) : ja_ai ja_L0 (ja_q k 40) := (fa_8_40 k h.1 h.2).2
/-- a text constant -/
def ja_is (k : Nat) : Prop := ∃ i, i < 11 ∧ k = 1000 + i
theorem ja_is_mk (i : Nat) (h : i < 11) : ja_is (1000 + i) := ⟨i, h, rfl⟩
theorem ja_ri_b {v : Int32} (h : v = 0 ∨ v = 1) : ja_ri (some .boolean) (some (.int v)) = some .ireturn := if_pos h
section JW
variable {M M' : ja_M} {C : ja_C} {pc idx t j k b n : Nat} {lv : List (Nat × Value)} {st st0 as : List Value} {Λ : ja_L} {σ σ' σ1 : ja_S} {zz : ja_Z} {y : MethodName}
theorem ja_puti2 {v : Int32} {ty : FieldType} (hd : decode M.1 pc = .ok (.putfield idx, 3)) (hF : ja_fd M.2.2.1 idx t j false false ty) (hk : ja_ob Λ t k) (hv : narrow ty (.int v) = .int v ∧ fits ty (.int v) = true) (hs : ja_pu σ k j v = some σ') (kk : ja_J M C (pc + 3) lv st Λ σ' zz) : ja_J M C pc lv (.int v :: .ref k :: st) Λ σ zz := by
  cases hs
  exact ja_puti hd hF hk hv kk
theorem ja_callVi {r : Int32} (hd : decode M.1 pc = .ok (.invokevirtual idx, 3)) (hk : ja_kV y M' n t) (hlink : Cond.methodLink M.2.2.1 idx y ∈ ja_tb) (hro : ja_rr M M') (hM : ja_Ct C.1.2.1 C.2.1 y M' (.ref b :: as) Λ σ (some (.int r), Λ, σ1)) (hb : ja_ob Λ t b) (hn : as.length = n) (hst : (st.map fun v => v.category).sum ≤ 8) (hs : st0 = as.reverse ++ .ref b :: st) (kk : ja_J M C (pc + 3) lv (.int r :: st) Λ σ1 zz) : ja_J M C pc lv st0 Λ σ zz := ja_callV0 hd hk hlink hro hM hb hn hst hs kk
theorem ja_callVl {r : Int64} (hd : decode M.1 pc = .ok (.invokevirtual idx, 3)) (hk : ja_kV y M' n t) (hlink : Cond.methodLink M.2.2.1 idx y ∈ ja_tb) (hro : ja_rr M M') (hM : ja_Ct C.1.2.1 C.2.1 y M' (.ref b :: as) Λ σ (some (.long r), Λ, σ1)) (hb : ja_ob Λ t b) (hn : as.length = n) (hst : (st.map fun v => v.category).sum ≤ 8) (hs : st0 = as.reverse ++ .ref b :: st) (kk : ja_J M C (pc + 3) lv (.long r :: st) Λ σ1 zz) : ja_J M C pc lv st0 Λ σ zz := ja_callV0 hd hk hlink hro hM hb hn hst hs kk
theorem ja_callVr {r : Nat} (hd : decode M.1 pc = .ok (.invokevirtual idx, 3)) (hk : ja_kV y M' n t) (hlink : Cond.methodLink M.2.2.1 idx y ∈ ja_tb) (hro : ja_rr M M') (hM : ja_Ct C.1.2.1 C.2.1 y M' (.ref b :: as) Λ σ (some (.ref r), Λ, σ1)) (hb : ja_ob Λ t b) (hn : as.length = n) (hst : (st.map fun v => v.category).sum ≤ 8) (hs : st0 = as.reverse ++ .ref b :: st) (kk : ja_J M C (pc + 3) lv (.ref r :: st) Λ σ1 zz) : ja_J M C pc lv st0 Λ σ zz := ja_callV0 hd hk hlink hro hM hb hn hst hs kk
theorem ja_callVv  (hd : decode M.1 pc = .ok (.invokevirtual idx, 3)) (hk : ja_kV y M' n t) (hlink : Cond.methodLink M.2.2.1 idx y ∈ ja_tb) (hro : ja_rr M M') (hM : ja_Ct C.1.2.1 C.2.1 y M' (.ref b :: as) Λ σ (none, Λ, σ1)) (hb : ja_ob Λ t b) (hn : as.length = n) (hst : (st.map fun v => v.category).sum ≤ 8) (hs : st0 = as.reverse ++ .ref b :: st) (kk : ja_J M C (pc + 3) lv st Λ σ1 zz) : ja_J M C pc lv st0 Λ σ zz := ja_callV0 hd hk hlink hro hM hb hn hst hs kk
theorem ja_callSi {r : Int32} (hd : decode M.1 pc = .ok (.invokestatic idx, 3)) (hk : ja_kS y M' n) (hlink : Cond.methodLink M.2.2.1 idx y ∈ ja_tb) (hro : ja_rr M M') (hM : ja_Ct C.1.2.1 C.2.1 y M' as Λ σ (some (.int r), Λ, σ1)) (hn : as.length = n) (hst : (st.map fun v => v.category).sum ≤ 8) (hs : st0 = as.reverse ++ st) (kk : ja_J M C (pc + 3) lv (.int r :: st) Λ σ1 zz) : ja_J M C pc lv st0 Λ σ zz := ja_callS0 hd hk hlink hro hM hn hst hs kk
theorem ja_callSl {r : Int64} (hd : decode M.1 pc = .ok (.invokestatic idx, 3)) (hk : ja_kS y M' n) (hlink : Cond.methodLink M.2.2.1 idx y ∈ ja_tb) (hro : ja_rr M M') (hM : ja_Ct C.1.2.1 C.2.1 y M' as Λ σ (some (.long r), Λ, σ1)) (hn : as.length = n) (hst : (st.map fun v => v.category).sum ≤ 8) (hs : st0 = as.reverse ++ st) (kk : ja_J M C (pc + 3) lv (.long r :: st) Λ σ1 zz) : ja_J M C pc lv st0 Λ σ zz := ja_callS0 hd hk hlink hro hM hn hst hs kk
theorem ja_callSr {r : Nat} (hd : decode M.1 pc = .ok (.invokestatic idx, 3)) (hk : ja_kS y M' n) (hlink : Cond.methodLink M.2.2.1 idx y ∈ ja_tb) (hro : ja_rr M M') (hM : ja_Ct C.1.2.1 C.2.1 y M' as Λ σ (some (.ref r), Λ, σ1)) (hn : as.length = n) (hst : (st.map fun v => v.category).sum ≤ 8) (hs : st0 = as.reverse ++ st) (kk : ja_J M C (pc + 3) lv (.ref r :: st) Λ σ1 zz) : ja_J M C pc lv st0 Λ σ zz := ja_callS0 hd hk hlink hro hM hn hst hs kk
theorem ja_callSv  (hd : decode M.1 pc = .ok (.invokestatic idx, 3)) (hk : ja_kS y M' n) (hlink : Cond.methodLink M.2.2.1 idx y ∈ ja_tb) (hro : ja_rr M M') (hM : ja_Ct C.1.2.1 C.2.1 y M' as Λ σ (none, Λ, σ1)) (hn : as.length = n) (hst : (st.map fun v => v.category).sum ≤ 8) (hs : st0 = as.reverse ++ st) (kk : ja_J M C (pc + 3) lv st Λ σ1 zz) : ja_J M C pc lv st0 Λ σ zz := ja_callS0 hd hk hlink hro hM hn hst hs kk
theorem ja_callNi (q : Nat) {host : String} {r : Int32} (hd : decode M.1 pc = .ok (.invokestatic idx, 3)) (hk : ja_kS y M' n) (hlink : ja_nk[q]? = some (M.2.2.1, idx, y, host)) (hro : ja_rr M M') (hM : ja_Ct C.1.2.1 C.2.1 y M' as Λ σ (some (.int r), Λ, σ1)) (hn : as.length = n) (hst : (st.map fun v => v.category).sum ≤ 8) (hs : st0 = as.reverse ++ st) (kk : ja_J M C (pc + 3) lv (.int r :: st) Λ σ1 zz) : ja_J M C pc lv st0 Λ σ zz := ja_callN0 q hd hk hlink hro hM hn hst hs kk
theorem ja_callNl (q : Nat) {host : String} {r : Int64} (hd : decode M.1 pc = .ok (.invokestatic idx, 3)) (hk : ja_kS y M' n) (hlink : ja_nk[q]? = some (M.2.2.1, idx, y, host)) (hro : ja_rr M M') (hM : ja_Ct C.1.2.1 C.2.1 y M' as Λ σ (some (.long r), Λ, σ1)) (hn : as.length = n) (hst : (st.map fun v => v.category).sum ≤ 8) (hs : st0 = as.reverse ++ st) (kk : ja_J M C (pc + 3) lv (.long r :: st) Λ σ1 zz) : ja_J M C pc lv st0 Λ σ zz := ja_callN0 q hd hk hlink hro hM hn hst hs kk
theorem ja_callNr (q : Nat) {host : String} {r : Nat} (hd : decode M.1 pc = .ok (.invokestatic idx, 3)) (hk : ja_kS y M' n) (hlink : ja_nk[q]? = some (M.2.2.1, idx, y, host)) (hro : ja_rr M M') (hM : ja_Ct C.1.2.1 C.2.1 y M' as Λ σ (some (.ref r), Λ, σ1)) (hn : as.length = n) (hst : (st.map fun v => v.category).sum ≤ 8) (hs : st0 = as.reverse ++ st) (kk : ja_J M C (pc + 3) lv (.ref r :: st) Λ σ1 zz) : ja_J M C pc lv st0 Λ σ zz := ja_callN0 q hd hk hlink hro hM hn hst hs kk
theorem ja_callNv (q : Nat) {host : String}  (hd : decode M.1 pc = .ok (.invokestatic idx, 3)) (hk : ja_kS y M' n) (hlink : ja_nk[q]? = some (M.2.2.1, idx, y, host)) (hro : ja_rr M M') (hM : ja_Ct C.1.2.1 C.2.1 y M' as Λ σ (none, Λ, σ1)) (hn : as.length = n) (hst : (st.map fun v => v.category).sum ≤ 8) (hs : st0 = as.reverse ++ st) (kk : ja_J M C (pc + 3) lv st Λ σ1 zz) : ja_J M C pc lv st0 Λ σ zz := ja_callN0 q hd hk hlink hro hM hn hst hs kk
end JW
def y_Arrays_fillI : MethodName := ⟨"java/util/Arrays", "fill", "([II)V"⟩
abbrev M_Arrays_fillI : ja_M := (prog_18_method_103_code, 4, "java/util/Arrays", "fill", (Option.none : Option FieldType), 0, 0)
def y_Arrays_fillJ : MethodName := ⟨"java/util/Arrays", "fill", "([JJ)V"⟩
abbrev M_Arrays_fillJ : ja_M := (prog_18_method_101_code, 5, "java/util/Arrays", "fill", (Option.none : Option FieldType), 0, 0)
def y_Frame_addRule : MethodName := ⟨"InterlockingFrame", "addRule", "(IIII)I"⟩
abbrev M_Frame_addRule : ja_M := (prog_1_method_17_code, 6, "InterlockingFrame", "addRule", (Option.some FieldType.int), 4, 84)
def y_Frame_appendBytes : MethodName := ⟨"InterlockingFrame", "appendBytes", "(IIIII)I"⟩
abbrev M_Frame_appendBytes : ja_M := (prog_1_method_2_code, 6, "InterlockingFrame", "appendBytes", (Option.some FieldType.int), 1, 22)
def y_Frame_appendWord : MethodName := ⟨"InterlockingFrame", "appendWord", "(I)V"⟩
abbrev M_Frame_appendWord : ja_M := (prog_1_method_43_code, 3, "InterlockingFrame", "appendWord", (Option.none : Option FieldType), 0, 0)
def y_Frame_blockingRule : MethodName := ⟨"InterlockingFrame", "blockingRule", "(II)I"⟩
abbrev M_Frame_blockingRule : ja_M := (prog_1_method_21_code, 3, "InterlockingFrame", "blockingRule", (Option.some FieldType.int), 5, 108)
def y_Frame_bufferLength : MethodName := ⟨"InterlockingFrame", "bufferLength", "()I"⟩
abbrev M_Frame_bufferLength : ja_M := (prog_1_method_6_code, 1, "InterlockingFrame", "bufferLength", (Option.some FieldType.int), 0, 0)
def y_Frame_completionLock : MethodName := ⟨"InterlockingFrame", "completionLock", "(I)I"⟩
abbrev M_Frame_completionLock : ja_M := (prog_1_method_33_code, 2, "InterlockingFrame", "completionLock", (Option.some FieldType.int), 7, 174)
def y_Frame_completionSize : MethodName := ⟨"InterlockingFrame", "completionSize", "()I"⟩
abbrev M_Frame_completionSize : ja_M := (prog_1_method_32_code, 2, "InterlockingFrame", "completionSize", (Option.some FieldType.int), 6, 153)
def y_Frame_conflictCount : MethodName := ⟨"InterlockingFrame", "conflictCount", "()I"⟩
abbrev M_Frame_conflictCount : ja_M := (prog_1_method_14_code, 1, "InterlockingFrame", "conflictCount", (Option.some FieldType.int), 0, 0)
def y_Frame_currentState : MethodName := ⟨"InterlockingFrame", "currentState", "()I"⟩
abbrev M_Frame_currentState : ja_M := (prog_1_method_15_code, 1, "InterlockingFrame", "currentState", (Option.some FieldType.int), 0, 0)
def y_Frame_distance : MethodName := ⟨"InterlockingFrame", "distance", "(II)I"⟩
abbrev M_Frame_distance : ja_M := (prog_1_method_24_code, 3, "InterlockingFrame", "distance", (Option.some FieldType.int), 6, 141)
def y_Frame_excludedLevers : MethodName := ⟨"InterlockingFrame", "excludedLevers", "(I)I"⟩
abbrev M_Frame_excludedLevers : ja_M := (prog_1_method_26_code, 3, "InterlockingFrame", "excludedLevers", (Option.some FieldType.int), 5, 118)
def y_Frame_farthestState : MethodName := ⟨"InterlockingFrame", "farthestState", "()I"⟩
abbrev M_Frame_farthestState : ja_M := (prog_1_method_35_code, 1, "InterlockingFrame", "farthestState", (Option.some FieldType.int), 5, 118)
def y_Frame_forgetFindings : MethodName := ⟨"InterlockingFrame", "forgetFindings", "()V"⟩
abbrev M_Frame_forgetFindings : ja_M := (prog_1_method_44_code, 1, "InterlockingFrame", "forgetFindings", (Option.none : Option FieldType), 0, 0)
def y_Frame_freeLevers : MethodName := ⟨"InterlockingFrame", "freeLevers", "(I)I"⟩
abbrev M_Frame_freeLevers : ja_M := (prog_1_method_22_code, 4, "InterlockingFrame", "freeLevers", (Option.some FieldType.int), 5, 108)
def y_Frame_init : MethodName := ⟨"InterlockingFrame", "<init>", "()V"⟩
abbrev M_Frame_init : ja_M := (prog_1_method_1_code, 1, "InterlockingFrame", "<init>", (Option.none : Option FieldType), 3, 61)
def y_Frame_isImplied : MethodName := ⟨"InterlockingFrame", "isImplied", "(I)I"⟩
abbrev M_Frame_isImplied : ja_M := (prog_1_method_36_code, 2, "InterlockingFrame", "isImplied", (Option.some FieldType.int), 6, 140)
def y_Frame_isLegal : MethodName := ⟨"InterlockingFrame", "isLegal", "(I)I"⟩
abbrev M_Frame_isLegal : ja_M := (prog_1_method_20_code, 2, "InterlockingFrame", "isLegal", (Option.some FieldType.int), 5, 106)
def y_Frame_isMergeable : MethodName := ⟨"InterlockingFrame", "isMergeable", "(II)I"⟩
abbrev M_Frame_isMergeable : ja_M := (prog_1_method_40_code, 3, "InterlockingFrame", "isMergeable", (Option.some FieldType.int), 5, 120)
def y_Frame_jointStates : MethodName := ⟨"InterlockingFrame", "jointStates", "(II)I"⟩
abbrev M_Frame_jointStates : ja_M := (prog_1_method_29_code, 3, "InterlockingFrame", "jointStates", (Option.some FieldType.int), 5, 118)
def y_Frame_largestRouteSet : MethodName := ⟨"InterlockingFrame", "largestRouteSet", "()I"⟩
abbrev M_Frame_largestRouteSet : ja_M := (prog_1_method_34_code, 1, "InterlockingFrame", "largestRouteSet", (Option.some FieldType.int), 5, 118)
def y_Frame_leverCount : MethodName := ⟨"InterlockingFrame", "leverCount", "()I"⟩
abbrev M_Frame_leverCount : ja_M := (prog_1_method_7_code, 1, "InterlockingFrame", "leverCount", (Option.some FieldType.int), 0, 0)
def y_Frame_leverPair : MethodName := ⟨"InterlockingFrame", "leverPai\x72", "(II)I"⟩
abbrev M_Frame_leverPair : ja_M := (prog_1_method_48_code, 2, "InterlockingFrame", "leverPai\x72", (Option.some FieldType.int), 0, 0)
def y_Frame_leversAfterMerging : MethodName := ⟨"InterlockingFrame", "leversAfterMerging", "()I"⟩
abbrev M_Frame_leversAfterMerging : ja_M := (prog_1_method_42_code, 2, "InterlockingFrame", "leversAfterMerging", (Option.some FieldType.int), 6, 142)
def y_Frame_mergedReachableCount : MethodName := ⟨"InterlockingFrame", "mergedReachableCount", "(II)I"⟩
abbrev M_Frame_mergedReachableCount : ja_M := (prog_1_method_41_code, 3, "InterlockingFrame", "mergedReachableCount", (Option.some FieldType.int), 5, 120)
def y_Frame_moveLever : MethodName := ⟨"InterlockingFrame", "moveLeve\x72", "(I)I"⟩
abbrev M_Frame_moveLever : ja_M := (prog_1_method_16_code, 2, "InterlockingFrame", "moveLeve\x72", (Option.some FieldType.int), 5, 108)
def y_Frame_nextMove : MethodName := ⟨"InterlockingFrame", "nextMove", "(II)I"⟩
abbrev M_Frame_nextMove : ja_M := (prog_1_method_25_code, 3, "InterlockingFrame", "nextMove", (Option.some FieldType.int), 6, 141)
def y_Frame_parseError : MethodName := ⟨"InterlockingFrame", "parseErro\x72", "()I"⟩
abbrev M_Frame_parseError : ja_M := (prog_1_method_4_code, 1, "InterlockingFrame", "parseErro\x72", (Option.some FieldType.int), 0, 0)
def y_Frame_parseErrorOffset : MethodName := ⟨"InterlockingFrame", "parseErrorOffset", "()I"⟩
abbrev M_Frame_parseErrorOffset : ja_M := (prog_1_method_5_code, 1, "InterlockingFrame", "parseErrorOffset", (Option.some FieldType.int), 0, 0)
def y_Frame_parseSheet : MethodName := ⟨"InterlockingFrame", "parseSheet", "(I)I"⟩
abbrev M_Frame_parseSheet : ja_M := (prog_1_method_3_code, 3, "InterlockingFrame", "parseSheet", (Option.some FieldType.int), 9, 202)
def y_Frame_placeFreedWithout : MethodName := ⟨"InterlockingFrame", "placeFreedWithout", "(I)I"⟩
abbrev M_Frame_placeFreedWithout : ja_M := (prog_1_method_47_code, 3, "InterlockingFrame", "placeFreedWithout", (Option.some FieldType.int), 5, 118)
def y_Frame_proposedLock : MethodName := ⟨"InterlockingFrame", "proposedLock", "(I)I"⟩
abbrev M_Frame_proposedLock : ja_M := (prog_1_method_31_code, 3, "InterlockingFrame", "proposedLock", (Option.some FieldType.int), 5, 128)
def y_Frame_reachableCount : MethodName := ⟨"InterlockingFrame", "reachableCount", "()I"⟩
abbrev M_Frame_reachableCount : ja_M := (prog_1_method_23_code, 1, "InterlockingFrame", "reachableCount", (Option.some FieldType.int), 5, 118)
def y_Frame_reducedSheet : MethodName := ⟨"InterlockingFrame", "reducedSheet", "()I"⟩
abbrev M_Frame_reducedSheet : ja_M := (prog_1_method_37_code, 4, "InterlockingFrame", "reducedSheet", (Option.some FieldType.int), 5, 118)
def y_Frame_removeRule : MethodName := ⟨"InterlockingFrame", "removeRule", "(I)I"⟩
abbrev M_Frame_removeRule : ja_M := (prog_1_method_18_code, 2, "InterlockingFrame", "removeRule", (Option.some FieldType.int), 3, 69)
def y_Frame_routeCount : MethodName := ⟨"InterlockingFrame", "routeCount", "()I"⟩
abbrev M_Frame_routeCount : ja_M := (prog_1_method_12_code, 1, "InterlockingFrame", "routeCount", (Option.some FieldType.int), 0, 0)
def y_Frame_routeLevers : MethodName := ⟨"InterlockingFrame", "routeLevers", "(I)I"⟩
abbrev M_Frame_routeLevers : ja_M := (prog_1_method_13_code, 2, "InterlockingFrame", "routeLevers", (Option.some FieldType.int), 1, 21)
def y_Frame_ruleCondition : MethodName := ⟨"InterlockingFrame", "ruleCondition", "(I)I"⟩
abbrev M_Frame_ruleCondition : ja_M := (prog_1_method_11_code, 2, "InterlockingFrame", "ruleCondition", (Option.some FieldType.int), 1, 21)
def y_Frame_ruleCount : MethodName := ⟨"InterlockingFrame", "ruleCount", "()I"⟩
abbrev M_Frame_ruleCount : ja_M := (prog_1_method_8_code, 1, "InterlockingFrame", "ruleCount", (Option.some FieldType.int), 0, 0)
def y_Frame_ruleKind : MethodName := ⟨"InterlockingFrame", "ruleKind", "(I)I"⟩
abbrev M_Frame_ruleKind : ja_M := (prog_1_method_9_code, 2, "InterlockingFrame", "ruleKind", (Option.some FieldType.int), 1, 21)
def y_Frame_ruleLevers : MethodName := ⟨"InterlockingFrame", "ruleLevers", "(I)I"⟩
abbrev M_Frame_ruleLevers : ja_M := (prog_1_method_10_code, 2, "InterlockingFrame", "ruleLevers", (Option.some FieldType.int), 1, 21)
def y_Frame_searchBetween : MethodName := ⟨"InterlockingFrame", "searchBetween", "(II)Z"⟩
abbrev M_Frame_searchBetween : ja_M := (prog_1_method_46_code, 4, "InterlockingFrame", "searchBetween", (Option.some FieldType.boolean), 5, 118)
def y_Frame_searchedHome : MethodName := ⟨"InterlockingFrame", "searchedHome", "()LInterlockingFrame$Search;"⟩
abbrev M_Frame_searchedHome : ja_M := (prog_1_method_45_code, 1, "InterlockingFrame", "searchedHome", (Option.some (FieldType.object "InterlockingFrame$Search")), 4, 98)
def y_Frame_settingMoves : MethodName := ⟨"InterlockingFrame", "settingMoves", "(I)I"⟩
abbrev M_Frame_settingMoves : ja_M := (prog_1_method_28_code, 3, "InterlockingFrame", "settingMoves", (Option.some FieldType.int), 5, 118)
def y_Frame_settingState : MethodName := ⟨"InterlockingFrame", "settingState", "(I)I"⟩
abbrev M_Frame_settingState : ja_M := (prog_1_method_27_code, 2, "InterlockingFrame", "settingState", (Option.some FieldType.int), 5, 118)
def y_Frame_testLength : MethodName := ⟨"InterlockingFrame", "testLength", "(I)I"⟩
abbrev M_Frame_testLength : ja_M := (prog_1_method_38_code, 3, "InterlockingFrame", "testLength", (Option.some FieldType.int), 6, 140)
def y_Frame_testMove : MethodName := ⟨"InterlockingFrame", "testMove", "(II)I"⟩
abbrev M_Frame_testMove : ja_M := (prog_1_method_39_code, 6, "InterlockingFrame", "testMove", (Option.some FieldType.int), 6, 140)
def y_Frame_undo : MethodName := ⟨"InterlockingFrame", "undo", "()I"⟩
abbrev M_Frame_undo : ja_M := (prog_1_method_19_code, 1, "InterlockingFrame", "undo", (Option.some FieldType.int), 2, 48)
def y_Frame_unprotectedConflicts : MethodName := ⟨"InterlockingFrame", "unprotectedConflicts", "()I"⟩
abbrev M_Frame_unprotectedConflicts : ja_M := (prog_1_method_30_code, 1, "InterlockingFrame", "unprotectedConflicts", (Option.some FieldType.int), 5, 118)
def y_History_clear : MethodName := ⟨"InterlockingFrame$History", "clea\x72", "()V"⟩
abbrev M_History_clear : ja_M := (prog_2_method_2_code, 1, "InterlockingFrame$History", "clea\x72", (Option.none : Option FieldType), 0, 0)
def y_History_forgetOldest : MethodName := ⟨"InterlockingFrame$History", "forgetOldest", "()V"⟩
abbrev M_History_forgetOldest : ja_M := (prog_2_method_4_code, 1, "InterlockingFrame$History", "forgetOldest", (Option.none : Option FieldType), 1, 26)
def y_History_init : MethodName := ⟨"InterlockingFrame$History", "<init>", "()V"⟩
abbrev M_History_init : ja_M := (prog_2_method_1_code, 1, "InterlockingFrame$History", "<init>", (Option.none : Option FieldType), 1, 20)
def y_History_note : MethodName := ⟨"InterlockingFrame$History", "note", "(III)V"⟩
abbrev M_History_note : ja_M := (prog_2_method_3_code, 4, "InterlockingFrame$History", "note", (Option.none : Option FieldType), 2, 46)
def y_History_takeLatest : MethodName := ⟨"InterlockingFrame$History", "takeLatest", "()Z"⟩
abbrev M_History_takeLatest : ja_M := (prog_2_method_5_code, 1, "InterlockingFrame$History", "takeLatest", (Option.some FieldType.boolean), 0, 0)
def y_Integer_bitCount : MethodName := ⟨"java/lang/Intege\x72", "bitCount", "(I)I"⟩
abbrev M_Integer_bitCount : ja_M := (prog_12_method_49_code, 1, "java/lang/Intege\x72", "bitCount", (Option.some FieldType.int), 0, 0)
def y_Latin1_charAt : MethodName := ⟨"java/lang/StringLatin1", "charAt", "([BI)C"⟩
abbrev M_Latin1_charAt : ja_M := (prog_15_method_2_code, 2, "java/lang/StringLatin1", "charAt", (Option.some FieldType.char), 2, 43)
def y_LockPlanner_complete : MethodName := ⟨"InterlockingFrame$LockPlanne\x72", "complete", "(LInterlockingFrame$Sheet;LInterlockingFrame$Locking;I)Z"⟩
abbrev M_LockPlanner_complete : ja_M := (prog_3_method_4_code, 6, "InterlockingFrame$LockPlanne\x72", "complete", (Option.some FieldType.boolean), 5, 128)
def y_LockPlanner_init : MethodName := ⟨"InterlockingFrame$LockPlanne\x72", "<init>", "(LInterlockingFrame$Search;)V"⟩
abbrev M_LockPlanner_init : ja_M := (prog_3_method_1_code, 2, "InterlockingFrame$LockPlanne\x72", "<init>", (Option.none : Option FieldType), 2, 40)
def y_LockPlanner_keepsRoutes : MethodName := ⟨"InterlockingFrame$LockPlanne\x72", "keepsRoutes", "(LInterlockingFrame$Sheet;LInterlockingFrame$Locking;II)Z"⟩
abbrev M_LockPlanner_keepsRoutes : ja_M := (prog_3_method_3_code, 5, "InterlockingFrame$LockPlanne\x72", "keepsRoutes", (Option.some FieldType.boolean), 3, 75)
def y_LockPlanner_lockOf : MethodName := ⟨"InterlockingFrame$LockPlanne\x72", "lockOf", "(II)I"⟩
abbrev M_LockPlanner_lockOf : ja_M := (prog_3_method_5_code, 2, "InterlockingFrame$LockPlanne\x72", "lockOf", (Option.some FieldType.int), 1, 23)
def y_LockPlanner_propose : MethodName := ⟨"InterlockingFrame$LockPlanne\x72", "propose", "(LInterlockingFrame$Sheet;ILInterlockingFrame$Locking;I)I"⟩
abbrev M_LockPlanner_propose : ja_M := (prog_3_method_2_code, 10, "InterlockingFrame$LockPlanne\x72", "propose", (Option.some FieldType.int), 4, 99)
def y_Locking_addStates : MethodName := ⟨"InterlockingFrame$Locking", "addStates", "([JIII)V"⟩
abbrev M_Locking_addStates : ja_M := (prog_4_method_5_code, 9, "InterlockingFrame$Locking", "addStates", (Option.none : Option FieldType), 1, 24)
def y_Locking_allows : MethodName := ⟨"InterlockingFrame$Locking", "allows", "(II)Z"⟩
abbrev M_Locking_allows : ja_M := (prog_4_method_7_code, 8, "InterlockingFrame$Locking", "allows", (Option.some FieldType.boolean), 0, 0)
def y_Locking_copyFrom : MethodName := ⟨"InterlockingFrame$Locking", "copyFrom", "(LInterlockingFrame$Locking;)V"⟩
abbrev M_Locking_copyFrom : ja_M := (prog_4_method_2_code, 2, "InterlockingFrame$Locking", "copyFrom", (Option.none : Option FieldType), 1, 26)
def y_Locking_enforce : MethodName := ⟨"InterlockingFrame$Locking", "enforce", "(I)V"⟩
abbrev M_Locking_enforce : ja_M := (prog_4_method_4_code, 4, "InterlockingFrame$Locking", "enforce", (Option.none : Option FieldType), 2, 52)
def y_Locking_enforceAll : MethodName := ⟨"InterlockingFrame$Locking", "enforceAll", "(LInterlockingFrame$Sheet;I)V"⟩
abbrev M_Locking_enforceAll : ja_M := (prog_4_method_3_code, 4, "InterlockingFrame$Locking", "enforceAll", (Option.none : Option FieldType), 3, 75)
def y_Locking_init : MethodName := ⟨"InterlockingFrame$Locking", "<init>", "()V"⟩
abbrev M_Locking_init : ja_M := (prog_4_method_1_code, 1, "InterlockingFrame$Locking", "<init>", (Option.none : Option FieldType), 1, 20)
def y_Locking_statesInWord : MethodName := ⟨"InterlockingFrame$Locking", "statesInWord", "(II)J"⟩
abbrev M_Locking_statesInWord : ja_M := (prog_4_method_6_code, 5, "InterlockingFrame$Locking", "statesInWord", (Option.some FieldType.long), 0, 0)
def y_Merger_attempt : MethodName := ⟨"InterlockingFrame$Merge\x72", "attempt", "(II)V"⟩
abbrev M_Merger_attempt : ja_M := (prog_5_method_3_code, 3, "InterlockingFrame$Merge\x72", "attempt", (Option.none : Option FieldType), 4, 98)
def y_Merger_begin : MethodName := ⟨"InterlockingFrame$Merge\x72", "begin", "(LInterlockingFrame$Sheet;LInterlockingFrame$Search;)V"⟩
abbrev M_Merger_begin : ja_M := (prog_5_method_2_code, 3, "InterlockingFrame$Merge\x72", "begin", (Option.none : Option FieldType), 3, 66)
def y_Merger_init : MethodName := ⟨"InterlockingFrame$Merge\x72", "<init>", "(LInterlockingFrame$Search;)V"⟩
abbrev M_Merger_init : ja_M := (prog_5_method_1_code, 2, "InterlockingFrame$Merge\x72", "<init>", (Option.none : Option FieldType), 2, 40)
def y_Merger_keepsRoutesAndConflicts : MethodName := ⟨"InterlockingFrame$Merge\x72", "keepsRoutesAndConflicts", "()Z"⟩
abbrev M_Merger_keepsRoutesAndConflicts : ja_M := (prog_5_method_4_code, 1, "InterlockingFrame$Merge\x72", "keepsRoutesAndConflicts", (Option.some FieldType.boolean), 3, 66)
def y_Merger_mergeFirstPair : MethodName := ⟨"InterlockingFrame$Merge\x72", "mergeFirstPai\x72", "()Z"⟩
abbrev M_Merger_mergeFirstPair : ja_M := (prog_5_method_5_code, 3, "InterlockingFrame$Merge\x72", "mergeFirstPai\x72", (Option.some FieldType.boolean), 5, 120)
def y_Model_addRule : MethodName := ⟨"InterlockingFrameModel", "addRule", "(IIII)I"⟩
abbrev M_Model_addRule : ja_M := (prog_11_method_50_code, 7, "InterlockingFrameModel", "addRule", (Option.some FieldType.int), 3, 66)
def y_Model_appendBytes : MethodName := ⟨"InterlockingFrameModel", "appendBytes", "(IIIII)I"⟩
abbrev M_Model_appendBytes : ja_M := (prog_11_method_5_code, 8, "InterlockingFrameModel", "appendBytes", (Option.some FieldType.int), 0, 0)
def y_Model_areReachable : MethodName := ⟨"InterlockingFrameModel", "areReachable", "(II)Z"⟩
abbrev M_Model_areReachable : ja_M := (prog_11_method_58_code, 3, "InterlockingFrameModel", "areReachable", (Option.some FieldType.boolean), 8, 180)
def y_Model_bits : MethodName := ⟨"InterlockingFrameModel", "bits", "(I)I"⟩
abbrev M_Model_bits : ja_M := (prog_11_method_76_code, 3, "InterlockingFrameModel", "bits", (Option.some FieldType.int), 0, 0)
def y_Model_blockOf : MethodName := ⟨"InterlockingFrameModel", "blockOf", "(II)I"⟩
abbrev M_Model_blockOf : ja_M := (prog_11_method_41_code, 4, "InterlockingFrameModel", "blockOf", (Option.some FieldType.int), 4, 91)
def y_Model_blockingRule : MethodName := ⟨"InterlockingFrameModel", "blockingRule", "(II)I"⟩
abbrev M_Model_blockingRule : ja_M := (prog_11_method_55_code, 3, "InterlockingFrameModel", "blockingRule", (Option.some FieldType.int), 5, 114)
def y_Model_blocks : MethodName := ⟨"InterlockingFrameModel", "blocks", "(III)Z"⟩
abbrev M_Model_blocks : ja_M := (prog_11_method_40_code, 6, "InterlockingFrameModel", "blocks", (Option.some FieldType.boolean), 3, 66)
def y_Model_bufferLength : MethodName := ⟨"InterlockingFrameModel", "bufferLength", "()I"⟩
abbrev M_Model_bufferLength : ja_M := (prog_11_method_24_code, 1, "InterlockingFrameModel", "bufferLength", (Option.some FieldType.int), 0, 0)
def y_Model_clears : MethodName := ⟨"InterlockingFrameModel", "clears", "()V"⟩
abbrev M_Model_clears : ja_M := (prog_11_method_43_code, 2, "InterlockingFrameModel", "clears", (Option.none : Option FieldType), 0, 0)
def y_Model_completes : MethodName := ⟨"InterlockingFrameModel", "completes", "()Z"⟩
abbrev M_Model_completes : ja_M := (prog_11_method_73_code, 2, "InterlockingFrameModel", "completes", (Option.some FieldType.boolean), 9, 205)
def y_Model_completionLock : MethodName := ⟨"InterlockingFrameModel", "completionLock", "(I)I"⟩
abbrev M_Model_completionLock : ja_M := (prog_11_method_75_code, 2, "InterlockingFrameModel", "completionLock", (Option.some FieldType.int), 10, 226)
def y_Model_completionSize : MethodName := ⟨"InterlockingFrameModel", "completionSize", "()I"⟩
abbrev M_Model_completionSize : ja_M := (prog_11_method_74_code, 1, "InterlockingFrameModel", "completionSize", (Option.some FieldType.int), 10, 226)
def y_Model_conflictCount : MethodName := ⟨"InterlockingFrameModel", "conflictCount", "()I"⟩
abbrev M_Model_conflictCount : ja_M := (prog_11_method_36_code, 1, "InterlockingFrameModel", "conflictCount", (Option.some FieldType.int), 0, 0)
def y_Model_conflictLine : MethodName := ⟨"InterlockingFrameModel", "conflictLine", "()V"⟩
abbrev M_Model_conflictLine : ja_M := (prog_11_method_18_code, 3, "InterlockingFrameModel", "conflictLine", (Option.none : Option FieldType), 3, 68)
def y_Model_copies : MethodName := ⟨"InterlockingFrameModel", "copies", "(Z)V"⟩
abbrev M_Model_copies : ja_M := (prog_11_method_96_code, 3, "InterlockingFrameModel", "copies", (Option.none : Option FieldType), 0, 0)
def y_Model_currentState : MethodName := ⟨"InterlockingFrameModel", "currentState", "()I"⟩
abbrev M_Model_currentState : ja_M := (prog_11_method_48_code, 1, "InterlockingFrameModel", "currentState", (Option.some FieldType.int), 0, 0)
def y_Model_distance : MethodName := ⟨"InterlockingFrameModel", "distance", "(II)I"⟩
abbrev M_Model_distance : ja_M := (prog_11_method_59_code, 3, "InterlockingFrameModel", "distance", (Option.some FieldType.int), 9, 202)
def y_Model_excludedLevers : MethodName := ⟨"InterlockingFrameModel", "excludedLevers", "(I)I"⟩
abbrev M_Model_excludedLevers : ja_M := (prog_11_method_61_code, 4, "InterlockingFrameModel", "excludedLevers", (Option.some FieldType.int), 8, 180)
def y_Model_fails : MethodName := ⟨"InterlockingFrameModel", "fails", "(II)V"⟩
abbrev M_Model_fails : ja_M := (prog_11_method_7_code, 3, "InterlockingFrameModel", "fails", (Option.none : Option FieldType), 0, 0)
def y_Model_farthestState : MethodName := ⟨"InterlockingFrameModel", "farthestState", "()I"⟩
abbrev M_Model_farthestState : ja_M := (prog_11_method_78_code, 3, "InterlockingFrameModel", "farthestState", (Option.some FieldType.int), 8, 180)
def y_Model_forbids : MethodName := ⟨"InterlockingFrameModel", "forbids", "(II)Z"⟩
abbrev M_Model_forbids : ja_M := (prog_11_method_39_code, 3, "InterlockingFrameModel", "forbids", (Option.some FieldType.boolean), 2, 44)
def y_Model_freeLevers : MethodName := ⟨"InterlockingFrameModel", "freeLevers", "(I)I"⟩
abbrev M_Model_freeLevers : ja_M := (prog_11_method_56_code, 4, "InterlockingFrameModel", "freeLevers", (Option.some FieldType.int), 6, 136)
def y_Model_has : MethodName := ⟨"InterlockingFrameModel", "has", "(II)Z"⟩
abbrev M_Model_has : ja_M := (prog_11_method_3_code, 2, "InterlockingFrameModel", "has", (Option.some FieldType.boolean), 0, 0)
def y_Model_higher : MethodName := ⟨"InterlockingFrameModel", "highe\x72", "(II)I"⟩
abbrev M_Model_higher : ja_M := (prog_11_method_93_code, 3, "InterlockingFrameModel", "highe\x72", (Option.some FieldType.int), 0, 0)
def y_Model_init : MethodName := ⟨"InterlockingFrameModel", "<init>", "()V"⟩
abbrev M_Model_init : ja_M := (prog_11_method_4_code, 1, "InterlockingFrameModel", "<init>", (Option.none : Option FieldType), 1, 21)
def y_Model_isActive : MethodName := ⟨"InterlockingFrameModel", "isActive", "(II)Z"⟩
abbrev M_Model_isActive : ja_M := (prog_11_method_38_code, 4, "InterlockingFrameModel", "isActive", (Option.some FieldType.boolean), 1, 21)
def y_Model_isDeclared : MethodName := ⟨"InterlockingFrameModel", "isDeclared", "(II)Z"⟩
abbrev M_Model_isDeclared : ja_M := (prog_11_method_17_code, 5, "InterlockingFrameModel", "isDeclared", (Option.some FieldType.boolean), 0, 0)
def y_Model_isDigitHere : MethodName := ⟨"InterlockingFrameModel", "isDigitHere", "()Z"⟩
abbrev M_Model_isDigitHere : ja_M := (prog_11_method_11_code, 1, "InterlockingFrameModel", "isDigitHere", (Option.some FieldType.boolean), 1, 25)
def y_Model_isDue : MethodName := ⟨"InterlockingFrameModel", "isDue", "()Z"⟩
abbrev M_Model_isDue : ja_M := (prog_11_method_91_code, 1, "InterlockingFrameModel", "isDue", (Option.some FieldType.boolean), 8, 180)
def y_Model_isFree : MethodName := ⟨"InterlockingFrameModel", "isFree", "(II)Z"⟩
abbrev M_Model_isFree : ja_M := (prog_11_method_42_code, 3, "InterlockingFrameModel", "isFree", (Option.some FieldType.boolean), 5, 114)
def y_Model_isImplied : MethodName := ⟨"InterlockingFrameModel", "isImplied", "(I)I"⟩
abbrev M_Model_isImplied : ja_M := (prog_11_method_82_code, 2, "InterlockingFrameModel", "isImplied", (Option.some FieldType.int), 9, 202)
def y_Model_isImpliedBy : MethodName := ⟨"InterlockingFrameModel", "isImpliedBy", "(I)Z"⟩
abbrev M_Model_isImpliedBy : ja_M := (prog_11_method_81_code, 3, "InterlockingFrameModel", "isImpliedBy", (Option.some FieldType.boolean), 8, 180)
def y_Model_isIn : MethodName := ⟨"InterlockingFrameModel", "isIn", "(JJJ)Z"⟩
abbrev M_Model_isIn : ja_M := (prog_11_method_2_code, 6, "InterlockingFrameModel", "isIn", (Option.some FieldType.boolean), 0, 0)
def y_Model_isLegal : MethodName := ⟨"InterlockingFrameModel", "isLegal", "(I)I"⟩
abbrev M_Model_isLegal : ja_M := (prog_11_method_54_code, 3, "InterlockingFrameModel", "isLegal", (Option.some FieldType.int), 3, 66)
def y_Model_isLever : MethodName := ⟨"InterlockingFrameModel", "isLeve\x72", "(I)Z"⟩
abbrev M_Model_isLever : ja_M := (prog_11_method_25_code, 2, "InterlockingFrameModel", "isLeve\x72", (Option.some FieldType.boolean), 1, 25)
def y_Model_isMergeable : MethodName := ⟨"InterlockingFrameModel", "isMergeable", "(II)I"⟩
abbrev M_Model_isMergeable : ja_M := (prog_11_method_94_code, 3, "InterlockingFrameModel", "isMergeable", (Option.some FieldType.int), 9, 200)
def y_Model_isRoute : MethodName := ⟨"InterlockingFrameModel", "isRoute", "(I)Z"⟩
abbrev M_Model_isRoute : ja_M := (prog_11_method_27_code, 2, "InterlockingFrameModel", "isRoute", (Option.some FieldType.boolean), 1, 25)
def y_Model_isRule : MethodName := ⟨"InterlockingFrameModel", "isRule", "(I)Z"⟩
abbrev M_Model_isRule : ja_M := (prog_11_method_26_code, 2, "InterlockingFrameModel", "isRule", (Option.some FieldType.boolean), 1, 25)
def y_Model_isState : MethodName := ⟨"InterlockingFrameModel", "isState", "(I)Z"⟩
abbrev M_Model_isState : ja_M := (prog_11_method_28_code, 2, "InterlockingFrameModel", "isState", (Option.some FieldType.boolean), 1, 25)
def y_Model_isTold : MethodName := ⟨"InterlockingFrameModel", "isTold", "(III)Z"⟩
abbrev M_Model_isTold : ja_M := (prog_11_method_79_code, 5, "InterlockingFrameModel", "isTold", (Option.some FieldType.boolean), 4, 91)
def y_Model_joint : MethodName := ⟨"InterlockingFrameModel", "joint", "(II)I"⟩
abbrev M_Model_joint : ja_M := (prog_11_method_66_code, 5, "InterlockingFrameModel", "joint", (Option.some FieldType.int), 1, 22)
def y_Model_jointStates : MethodName := ⟨"InterlockingFrameModel", "jointStates", "(II)I"⟩
abbrev M_Model_jointStates : ja_M := (prog_11_method_67_code, 3, "InterlockingFrameModel", "jointStates", (Option.some FieldType.int), 8, 180)
def y_Model_largestRouteSet : MethodName := ⟨"InterlockingFrameModel", "largestRouteSet", "()I"⟩
abbrev M_Model_largestRouteSet : ja_M := (prog_11_method_77_code, 5, "InterlockingFrameModel", "largestRouteSet", (Option.some FieldType.int), 8, 180)
def y_Model_laysDue : MethodName := ⟨"InterlockingFrameModel", "laysDue", "()V"⟩
abbrev M_Model_laysDue : ja_M := (prog_11_method_90_code, 1, "InterlockingFrameModel", "laysDue", (Option.none : Option FieldType), 8, 180)
def y_Model_laysFrom : MethodName := ⟨"InterlockingFrameModel", "laysFrom", "(I)V"⟩
abbrev M_Model_laysFrom : ja_M := (prog_11_method_46_code, 2, "InterlockingFrameModel", "laysFrom", (Option.none : Option FieldType), 7, 159)
def y_Model_laysTest : MethodName := ⟨"InterlockingFrameModel", "laysTest", "(I)V"⟩
abbrev M_Model_laysTest : ja_M := (prog_11_method_84_code, 4, "InterlockingFrameModel", "laysTest", (Option.none : Option FieldType), 8, 180)
def y_Model_lettersHere : MethodName := ⟨"InterlockingFrameModel", "lettersHere", "()I"⟩
abbrev M_Model_lettersHere : ja_M := (prog_11_method_8_code, 2, "InterlockingFrameModel", "lettersHere", (Option.some FieldType.int), 1, 25)
def y_Model_lever : MethodName := ⟨"InterlockingFrameModel", "leve\x72", "()I"⟩
abbrev M_Model_lever : ja_M := (prog_11_method_14_code, 1, "InterlockingFrameModel", "leve\x72", (Option.some FieldType.int), 3, 68)
def y_Model_leverCount : MethodName := ⟨"InterlockingFrameModel", "leverCount", "()I"⟩
abbrev M_Model_leverCount : ja_M := (prog_11_method_29_code, 1, "InterlockingFrameModel", "leverCount", (Option.some FieldType.int), 0, 0)
def y_Model_leversAfterMerging : MethodName := ⟨"InterlockingFrameModel", "leversAfterMerging", "()I"⟩
abbrev M_Model_leversAfterMerging : ja_M := (prog_11_method_98_code, 2, "InterlockingFrameModel", "leversAfterMerging", (Option.some FieldType.int), 10, 222)
def y_Model_line : MethodName := ⟨"InterlockingFrameModel", "line", "()V"⟩
abbrev M_Model_line : ja_M := (prog_11_method_19_code, 2, "InterlockingFrameModel", "line", (Option.none : Option FieldType), 7, 159)
def y_Model_lockFor : MethodName := ⟨"InterlockingFrameModel", "lockFo\x72", "(I)I"⟩
abbrev M_Model_lockFor : ja_M := (prog_11_method_72_code, 6, "InterlockingFrameModel", "lockFo\x72", (Option.some FieldType.int), 8, 180)
def y_Model_lower : MethodName := ⟨"InterlockingFrameModel", "lowe\x72", "(II)I"⟩
abbrev M_Model_lower : ja_M := (prog_11_method_92_code, 3, "InterlockingFrameModel", "lowe\x72", (Option.some FieldType.int), 0, 0)
def y_Model_mergedLever : MethodName := ⟨"InterlockingFrameModel", "mergedLeve\x72", "(III)I"⟩
abbrev M_Model_mergedLever : ja_M := (prog_11_method_88_code, 3, "InterlockingFrameModel", "mergedLeve\x72", (Option.some FieldType.int), 0, 0)
def y_Model_mergedReachableCount : MethodName := ⟨"InterlockingFrameModel", "mergedReachableCount", "(II)I"⟩
abbrev M_Model_mergedReachableCount : ja_M := (prog_11_method_95_code, 3, "InterlockingFrameModel", "mergedReachableCount", (Option.some FieldType.int), 8, 180)
def y_Model_merges : MethodName := ⟨"InterlockingFrameModel", "merges", "(II)V"⟩
abbrev M_Model_merges : ja_M := (prog_11_method_89_code, 5, "InterlockingFrameModel", "merges", (Option.none : Option FieldType), 1, 22)
def y_Model_mergesOne : MethodName := ⟨"InterlockingFrameModel", "mergesOne", "()Z"⟩
abbrev M_Model_mergesOne : ja_M := (prog_11_method_97_code, 3, "InterlockingFrameModel", "mergesOne", (Option.some FieldType.boolean), 9, 200)
def y_Model_moveLever : MethodName := ⟨"InterlockingFrameModel", "moveLeve\x72", "(I)I"⟩
abbrev M_Model_moveLever : ja_M := (prog_11_method_49_code, 2, "InterlockingFrameModel", "moveLeve\x72", (Option.some FieldType.int), 6, 136)
def y_Model_nearer : MethodName := ⟨"InterlockingFrameModel", "neare\x72", "(I)I"⟩
abbrev M_Model_nearer : ja_M := (prog_11_method_87_code, 3, "InterlockingFrameModel", "neare\x72", (Option.some FieldType.int), 6, 136)
def y_Model_nextMove : MethodName := ⟨"InterlockingFrameModel", "nextMove", "(II)I"⟩
abbrev M_Model_nextMove : ja_M := (prog_11_method_60_code, 4, "InterlockingFrameModel", "nextMove", (Option.some FieldType.int), 9, 202)
def y_Model_number : MethodName := ⟨"InterlockingFrameModel", "numbe\x72", "(II)I"⟩
abbrev M_Model_number : ja_M := (prog_11_method_12_code, 4, "InterlockingFrameModel", "numbe\x72", (Option.some FieldType.int), 2, 45)
def y_Model_parseError : MethodName := ⟨"InterlockingFrameModel", "parseErro\x72", "()I"⟩
abbrev M_Model_parseError : ja_M := (prog_11_method_22_code, 1, "InterlockingFrameModel", "parseErro\x72", (Option.some FieldType.int), 0, 0)
def y_Model_parseErrorOffset : MethodName := ⟨"InterlockingFrameModel", "parseErrorOffset", "()I"⟩
abbrev M_Model_parseErrorOffset : ja_M := (prog_11_method_23_code, 1, "InterlockingFrameModel", "parseErrorOffset", (Option.some FieldType.int), 0, 0)
def y_Model_parseSheet : MethodName := ⟨"InterlockingFrameModel", "parseSheet", "(I)I"⟩
abbrev M_Model_parseSheet : ja_M := (prog_11_method_21_code, 4, "InterlockingFrameModel", "parseSheet", (Option.some FieldType.int), 9, 202)
def y_Model_parses : MethodName := ⟨"InterlockingFrameModel", "parses", "()I"⟩
abbrev M_Model_parses : ja_M := (prog_11_method_20_code, 3, "InterlockingFrameModel", "parses", (Option.some FieldType.int), 8, 180)
def y_Model_passes : MethodName := ⟨"InterlockingFrameModel", "passes", "(II)I"⟩
abbrev M_Model_passes : ja_M := (prog_11_method_10_code, 4, "InterlockingFrameModel", "passes", (Option.some FieldType.int), 5, 111)
def y_Model_peek : MethodName := ⟨"InterlockingFrameModel", "peek", "()I"⟩
abbrev M_Model_peek : ja_M := (prog_11_method_6_code, 1, "InterlockingFrameModel", "peek", (Option.some FieldType.int), 0, 0)
def y_Model_proposedLock : MethodName := ⟨"InterlockingFrameModel", "proposedLock", "(I)I"⟩
abbrev M_Model_proposedLock : ja_M := (prog_11_method_71_code, 2, "InterlockingFrameModel", "proposedLock", (Option.some FieldType.int), 9, 205)
def y_Model_puts : MethodName := ⟨"InterlockingFrameModel", "puts", "(IIIII)V"⟩
abbrev M_Model_puts : ja_M := (prog_11_method_51_code, 6, "InterlockingFrameModel", "puts", (Option.none : Option FieldType), 0, 0)
def y_Model_reachableCount : MethodName := ⟨"InterlockingFrameModel", "reachableCount", "()I"⟩
abbrev M_Model_reachableCount : ja_M := (prog_11_method_57_code, 1, "InterlockingFrameModel", "reachableCount", (Option.some FieldType.int), 8, 180)
def y_Model_reaches : MethodName := ⟨"InterlockingFrameModel", "reaches", "(II)V"⟩
abbrev M_Model_reaches : ja_M := (prog_11_method_44_code, 3, "InterlockingFrameModel", "reaches", (Option.none : Option FieldType), 0, 0)
def y_Model_reducedSheet : MethodName := ⟨"InterlockingFrameModel", "reducedSheet", "()I"⟩
abbrev M_Model_reducedSheet : ja_M := (prog_11_method_83_code, 2, "InterlockingFrameModel", "reducedSheet", (Option.some FieldType.int), 9, 202)
def y_Model_remembers : MethodName := ⟨"InterlockingFrameModel", "remembers", "()V"⟩
abbrev M_Model_remembers : ja_M := (prog_11_method_47_code, 2, "InterlockingFrameModel", "remembers", (Option.none : Option FieldType), 0, 0)
def y_Model_removeRule : MethodName := ⟨"InterlockingFrameModel", "removeRule", "(I)I"⟩
abbrev M_Model_removeRule : ja_M := (prog_11_method_52_code, 3, "InterlockingFrameModel", "removeRule", (Option.some FieldType.int), 2, 46)
def y_Model_routeCount : MethodName := ⟨"InterlockingFrameModel", "routeCount", "()I"⟩
abbrev M_Model_routeCount : ja_M := (prog_11_method_34_code, 1, "InterlockingFrameModel", "routeCount", (Option.some FieldType.int), 0, 0)
def y_Model_routeLevers : MethodName := ⟨"InterlockingFrameModel", "routeLevers", "(I)I"⟩
abbrev M_Model_routeLevers : ja_M := (prog_11_method_35_code, 2, "InterlockingFrameModel", "routeLevers", (Option.some FieldType.int), 2, 46)
def y_Model_routeLine : MethodName := ⟨"InterlockingFrameModel", "routeLine", "()V"⟩
abbrev M_Model_routeLine : ja_M := (prog_11_method_16_code, 3, "InterlockingFrameModel", "routeLine", (Option.none : Option FieldType), 4, 88)
def y_Model_ruleCondition : MethodName := ⟨"InterlockingFrameModel", "ruleCondition", "(I)I"⟩
abbrev M_Model_ruleCondition : ja_M := (prog_11_method_33_code, 2, "InterlockingFrameModel", "ruleCondition", (Option.some FieldType.int), 2, 46)
def y_Model_ruleCount : MethodName := ⟨"InterlockingFrameModel", "ruleCount", "()I"⟩
abbrev M_Model_ruleCount : ja_M := (prog_11_method_30_code, 1, "InterlockingFrameModel", "ruleCount", (Option.some FieldType.int), 0, 0)
def y_Model_ruleKind : MethodName := ⟨"InterlockingFrameModel", "ruleKind", "(I)I"⟩
abbrev M_Model_ruleKind : ja_M := (prog_11_method_31_code, 2, "InterlockingFrameModel", "ruleKind", (Option.some FieldType.int), 2, 46)
def y_Model_ruleLevers : MethodName := ⟨"InterlockingFrameModel", "ruleLevers", "(I)I"⟩
abbrev M_Model_ruleLevers : ja_M := (prog_11_method_32_code, 2, "InterlockingFrameModel", "ruleLevers", (Option.some FieldType.int), 2, 46)
def y_Model_ruleLine : MethodName := ⟨"InterlockingFrameModel", "ruleLine", "()V"⟩
abbrev M_Model_ruleLine : ja_M := (prog_11_method_15_code, 6, "InterlockingFrameModel", "ruleLine", (Option.none : Option FieldType), 6, 134)
def y_Model_semicolon : MethodName := ⟨"InterlockingFrameModel", "semicolon", "()V"⟩
abbrev M_Model_semicolon : ja_M := (prog_11_method_13_code, 1, "InterlockingFrameModel", "semicolon", (Option.none : Option FieldType), 1, 22)
def y_Model_sets : MethodName := ⟨"InterlockingFrameModel", "sets", "(II)Z"⟩
abbrev M_Model_sets : ja_M := (prog_11_method_62_code, 3, "InterlockingFrameModel", "sets", (Option.some FieldType.boolean), 0, 0)
def y_Model_settable : MethodName := ⟨"InterlockingFrameModel", "settable", "()I"⟩
abbrev M_Model_settable : ja_M := (prog_11_method_69_code, 3, "InterlockingFrameModel", "settable", (Option.some FieldType.int), 2, 46)
def y_Model_settingMoves : MethodName := ⟨"InterlockingFrameModel", "settingMoves", "(I)I"⟩
abbrev M_Model_settingMoves : ja_M := (prog_11_method_65_code, 3, "InterlockingFrameModel", "settingMoves", (Option.some FieldType.int), 8, 180)
def y_Model_settingOf : MethodName := ⟨"InterlockingFrameModel", "settingOf", "(I)I"⟩
abbrev M_Model_settingOf : ja_M := (prog_11_method_63_code, 4, "InterlockingFrameModel", "settingOf", (Option.some FieldType.int), 1, 22)
def y_Model_settingState : MethodName := ⟨"InterlockingFrameModel", "settingState", "(I)I"⟩
abbrev M_Model_settingState : ja_M := (prog_11_method_64_code, 2, "InterlockingFrameModel", "settingState", (Option.some FieldType.int), 8, 180)
def y_Model_spreads : MethodName := ⟨"InterlockingFrameModel", "spreads", "()V"⟩
abbrev M_Model_spreads : ja_M := (prog_11_method_45_code, 4, "InterlockingFrameModel", "spreads", (Option.none : Option FieldType), 6, 136)
def y_Model_tellingLever : MethodName := ⟨"InterlockingFrameModel", "tellingLeve\x72", "(II)I"⟩
abbrev M_Model_tellingLever : ja_M := (prog_11_method_80_code, 4, "InterlockingFrameModel", "tellingLeve\x72", (Option.some FieldType.int), 5, 115)
def y_Model_testLength : MethodName := ⟨"InterlockingFrameModel", "testLength", "(I)I"⟩
abbrev M_Model_testLength : ja_M := (prog_11_method_85_code, 2, "InterlockingFrameModel", "testLength", (Option.some FieldType.int), 9, 203)
def y_Model_testMove : MethodName := ⟨"InterlockingFrameModel", "testMove", "(II)I"⟩
abbrev M_Model_testMove : ja_M := (prog_11_method_86_code, 5, "InterlockingFrameModel", "testMove", (Option.some FieldType.int), 9, 203)
def y_Model_undo : MethodName := ⟨"InterlockingFrameModel", "undo", "()I"⟩
abbrev M_Model_undo : ja_M := (prog_11_method_53_code, 2, "InterlockingFrameModel", "undo", (Option.some FieldType.int), 0, 0)
def y_Model_unprotected : MethodName := ⟨"InterlockingFrameModel", "unprotected", "()I"⟩
abbrev M_Model_unprotected : ja_M := (prog_11_method_68_code, 3, "InterlockingFrameModel", "unprotected", (Option.some FieldType.int), 2, 46)
def y_Model_unprotectedConflicts : MethodName := ⟨"InterlockingFrameModel", "unprotectedConflicts", "()I"⟩
abbrev M_Model_unprotectedConflicts : ja_M := (prog_11_method_70_code, 1, "InterlockingFrameModel", "unprotectedConflicts", (Option.some FieldType.int), 8, 180)
def y_Model_usesSheet : MethodName := ⟨"InterlockingFrameModel", "usesSheet", "()V"⟩
abbrev M_Model_usesSheet : ja_M := (prog_11_method_37_code, 2, "InterlockingFrameModel", "usesSheet", (Option.none : Option FieldType), 0, 0)
def y_Model_wordHere : MethodName := ⟨"InterlockingFrameModel", "wordHere", "()I"⟩
abbrev M_Model_wordHere : ja_M := (prog_11_method_9_code, 7, "InterlockingFrameModel", "wordHere", (Option.some FieldType.int), 4, 85)
def y_Precond_checkIndex : MethodName := ⟨"jdk/internal/util/Preconditions", "checkIndex", "(IILjava/util/function/BiFunction;)I"⟩
abbrev M_Precond_checkIndex : ja_M := (prog_19_method_11_code, 3, "jdk/internal/util/Preconditions", "checkIndex", (Option.some FieldType.int), 0, 0)
def y_Rule_bites : MethodName := ⟨"InterlockingFrame$Rule", "bites", "(II)Z"⟩
abbrev M_Rule_bites : ja_M := (prog_6_method_9_code, 3, "InterlockingFrame$Rule", "bites", (Option.some FieldType.boolean), 2, 41)
def y_Rule_blocks : MethodName := ⟨"InterlockingFrame$Rule", "blocks", "(III)Z"⟩
abbrev M_Rule_blocks : ja_M := (prog_6_method_11_code, 3, "InterlockingFrame$Rule", "blocks", (Option.some FieldType.boolean), 3, 63)
def y_Rule_condition : MethodName := ⟨"InterlockingFrame$Rule", "condition", "(I)I"⟩
abbrev M_Rule_condition : ja_M := (prog_6_method_6_code, 1, "InterlockingFrame$Rule", "condition", (Option.some FieldType.int), 0, 0)
def y_Rule_forbids : MethodName := ⟨"InterlockingFrame$Rule", "forbids", "(II)Z"⟩
abbrev M_Rule_forbids : ja_M := (prog_6_method_10_code, 2, "InterlockingFrame$Rule", "forbids", (Option.some FieldType.boolean), 3, 63)
def y_Rule_kind : MethodName := ⟨"InterlockingFrame$Rule", "kind", "(I)I"⟩
abbrev M_Rule_kind : ja_M := (prog_6_method_3_code, 1, "InterlockingFrame$Rule", "kind", (Option.some FieldType.int), 0, 0)
def y_Rule_leverA : MethodName := ⟨"InterlockingFrame$Rule", "leverA", "(I)I"⟩
abbrev M_Rule_leverA : ja_M := (prog_6_method_4_code, 1, "InterlockingFrame$Rule", "leverA", (Option.some FieldType.int), 0, 0)
def y_Rule_leverB : MethodName := ⟨"InterlockingFrame$Rule", "leverB", "(I)I"⟩
abbrev M_Rule_leverB : ja_M := (prog_6_method_5_code, 1, "InterlockingFrame$Rule", "leverB", (Option.some FieldType.int), 0, 0)
def y_Rule_normalLevers : MethodName := ⟨"InterlockingFrame$Rule", "normalLevers", "(I)I"⟩
abbrev M_Rule_normalLevers : ja_M := (prog_6_method_8_code, 2, "InterlockingFrame$Rule", "normalLevers", (Option.some FieldType.int), 1, 20)
def y_Rule_pack : MethodName := ⟨"InterlockingFrame$Rule", "pack", "(IIII)I"⟩
abbrev M_Rule_pack : ja_M := (prog_6_method_2_code, 4, "InterlockingFrame$Rule", "pack", (Option.some FieldType.int), 0, 0)
def y_Rule_reversedLevers : MethodName := ⟨"InterlockingFrame$Rule", "reversedLevers", "(I)I"⟩
abbrev M_Rule_reversedLevers : ja_M := (prog_6_method_7_code, 2, "InterlockingFrame$Rule", "reversedLevers", (Option.some FieldType.int), 1, 20)
def y_Rule_withLeverReplaced : MethodName := ⟨"InterlockingFrame$Rule", "withLeverReplaced", "(III)I"⟩
abbrev M_Rule_withLeverReplaced : ja_M := (prog_6_method_12_code, 6, "InterlockingFrame$Rule", "withLeverReplaced", (Option.some FieldType.int), 1, 23)
def y_Search_countSetting : MethodName := ⟨"InterlockingFrame$Search", "countSetting", "(I)I"⟩
abbrev M_Search_countSetting : ja_M := (prog_7_method_10_code, 4, "InterlockingFrame$Search", "countSetting", (Option.some FieldType.int), 0, 0)
def y_Search_enter : MethodName := ⟨"InterlockingFrame$Search", "ente\x72", "(II)V"⟩
abbrev M_Search_enter : ja_M := (prog_7_method_4_code, 3, "InterlockingFrame$Search", "ente\x72", (Option.none : Option FieldType), 0, 0)
def y_Search_explore : MethodName := ⟨"InterlockingFrame$Search", "explore", "(II)V"⟩
abbrev M_Search_explore : ja_M := (prog_7_method_2_code, 7, "InterlockingFrame$Search", "explore", (Option.none : Option FieldType), 2, 42)
def y_Search_farthest : MethodName := ⟨"InterlockingFrame$Search", "farthest", "()I"⟩
abbrev M_Search_farthest : ja_M := (prog_7_method_12_code, 5, "InterlockingFrame$Search", "farthest", (Option.some FieldType.int), 2, 42)
def y_Search_firstPlaceFreed : MethodName := ⟨"InterlockingFrame$Search", "firstPlaceFreed", "(LInterlockingFrame$Locking;)I"⟩
abbrev M_Search_firstPlaceFreed : ja_M := (prog_7_method_14_code, 3, "InterlockingFrame$Search", "firstPlaceFreed", (Option.some FieldType.int), 2, 50)
def y_Search_forget : MethodName := ⟨"InterlockingFrame$Search", "forget", "()V"⟩
abbrev M_Search_forget : ja_M := (prog_7_method_3_code, 2, "InterlockingFrame$Search", "forget", (Option.none : Option FieldType), 0, 0)
def y_Search_init : MethodName := ⟨"InterlockingFrame$Search", "<init>", "()V"⟩
abbrev M_Search_init : ja_M := (prog_7_method_1_code, 1, "InterlockingFrame$Search", "<init>", (Option.none : Option FieldType), 2, 40)
def y_Search_leverFreed : MethodName := ⟨"InterlockingFrame$Search", "leverFreed", "(LInterlockingFrame$Locking;I)I"⟩
abbrev M_Search_leverFreed : ja_M := (prog_7_method_15_code, 4, "InterlockingFrame$Search", "leverFreed", (Option.some FieldType.int), 1, 27)
def y_Search_leverOnWay : MethodName := ⟨"InterlockingFrame$Search", "leverOnWay", "(II)I"⟩
abbrev M_Search_leverOnWay : ja_M := (prog_7_method_8_code, 5, "InterlockingFrame$Search", "leverOnWay", (Option.some FieldType.int), 2, 42)
def y_Search_leversSeenWith : MethodName := ⟨"InterlockingFrame$Search", "leversSeenWith", "(I)I"⟩
abbrev M_Search_leversSeenWith : ja_M := (prog_7_method_13_code, 4, "InterlockingFrame$Search", "leversSeenWith", (Option.some FieldType.int), 0, 0)
def y_Search_movesTo : MethodName := ⟨"InterlockingFrame$Search", "movesTo", "(I)I"⟩
abbrev M_Search_movesTo : ja_M := (prog_7_method_7_code, 2, "InterlockingFrame$Search", "movesTo", (Option.some FieldType.int), 1, 21)
def y_Search_nearestSetting : MethodName := ⟨"InterlockingFrame$Search", "nearestSetting", "(I)I"⟩
abbrev M_Search_nearestSetting : ja_M := (prog_7_method_11_code, 6, "InterlockingFrame$Search", "nearestSetting", (Option.some FieldType.int), 2, 42)
def y_Search_reached : MethodName := ⟨"InterlockingFrame$Search", "reached", "(I)Z"⟩
abbrev M_Search_reached : ja_M := (prog_7_method_5_code, 2, "InterlockingFrame$Search", "reached", (Option.some FieldType.boolean), 0, 0)
def y_Search_someStateSets : MethodName := ⟨"InterlockingFrame$Search", "someStateSets", "(I)Z"⟩
abbrev M_Search_someStateSets : ja_M := (prog_7_method_9_code, 3, "InterlockingFrame$Search", "someStateSets", (Option.some FieldType.boolean), 0, 0)
def y_Search_stateAt : MethodName := ⟨"InterlockingFrame$Search", "stateAt", "(I)I"⟩
abbrev M_Search_stateAt : ja_M := (prog_7_method_6_code, 2, "InterlockingFrame$Search", "stateAt", (Option.some FieldType.int), 0, 0)
def y_SheetParser_atText : MethodName := ⟨"InterlockingFrame$SheetParse\x72", "atText", "(Ljava/lang/String;)Z"⟩
abbrev M_SheetParser_atText : ja_M := (prog_9_method_13_code, 3, "InterlockingFrame$SheetParse\x72", "atText", (Option.some FieldType.boolean), 4, 85)
def y_SheetParser_byteAt : MethodName := ⟨"InterlockingFrame$SheetParse\x72", "byteAt", "(I)I"⟩
abbrev M_SheetParser_byteAt : ja_M := (prog_9_method_17_code, 2, "InterlockingFrame$SheetParse\x72", "byteAt", (Option.some FieldType.int), 0, 0)
def y_SheetParser_fail : MethodName := ⟨"InterlockingFrame$SheetParse\x72", "fail", "(I)Z"⟩
abbrev M_SheetParser_fail : ja_M := (prog_9_method_11_code, 2, "InterlockingFrame$SheetParse\x72", "fail", (Option.some FieldType.boolean), 0, 0)
def y_SheetParser_init : MethodName := ⟨"InterlockingFrame$SheetParse\x72", "<init>", "([I)V"⟩
abbrev M_SheetParser_init : ja_M := (prog_9_method_1_code, 2, "InterlockingFrame$SheetParse\x72", "<init>", (Option.none : Option FieldType), 1, 20)
def y_SheetParser_isDigit : MethodName := ⟨"InterlockingFrame$SheetParse\x72", "isDigit", "(I)Z"⟩
abbrev M_SheetParser_isDigit : ja_M := (prog_9_method_16_code, 1, "InterlockingFrame$SheetParse\x72", "isDigit", (Option.some FieldType.boolean), 0, 0)
def y_SheetParser_isLetter : MethodName := ⟨"InterlockingFrame$SheetParse\x72", "isLette\x72", "(I)Z"⟩
abbrev M_SheetParser_isLetter : ja_M := (prog_9_method_15_code, 1, "InterlockingFrame$SheetParse\x72", "isLette\x72", (Option.some FieldType.boolean), 0, 0)
def y_SheetParser_numberHere : MethodName := ⟨"InterlockingFrame$SheetParse\x72", "numberHere", "(II)I"⟩
abbrev M_SheetParser_numberHere : ja_M := (prog_9_method_12_code, 5, "InterlockingFrame$SheetParse\x72", "numberHere", (Option.some FieldType.int), 1, 21)
def y_SheetParser_read : MethodName := ⟨"InterlockingFrame$SheetParse\x72", "read", "(ILInterlockingFrame$Sheet;)Z"⟩
abbrev M_SheetParser_read : ja_M := (prog_9_method_2_code, 5, "InterlockingFrame$SheetParse\x72", "read", (Option.some FieldType.boolean), 8, 178)
def y_SheetParser_readCondition : MethodName := ⟨"InterlockingFrame$SheetParse\x72", "readCondition", "(LInterlockingFrame$Sheet;II)I"⟩
abbrev M_SheetParser_readCondition : ja_M := (prog_9_method_8_code, 6, "InterlockingFrame$SheetParse\x72", "readCondition", (Option.some FieldType.int), 5, 107)
def y_SheetParser_readConflict : MethodName := ⟨"InterlockingFrame$SheetParse\x72", "readConflict", "(LInterlockingFrame$Sheet;)Z"⟩
abbrev M_SheetParser_readConflict : ja_M := (prog_9_method_10_code, 4, "InterlockingFrame$SheetParse\x72", "readConflict", (Option.some FieldType.boolean), 2, 48)
def y_SheetParser_readHead : MethodName := ⟨"InterlockingFrame$SheetParse\x72", "readHead", "(LInterlockingFrame$Sheet;)Z"⟩
abbrev M_SheetParser_readHead : ja_M := (prog_9_method_3_code, 3, "InterlockingFrame$SheetParse\x72", "readHead", (Option.some FieldType.boolean), 6, 127)
def y_SheetParser_readRoute : MethodName := ⟨"InterlockingFrame$SheetParse\x72", "readRoute", "(LInterlockingFrame$Sheet;)Z"⟩
abbrev M_SheetParser_readRoute : ja_M := (prog_9_method_9_code, 5, "InterlockingFrame$SheetParse\x72", "readRoute", (Option.some FieldType.boolean), 2, 48)
def y_SheetParser_readRule : MethodName := ⟨"InterlockingFrame$SheetParse\x72", "readRule", "(LInterlockingFrame$Sheet;)Z"⟩
abbrev M_SheetParser_readRule : ja_M := (prog_9_method_6_code, 6, "InterlockingFrame$SheetParse\x72", "readRule", (Option.some FieldType.boolean), 6, 132)
def y_SheetParser_readSemicolon : MethodName := ⟨"InterlockingFrame$SheetParse\x72", "readSemicolon", "()Z"⟩
abbrev M_SheetParser_readSemicolon : ja_M := (prog_9_method_4_code, 1, "InterlockingFrame$SheetParse\x72", "readSemicolon", (Option.some FieldType.boolean), 5, 107)
def y_SheetParser_readStatement : MethodName := ⟨"InterlockingFrame$SheetParse\x72", "readStatement", "(LInterlockingFrame$Sheet;)Z"⟩
abbrev M_SheetParser_readStatement : ja_M := (prog_9_method_5_code, 2, "InterlockingFrame$SheetParse\x72", "readStatement", (Option.some FieldType.boolean), 7, 157)
def y_SheetParser_step : MethodName := ⟨"InterlockingFrame$SheetParse\x72", "step", "()V"⟩
abbrev M_SheetParser_step : ja_M := (prog_9_method_14_code, 3, "InterlockingFrame$SheetParse\x72", "step", (Option.none : Option FieldType), 1, 26)
def y_SheetParser_verbHere : MethodName := ⟨"InterlockingFrame$SheetParse\x72", "verbHere", "()I"⟩
abbrev M_SheetParser_verbHere : ja_M := (prog_9_method_7_code, 1, "InterlockingFrame$SheetParse\x72", "verbHere", (Option.some FieldType.int), 5, 107)
def y_Sheet_allLevers : MethodName := ⟨"InterlockingFrame$Sheet", "allLevers", "()I"⟩
abbrev M_Sheet_allLevers : ja_M := (prog_8_method_9_code, 1, "InterlockingFrame$Sheet", "allLevers", (Option.some FieldType.int), 0, 0)
def y_Sheet_allRules : MethodName := ⟨"InterlockingFrame$Sheet", "allRules", "()I"⟩
abbrev M_Sheet_allRules : ja_M := (prog_8_method_12_code, 1, "InterlockingFrame$Sheet", "allRules", (Option.some FieldType.int), 0, 0)
def y_Sheet_canMove : MethodName := ⟨"InterlockingFrame$Sheet", "canMove", "(I)Z"⟩
abbrev M_Sheet_canMove : ja_M := (prog_8_method_11_code, 2, "InterlockingFrame$Sheet", "canMove", (Option.some FieldType.boolean), 2, 40)
def y_Sheet_copyFrom : MethodName := ⟨"InterlockingFrame$Sheet", "copyFrom", "(LInterlockingFrame$Sheet;)V"⟩
abbrev M_Sheet_copyFrom : ja_M := (prog_8_method_3_code, 2, "InterlockingFrame$Sheet", "copyFrom", (Option.none : Option FieldType), 1, 26)
def y_Sheet_declaresConflict : MethodName := ⟨"InterlockingFrame$Sheet", "declaresConflict", "(II)Z"⟩
abbrev M_Sheet_declaresConflict : ja_M := (prog_8_method_17_code, 4, "InterlockingFrame$Sheet", "declaresConflict", (Option.some FieldType.boolean), 0, 0)
def y_Sheet_dropRule : MethodName := ⟨"InterlockingFrame$Sheet", "dropRule", "(I)V"⟩
abbrev M_Sheet_dropRule : ja_M := (prog_8_method_14_code, 2, "InterlockingFrame$Sheet", "dropRule", (Option.none : Option FieldType), 1, 26)
def y_Sheet_firstBlocker : MethodName := ⟨"InterlockingFrame$Sheet", "firstBlocke\x72", "(II)I"⟩
abbrev M_Sheet_firstBlocker : ja_M := (prog_8_method_20_code, 4, "InterlockingFrame$Sheet", "firstBlocke\x72", (Option.some FieldType.int), 4, 85)
def y_Sheet_hasConflict : MethodName := ⟨"InterlockingFrame$Sheet", "hasConflict", "(I)Z"⟩
abbrev M_Sheet_hasConflict : ja_M := (prog_8_method_8_code, 2, "InterlockingFrame$Sheet", "hasConflict", (Option.some FieldType.boolean), 0, 0)
def y_Sheet_hasLever : MethodName := ⟨"InterlockingFrame$Sheet", "hasLeve\x72", "(I)Z"⟩
abbrev M_Sheet_hasLever : ja_M := (prog_8_method_4_code, 2, "InterlockingFrame$Sheet", "hasLeve\x72", (Option.some FieldType.boolean), 0, 0)
def y_Sheet_hasRoute : MethodName := ⟨"InterlockingFrame$Sheet", "hasRoute", "(I)Z"⟩
abbrev M_Sheet_hasRoute : ja_M := (prog_8_method_7_code, 2, "InterlockingFrame$Sheet", "hasRoute", (Option.some FieldType.boolean), 0, 0)
def y_Sheet_hasRule : MethodName := ⟨"InterlockingFrame$Sheet", "hasRule", "(I)Z"⟩
abbrev M_Sheet_hasRule : ja_M := (prog_8_method_6_code, 2, "InterlockingFrame$Sheet", "hasRule", (Option.some FieldType.boolean), 0, 0)
def y_Sheet_hasState : MethodName := ⟨"InterlockingFrame$Sheet", "hasState", "(I)Z"⟩
abbrev M_Sheet_hasState : ja_M := (prog_8_method_5_code, 2, "InterlockingFrame$Sheet", "hasState", (Option.some FieldType.boolean), 1, 20)
def y_Sheet_init : MethodName := ⟨"InterlockingFrame$Sheet", "<init>", "()V"⟩
abbrev M_Sheet_init : ja_M := (prog_8_method_1_code, 1, "InterlockingFrame$Sheet", "<init>", (Option.none : Option FieldType), 1, 20)
def y_Sheet_insertConflict : MethodName := ⟨"InterlockingFrame$Sheet", "insertConflict", "(II)V"⟩
abbrev M_Sheet_insertConflict : ja_M := (prog_8_method_16_code, 3, "InterlockingFrame$Sheet", "insertConflict", (Option.none : Option FieldType), 0, 0)
def y_Sheet_insertRoute : MethodName := ⟨"InterlockingFrame$Sheet", "insertRoute", "(I)V"⟩
abbrev M_Sheet_insertRoute : ja_M := (prog_8_method_15_code, 2, "InterlockingFrame$Sheet", "insertRoute", (Option.none : Option FieldType), 0, 0)
def y_Sheet_insertRule : MethodName := ⟨"InterlockingFrame$Sheet", "insertRule", "(II)V"⟩
abbrev M_Sheet_insertRule : ja_M := (prog_8_method_13_code, 3, "InterlockingFrame$Sheet", "insertRule", (Option.none : Option FieldType), 1, 26)
def y_Sheet_largestJointSet : MethodName := ⟨"InterlockingFrame$Sheet", "largestJointSet", "(LInterlockingFrame$Search;)I"⟩
abbrev M_Sheet_largestJointSet : ja_M := (prog_8_method_24_code, 6, "InterlockingFrame$Sheet", "largestJointSet", (Option.some FieldType.int), 1, 23)
def y_Sheet_leversOfRoute : MethodName := ⟨"InterlockingFrame$Sheet", "leversOfRoute", "(I)I"⟩
abbrev M_Sheet_leversOfRoute : ja_M := (prog_8_method_18_code, 2, "InterlockingFrame$Sheet", "leversOfRoute", (Option.some FieldType.int), 1, 21)
def y_Sheet_mergeLever : MethodName := ⟨"InterlockingFrame$Sheet", "mergeLeve\x72", "(II)V"⟩
abbrev M_Sheet_mergeLever : ja_M := (prog_8_method_25_code, 4, "InterlockingFrame$Sheet", "mergeLeve\x72", (Option.none : Option FieldType), 2, 48)
def y_Sheet_movableLevers : MethodName := ⟨"InterlockingFrame$Sheet", "movableLevers", "()I"⟩
abbrev M_Sheet_movableLevers : ja_M := (prog_8_method_10_code, 1, "InterlockingFrame$Sheet", "movableLevers", (Option.some FieldType.int), 1, 20)
def y_Sheet_openConflicts : MethodName := ⟨"InterlockingFrame$Sheet", "openConflicts", "(LInterlockingFrame$Search;)I"⟩
abbrev M_Sheet_openConflicts : ja_M := (prog_8_method_22_code, 5, "InterlockingFrame$Sheet", "openConflicts", (Option.some FieldType.int), 2, 42)
def y_Sheet_permits : MethodName := ⟨"InterlockingFrame$Sheet", "permits", "(I)Z"⟩
abbrev M_Sheet_permits : ja_M := (prog_8_method_19_code, 3, "InterlockingFrame$Sheet", "permits", (Option.some FieldType.boolean), 4, 84)
def y_Sheet_routesSetIn : MethodName := ⟨"InterlockingFrame$Sheet", "routesSetIn", "(I)I"⟩
abbrev M_Sheet_routesSetIn : ja_M := (prog_8_method_23_code, 4, "InterlockingFrame$Sheet", "routesSetIn", (Option.some FieldType.int), 0, 0)
def y_Sheet_settableRoutes : MethodName := ⟨"InterlockingFrame$Sheet", "settableRoutes", "(LInterlockingFrame$Search;)I"⟩
abbrev M_Sheet_settableRoutes : ja_M := (prog_8_method_21_code, 4, "InterlockingFrame$Sheet", "settableRoutes", (Option.some FieldType.int), 1, 22)
def y_Sheet_wipe : MethodName := ⟨"InterlockingFrame$Sheet", "wipe", "(I)V"⟩
abbrev M_Sheet_wipe : ja_M := (prog_8_method_2_code, 2, "InterlockingFrame$Sheet", "wipe", (Option.none : Option FieldType), 0, 0)
def y_String_charAt : MethodName := ⟨"java/lang/String", "charAt", "(I)C"⟩
abbrev M_String_charAt : ja_M := (prog_14_method_56_code, 2, "java/lang/String", "charAt", (Option.some FieldType.char), 3, 64)
def y_String_checkIndex : MethodName := ⟨"java/lang/String", "checkIndex", "(II)V"⟩
abbrev M_String_checkIndex : ja_M := (prog_14_method_155_code, 2, "java/lang/String", "checkIndex", (Option.none : Option FieldType), 1, 22)
def y_String_coder : MethodName := ⟨"java/lang/String", "code\x72", "()B"⟩
abbrev M_String_coder : ja_M := (prog_14_method_152_code, 1, "java/lang/String", "code\x72", (Option.some FieldType.byte), 0, 0)
def y_String_isLatin1 : MethodName := ⟨"java/lang/String", "isLatin1", "()Z"⟩
abbrev M_String_isLatin1 : ja_M := (prog_14_method_154_code, 1, "java/lang/String", "isLatin1", (Option.some FieldType.boolean), 0, 0)
def y_String_length : MethodName := ⟨"java/lang/String", "length", "()I"⟩
abbrev M_String_length : ja_M := (prog_14_method_54_code, 1, "java/lang/String", "length", (Option.some FieldType.int), 1, 20)
theorem ks_Arrays_fillJ : ja_kS y_Arrays_fillJ M_Arrays_fillJ 2 := ⟨⟨ja_m1 7 rfl rfl, ja_m3 148 rfl rfl, by decide +kernel, by decide +kernel, by decide +kernel⟩, ja_m3 147 rfl rfl⟩
theorem kv_Frame_appendWord : ja_kV y_Frame_appendWord M_Frame_appendWord 1 7 := ⟨⟨ja_m1 1 rfl rfl, ja_m2 44 rfl rfl, by decide +kernel, by decide +kernel, by decide +kernel⟩, ja_m2 43 rfl rfl, ja_m0 0 rfl rfl, _, rfl, rfl⟩
theorem kv_Frame_completionSize : ja_kV y_Frame_completionSize M_Frame_completionSize 0 7 := ⟨⟨ja_m1 1 rfl rfl, ja_m4 59 rfl rfl, by decide +kernel, by decide +kernel, by decide +kernel⟩, ja_m4 57 rfl rfl, ja_m4 58 rfl rfl, _, rfl, rfl⟩
theorem kv_Frame_forgetFindings : ja_kV y_Frame_forgetFindings M_Frame_forgetFindings 0 7 := ⟨⟨ja_m1 1 rfl rfl, ja_m2 209 rfl rfl, by decide +kernel, by decide +kernel, by decide +kernel⟩, ja_m2 208 rfl rfl, ja_m0 14 rfl rfl, _, rfl, rfl⟩
theorem ks_Frame_leverPair : ja_kS y_Frame_leverPair M_Frame_leverPair 2 := ⟨⟨ja_m1 1 rfl rfl, ja_m3 14 rfl rfl, by decide +kernel, by decide +kernel, by decide +kernel⟩, ja_m3 13 rfl rfl⟩
theorem kv_Frame_placeFreedWithout : ja_kV y_Frame_placeFreedWithout M_Frame_placeFreedWithout 1 7 := ⟨⟨ja_m1 1 rfl rfl, ja_m4 108 rfl rfl, by decide +kernel, by decide +kernel, by decide +kernel⟩, ja_m4 107 rfl rfl, ja_m0 21 rfl rfl, _, rfl, rfl⟩
theorem kv_Frame_searchBetween : ja_kV y_Frame_searchBetween M_Frame_searchBetween 2 7 := ⟨⟨ja_m1 1 rfl rfl, ja_m3 202 rfl rfl, by decide +kernel, by decide +kernel, by decide +kernel⟩, ja_m3 201 rfl rfl, ja_m0 19 rfl rfl, _, rfl, rfl⟩
theorem kv_Frame_searchedHome : ja_kV y_Frame_searchedHome M_Frame_searchedHome 0 7 := ⟨⟨ja_m1 1 rfl rfl, ja_m3 137 rfl rfl, by decide +kernel, by decide +kernel, by decide +kernel⟩, ja_m3 136 rfl rfl, ja_m0 16 rfl rfl, _, rfl, rfl⟩
theorem kv_History_clear : ja_kV y_History_clear M_History_clear 0 0 := ⟨⟨ja_m1 4 rfl rfl, ja_m2 205 rfl rfl, by decide +kernel, by decide +kernel, by decide +kernel⟩, ja_m2 203 rfl rfl, ja_m2 204 rfl rfl, _, rfl, rfl⟩
theorem kv_History_forgetOldest : ja_kV y_History_forgetOldest M_History_forgetOldest 0 0 := ⟨⟨ja_m1 4 rfl rfl, ja_m3 77 rfl rfl, by decide +kernel, by decide +kernel, by decide +kernel⟩, ja_m3 76 rfl rfl, ja_m0 15 rfl rfl, _, rfl, rfl⟩
theorem kv_History_note : ja_kV y_History_note M_History_note 3 0 := ⟨⟨ja_m1 4 rfl rfl, ja_m3 73 rfl rfl, by decide +kernel, by decide +kernel, by decide +kernel⟩, ja_m3 71 rfl rfl, ja_m3 72 rfl rfl, _, rfl, rfl⟩
theorem kv_History_takeLatest : ja_kV y_History_takeLatest M_History_takeLatest 0 0 := ⟨⟨ja_m1 4 rfl rfl, ja_m3 104 rfl rfl, by decide +kernel, by decide +kernel, by decide +kernel⟩, ja_m3 102 rfl rfl, ja_m3 103 rfl rfl, _, rfl, rfl⟩
theorem ks_Integer_bitCount : ja_kS y_Integer_bitCount M_Integer_bitCount 1 := ⟨⟨ja_m1 18 rfl rfl, ja_m4 89 rfl rfl, by decide +kernel, by decide +kernel, by decide +kernel⟩, ja_m4 88 rfl rfl⟩
theorem kv_LockPlanner_complete : ja_kV y_LockPlanner_complete M_LockPlanner_complete 3 1 := ⟨⟨ja_m1 8 rfl rfl, ja_m4 63 rfl rfl, by decide +kernel, by decide +kernel, by decide +kernel⟩, ja_m4 61 rfl rfl, ja_m4 62 rfl rfl, _, rfl, rfl⟩
theorem kv_LockPlanner_keepsRoutes : ja_kV y_LockPlanner_keepsRoutes M_LockPlanner_keepsRoutes 4 1 := ⟨⟨ja_m1 8 rfl rfl, ja_m4 49 rfl rfl, by decide +kernel, by decide +kernel, by decide +kernel⟩, ja_m4 48 rfl rfl, ja_m0 20 rfl rfl, _, rfl, rfl⟩
theorem ks_LockPlanner_lockOf : ja_kS y_LockPlanner_lockOf M_LockPlanner_lockOf 2 := ⟨⟨ja_m1 8 rfl rfl, ja_m4 44 rfl rfl, by decide +kernel, by decide +kernel, by decide +kernel⟩, ja_m4 43 rfl rfl⟩
theorem kv_LockPlanner_propose : ja_kV y_LockPlanner_propose M_LockPlanner_propose 4 1 := ⟨⟨ja_m1 8 rfl rfl, ja_m4 39 rfl rfl, by decide +kernel, by decide +kernel, by decide +kernel⟩, ja_m4 37 rfl rfl, ja_m4 38 rfl rfl, _, rfl, rfl⟩
theorem ks_Locking_addStates : ja_kS y_Locking_addStates M_Locking_addStates 4 := ⟨⟨ja_m1 6 rfl rfl, ja_m3 158 rfl rfl, by decide +kernel, by decide +kernel, by decide +kernel⟩, ja_m3 157 rfl rfl⟩
theorem kv_Locking_allows : ja_kV y_Locking_allows M_Locking_allows 2 2 := ⟨⟨ja_m1 6 rfl rfl, ja_m3 190 rfl rfl, by decide +kernel, by decide +kernel, by decide +kernel⟩, ja_m3 188 rfl rfl, ja_m3 189 rfl rfl, _, rfl, rfl⟩
theorem kv_Locking_copyFrom : ja_kV y_Locking_copyFrom M_Locking_copyFrom 1 2 := ⟨⟨ja_m1 6 rfl rfl, ja_m3 207 rfl rfl, by decide +kernel, by decide +kernel, by decide +kernel⟩, ja_m3 205 rfl rfl, ja_m3 206 rfl rfl, _, rfl, rfl⟩
theorem kv_Locking_enforce : ja_kV y_Locking_enforce M_Locking_enforce 1 2 := ⟨⟨ja_m1 6 rfl rfl, ja_m3 152 rfl rfl, by decide +kernel, by decide +kernel, by decide +kernel⟩, ja_m3 150 rfl rfl, ja_m3 151 rfl rfl, _, rfl, rfl⟩
theorem kv_Locking_enforceAll : ja_kV y_Locking_enforceAll M_Locking_enforceAll 2 2 := ⟨⟨ja_m1 6 rfl rfl, ja_m3 145 rfl rfl, by decide +kernel, by decide +kernel, by decide +kernel⟩, ja_m3 143 rfl rfl, ja_m3 144 rfl rfl, _, rfl, rfl⟩
theorem ks_Locking_statesInWord : ja_kS y_Locking_statesInWord M_Locking_statesInWord 2 := ⟨⟨ja_m1 6 rfl rfl, ja_m3 161 rfl rfl, by decide +kernel, by decide +kernel, by decide +kernel⟩, ja_m3 160 rfl rfl⟩
theorem kv_Merger_attempt : ja_kV y_Merger_attempt M_Merger_attempt 2 3 := ⟨⟨ja_m1 9 rfl rfl, ja_m4 149 rfl rfl, by decide +kernel, by decide +kernel, by decide +kernel⟩, ja_m4 147 rfl rfl, ja_m4 148 rfl rfl, _, rfl, rfl⟩
theorem kv_Merger_begin : ja_kV y_Merger_begin M_Merger_begin 2 3 := ⟨⟨ja_m1 9 rfl rfl, ja_m4 138 rfl rfl, by decide +kernel, by decide +kernel, by decide +kernel⟩, ja_m4 136 rfl rfl, ja_m4 137 rfl rfl, _, rfl, rfl⟩
theorem kv_Merger_keepsRoutesAndConflicts : ja_kV y_Merger_keepsRoutesAndConflicts M_Merger_keepsRoutesAndConflicts 0 3 := ⟨⟨ja_m1 9 rfl rfl, ja_m4 165 rfl rfl, by decide +kernel, by decide +kernel, by decide +kernel⟩, ja_m4 163 rfl rfl, ja_m4 164 rfl rfl, _, rfl, rfl⟩
theorem kv_Merger_mergeFirstPair : ja_kV y_Merger_mergeFirstPair M_Merger_mergeFirstPair 0 3 := ⟨⟨ja_m1 9 rfl rfl, ja_m4 177 rfl rfl, by decide +kernel, by decide +kernel, by decide +kernel⟩, ja_m4 175 rfl rfl, ja_m4 176 rfl rfl, _, rfl, rfl⟩
theorem kv_Model_areReachable : ja_kV y_Model_areReachable M_Model_areReachable 2 8 := ⟨⟨ja_m1 10 rfl rfl, ja_m6 71 rfl rfl, by decide +kernel, by decide +kernel, by decide +kernel⟩, ja_m6 70 rfl rfl, ja_m0 53 rfl rfl, _, rfl, rfl⟩
theorem ks_Model_bits : ja_kS y_Model_bits M_Model_bits 1 := ⟨⟨ja_m1 10 rfl rfl, ja_m6 142 rfl rfl, by decide +kernel, by decide +kernel, by decide +kernel⟩, ja_m6 141 rfl rfl⟩
theorem kv_Model_blockOf : ja_kV y_Model_blockOf M_Model_blockOf 2 8 := ⟨⟨ja_m1 10 rfl rfl, ja_m5 234 rfl rfl, by decide +kernel, by decide +kernel, by decide +kernel⟩, ja_m5 233 rfl rfl, ja_m0 42 rfl rfl, _, rfl, rfl⟩
theorem kv_Model_blocks : ja_kV y_Model_blocks M_Model_blocks 3 8 := ⟨⟨ja_m1 10 rfl rfl, ja_m5 238 rfl rfl, by decide +kernel, by decide +kernel, by decide +kernel⟩, ja_m5 237 rfl rfl, ja_m0 43 rfl rfl, _, rfl, rfl⟩
theorem kv_Model_clears : ja_kV y_Model_clears M_Model_clears 0 8 := ⟨⟨ja_m1 10 rfl rfl, ja_m6 55 rfl rfl, by decide +kernel, by decide +kernel, by decide +kernel⟩, ja_m6 54 rfl rfl, ja_m0 50 rfl rfl, _, rfl, rfl⟩
theorem kv_Model_completes : ja_kV y_Model_completes M_Model_completes 0 8 := ⟨⟨ja_m1 10 rfl rfl, ja_m6 131 rfl rfl, by decide +kernel, by decide +kernel, by decide +kernel⟩, ja_m6 130 rfl rfl, ja_m0 60 rfl rfl, _, rfl, rfl⟩
theorem kv_Model_conflictLine : ja_kV y_Model_conflictLine M_Model_conflictLine 0 8 := ⟨⟨ja_m1 10 rfl rfl, ja_m5 158 rfl rfl, by decide +kernel, by decide +kernel, by decide +kernel⟩, ja_m5 157 rfl rfl, ja_m0 36 rfl rfl, _, rfl, rfl⟩
theorem kv_Model_copies : ja_kV y_Model_copies M_Model_copies 1 8 := ⟨⟨ja_m1 10 rfl rfl, ja_m6 225 rfl rfl, by decide +kernel, by decide +kernel, by decide +kernel⟩, ja_m6 224 rfl rfl, ja_m0 72 rfl rfl, _, rfl, rfl⟩
theorem kv_Model_fails : ja_kV y_Model_fails M_Model_fails 2 8 := ⟨⟨ja_m1 10 rfl rfl, ja_m5 121 rfl rfl, by decide +kernel, by decide +kernel, by decide +kernel⟩, ja_m5 120 rfl rfl, ja_m0 28 rfl rfl, _, rfl, rfl⟩
theorem kv_Model_forbids : ja_kV y_Model_forbids M_Model_forbids 2 8 := ⟨⟨ja_m1 10 rfl rfl, ja_m6 2 rfl rfl, by decide +kernel, by decide +kernel, by decide +kernel⟩, ja_m6 1 rfl rfl, ja_m0 44 rfl rfl, _, rfl, rfl⟩
theorem ks_Model_has : ja_kS y_Model_has M_Model_has 2 := ⟨⟨ja_m1 10 rfl rfl, ja_m5 154 rfl rfl, by decide +kernel, by decide +kernel, by decide +kernel⟩, ja_m5 153 rfl rfl⟩
theorem kv_Model_higher : ja_kV y_Model_higher M_Model_higher 2 8 := ⟨⟨ja_m1 10 rfl rfl, ja_m6 198 rfl rfl, by decide +kernel, by decide +kernel, by decide +kernel⟩, ja_m6 197 rfl rfl, ja_m0 68 rfl rfl, _, rfl, rfl⟩
theorem kv_Model_isActive : ja_kV y_Model_isActive M_Model_isActive 2 8 := ⟨⟨ja_m1 10 rfl rfl, ja_m6 6 rfl rfl, by decide +kernel, by decide +kernel, by decide +kernel⟩, ja_m6 5 rfl rfl, ja_m0 45 rfl rfl, _, rfl, rfl⟩
theorem kv_Model_isDeclared : ja_kV y_Model_isDeclared M_Model_isDeclared 2 8 := ⟨⟨ja_m1 10 rfl rfl, ja_m5 162 rfl rfl, by decide +kernel, by decide +kernel, by decide +kernel⟩, ja_m5 161 rfl rfl, ja_m0 37 rfl rfl, _, rfl, rfl⟩
theorem kv_Model_isDigitHere : ja_kV y_Model_isDigitHere M_Model_isDigitHere 0 8 := ⟨⟨ja_m1 10 rfl rfl, ja_m5 129 rfl rfl, by decide +kernel, by decide +kernel, by decide +kernel⟩, ja_m5 128 rfl rfl, ja_m0 30 rfl rfl, _, rfl, rfl⟩
theorem kv_Model_isDue : ja_kV y_Model_isDue M_Model_isDue 0 8 := ⟨⟨ja_m1 10 rfl rfl, ja_m6 209 rfl rfl, by decide +kernel, by decide +kernel, by decide +kernel⟩, ja_m6 208 rfl rfl, ja_m0 70 rfl rfl, _, rfl, rfl⟩
theorem kv_Model_isFree : ja_kV y_Model_isFree M_Model_isFree 2 8 := ⟨⟨ja_m1 10 rfl rfl, ja_m5 230 rfl rfl, by decide +kernel, by decide +kernel, by decide +kernel⟩, ja_m5 229 rfl rfl, ja_m0 41 rfl rfl, _, rfl, rfl⟩
theorem kv_Model_isImpliedBy : ja_kV y_Model_isImpliedBy M_Model_isImpliedBy 1 8 := ⟨⟨ja_m1 10 rfl rfl, ja_m6 154 rfl rfl, by decide +kernel, by decide +kernel, by decide +kernel⟩, ja_m6 153 rfl rfl, ja_m0 61 rfl rfl, _, rfl, rfl⟩
theorem ks_Model_isIn : ja_kS y_Model_isIn M_Model_isIn 3 := ⟨⟨ja_m1 10 rfl rfl, ja_m5 92 rfl rfl, by decide +kernel, by decide +kernel, by decide +kernel⟩, ja_m5 91 rfl rfl⟩
theorem kv_Model_isLever : ja_kV y_Model_isLever M_Model_isLever 1 8 := ⟨⟨ja_m1 10 rfl rfl, ja_m5 226 rfl rfl, by decide +kernel, by decide +kernel, by decide +kernel⟩, ja_m5 225 rfl rfl, ja_m0 40 rfl rfl, _, rfl, rfl⟩
theorem kv_Model_isRoute : ja_kV y_Model_isRoute M_Model_isRoute 1 8 := ⟨⟨ja_m1 10 rfl rfl, ja_m5 210 rfl rfl, by decide +kernel, by decide +kernel, by decide +kernel⟩, ja_m5 209 rfl rfl, ja_m0 39 rfl rfl, _, rfl, rfl⟩
theorem kv_Model_isRule : ja_kV y_Model_isRule M_Model_isRule 1 8 := ⟨⟨ja_m1 10 rfl rfl, ja_m5 190 rfl rfl, by decide +kernel, by decide +kernel, by decide +kernel⟩, ja_m5 189 rfl rfl, ja_m0 38 rfl rfl, _, rfl, rfl⟩
theorem kv_Model_isState : ja_kV y_Model_isState M_Model_isState 1 8 := ⟨⟨ja_m1 10 rfl rfl, ja_m6 35 rfl rfl, by decide +kernel, by decide +kernel, by decide +kernel⟩, ja_m6 34 rfl rfl, ja_m0 48 rfl rfl, _, rfl, rfl⟩
theorem kv_Model_isTold : ja_kV y_Model_isTold M_Model_isTold 3 8 := ⟨⟨ja_m1 10 rfl rfl, ja_m6 162 rfl rfl, by decide +kernel, by decide +kernel, by decide +kernel⟩, ja_m6 161 rfl rfl, ja_m0 63 rfl rfl, _, rfl, rfl⟩
theorem kv_Model_joint : ja_kV y_Model_joint M_Model_joint 2 8 := ⟨⟨ja_m1 10 rfl rfl, ja_m6 103 rfl rfl, by decide +kernel, by decide +kernel, by decide +kernel⟩, ja_m6 102 rfl rfl, ja_m0 56 rfl rfl, _, rfl, rfl⟩
theorem kv_Model_laysDue : ja_kV y_Model_laysDue M_Model_laysDue 0 8 := ⟨⟨ja_m1 10 rfl rfl, ja_m6 190 rfl rfl, by decide +kernel, by decide +kernel, by decide +kernel⟩, ja_m6 189 rfl rfl, ja_m0 66 rfl rfl, _, rfl, rfl⟩
theorem kv_Model_laysFrom : ja_kV y_Model_laysFrom M_Model_laysFrom 1 8 := ⟨⟨ja_m1 10 rfl rfl, ja_m6 51 rfl rfl, by decide +kernel, by decide +kernel, by decide +kernel⟩, ja_m6 50 rfl rfl, ja_m0 49 rfl rfl, _, rfl, rfl⟩
theorem kv_Model_laysTest : ja_kV y_Model_laysTest M_Model_laysTest 1 8 := ⟨⟨ja_m1 10 rfl rfl, ja_m6 174 rfl rfl, by decide +kernel, by decide +kernel, by decide +kernel⟩, ja_m6 173 rfl rfl, ja_m0 64 rfl rfl, _, rfl, rfl⟩
theorem kv_Model_lettersHere : ja_kV y_Model_lettersHere M_Model_lettersHere 0 8 := ⟨⟨ja_m1 10 rfl rfl, ja_m5 114 rfl rfl, by decide +kernel, by decide +kernel, by decide +kernel⟩, ja_m5 113 rfl rfl, ja_m0 27 rfl rfl, _, rfl, rfl⟩
theorem kv_Model_lever : ja_kV y_Model_lever M_Model_lever 0 8 := ⟨⟨ja_m1 10 rfl rfl, ja_m5 147 rfl rfl, by decide +kernel, by decide +kernel, by decide +kernel⟩, ja_m5 146 rfl rfl, ja_m0 34 rfl rfl, _, rfl, rfl⟩
theorem kv_Model_line : ja_kV y_Model_line M_Model_line 0 8 := ⟨⟨ja_m1 10 rfl rfl, ja_m5 139 rfl rfl, by decide +kernel, by decide +kernel, by decide +kernel⟩, ja_m5 138 rfl rfl, ja_m0 32 rfl rfl, _, rfl, rfl⟩
theorem kv_Model_lockFor : ja_kV y_Model_lockFor M_Model_lockFor 1 8 := ⟨⟨ja_m1 10 rfl rfl, ja_m6 119 rfl rfl, by decide +kernel, by decide +kernel, by decide +kernel⟩, ja_m6 118 rfl rfl, ja_m0 58 rfl rfl, _, rfl, rfl⟩
theorem kv_Model_lower : ja_kV y_Model_lower M_Model_lower 2 8 := ⟨⟨ja_m1 10 rfl rfl, ja_m6 194 rfl rfl, by decide +kernel, by decide +kernel, by decide +kernel⟩, ja_m6 193 rfl rfl, ja_m0 67 rfl rfl, _, rfl, rfl⟩
theorem ks_Model_mergedLever : ja_kS y_Model_mergedLever M_Model_mergedLever 3 := ⟨⟨ja_m1 10 rfl rfl, ja_m6 205 rfl rfl, by decide +kernel, by decide +kernel, by decide +kernel⟩, ja_m6 204 rfl rfl⟩
theorem kv_Model_merges : ja_kV y_Model_merges M_Model_merges 2 8 := ⟨⟨ja_m1 10 rfl rfl, ja_m6 202 rfl rfl, by decide +kernel, by decide +kernel, by decide +kernel⟩, ja_m6 201 rfl rfl, ja_m0 69 rfl rfl, _, rfl, rfl⟩
theorem kv_Model_mergesOne : ja_kV y_Model_mergesOne M_Model_mergesOne 0 8 := ⟨⟨ja_m1 10 rfl rfl, ja_m6 221 rfl rfl, by decide +kernel, by decide +kernel, by decide +kernel⟩, ja_m6 220 rfl rfl, ja_m0 71 rfl rfl, _, rfl, rfl⟩
theorem kv_Model_nearer : ja_kV y_Model_nearer M_Model_nearer 1 8 := ⟨⟨ja_m1 10 rfl rfl, ja_m6 182 rfl rfl, by decide +kernel, by decide +kernel, by decide +kernel⟩, ja_m6 181 rfl rfl, ja_m0 65 rfl rfl, _, rfl, rfl⟩
theorem kv_Model_number : ja_kV y_Model_number M_Model_number 2 8 := ⟨⟨ja_m1 10 rfl rfl, ja_m5 125 rfl rfl, by decide +kernel, by decide +kernel, by decide +kernel⟩, ja_m5 124 rfl rfl, ja_m0 29 rfl rfl, _, rfl, rfl⟩
theorem kv_Model_parses : ja_kV y_Model_parses M_Model_parses 0 8 := ⟨⟨ja_m1 10 rfl rfl, ja_m5 96 rfl rfl, by decide +kernel, by decide +kernel, by decide +kernel⟩, ja_m5 95 rfl rfl, ja_m0 23 rfl rfl, _, rfl, rfl⟩
theorem kv_Model_passes : ja_kV y_Model_passes M_Model_passes 2 8 := ⟨⟨ja_m1 10 rfl rfl, ja_m5 100 rfl rfl, by decide +kernel, by decide +kernel, by decide +kernel⟩, ja_m5 99 rfl rfl, ja_m0 24 rfl rfl, _, rfl, rfl⟩
theorem kv_Model_peek : ja_kV y_Model_peek M_Model_peek 0 8 := ⟨⟨ja_m1 10 rfl rfl, ja_m5 108 rfl rfl, by decide +kernel, by decide +kernel, by decide +kernel⟩, ja_m5 107 rfl rfl, ja_m0 26 rfl rfl, _, rfl, rfl⟩
theorem kv_Model_puts : ja_kV y_Model_puts M_Model_puts 5 8 := ⟨⟨ja_m1 10 rfl rfl, ja_m6 19 rfl rfl, by decide +kernel, by decide +kernel, by decide +kernel⟩, ja_m6 18 rfl rfl, ja_m0 47 rfl rfl, _, rfl, rfl⟩
theorem kv_Model_reaches : ja_kV y_Model_reaches M_Model_reaches 2 8 := ⟨⟨ja_m1 10 rfl rfl, ja_m6 59 rfl rfl, by decide +kernel, by decide +kernel, by decide +kernel⟩, ja_m6 58 rfl rfl, ja_m0 51 rfl rfl, _, rfl, rfl⟩
theorem kv_Model_remembers : ja_kV y_Model_remembers M_Model_remembers 0 8 := ⟨⟨ja_m1 10 rfl rfl, ja_m6 10 rfl rfl, by decide +kernel, by decide +kernel, by decide +kernel⟩, ja_m6 9 rfl rfl, ja_m0 46 rfl rfl, _, rfl, rfl⟩
theorem kv_Model_routeLine : ja_kV y_Model_routeLine M_Model_routeLine 0 8 := ⟨⟨ja_m1 10 rfl rfl, ja_m5 151 rfl rfl, by decide +kernel, by decide +kernel, by decide +kernel⟩, ja_m5 150 rfl rfl, ja_m0 35 rfl rfl, _, rfl, rfl⟩
theorem kv_Model_ruleLine : ja_kV y_Model_ruleLine M_Model_ruleLine 0 8 := ⟨⟨ja_m1 10 rfl rfl, ja_m5 143 rfl rfl, by decide +kernel, by decide +kernel, by decide +kernel⟩, ja_m5 142 rfl rfl, ja_m0 33 rfl rfl, _, rfl, rfl⟩
theorem kv_Model_semicolon : ja_kV y_Model_semicolon M_Model_semicolon 0 8 := ⟨⟨ja_m1 10 rfl rfl, ja_m5 135 rfl rfl, by decide +kernel, by decide +kernel, by decide +kernel⟩, ja_m5 134 rfl rfl, ja_m0 31 rfl rfl, _, rfl, rfl⟩
theorem kv_Model_sets : ja_kV y_Model_sets M_Model_sets 2 8 := ⟨⟨ja_m1 10 rfl rfl, ja_m6 91 rfl rfl, by decide +kernel, by decide +kernel, by decide +kernel⟩, ja_m6 90 rfl rfl, ja_m0 55 rfl rfl, _, rfl, rfl⟩
theorem kv_Model_settable : ja_kV y_Model_settable M_Model_settable 0 8 := ⟨⟨ja_m1 10 rfl rfl, ja_m6 123 rfl rfl, by decide +kernel, by decide +kernel, by decide +kernel⟩, ja_m6 122 rfl rfl, ja_m0 59 rfl rfl, _, rfl, rfl⟩
theorem kv_Model_settingOf : ja_kV y_Model_settingOf M_Model_settingOf 1 8 := ⟨⟨ja_m1 10 rfl rfl, ja_m6 87 rfl rfl, by decide +kernel, by decide +kernel, by decide +kernel⟩, ja_m6 86 rfl rfl, ja_m0 54 rfl rfl, _, rfl, rfl⟩
theorem kv_Model_spreads : ja_kV y_Model_spreads M_Model_spreads 0 8 := ⟨⟨ja_m1 10 rfl rfl, ja_m6 63 rfl rfl, by decide +kernel, by decide +kernel, by decide +kernel⟩, ja_m6 62 rfl rfl, ja_m0 52 rfl rfl, _, rfl, rfl⟩
theorem kv_Model_tellingLever : ja_kV y_Model_tellingLever M_Model_tellingLever 2 8 := ⟨⟨ja_m1 10 rfl rfl, ja_m6 158 rfl rfl, by decide +kernel, by decide +kernel, by decide +kernel⟩, ja_m6 157 rfl rfl, ja_m0 62 rfl rfl, _, rfl, rfl⟩
theorem kv_Model_unprotected : ja_kV y_Model_unprotected M_Model_unprotected 0 8 := ⟨⟨ja_m1 10 rfl rfl, ja_m6 111 rfl rfl, by decide +kernel, by decide +kernel, by decide +kernel⟩, ja_m6 110 rfl rfl, ja_m0 57 rfl rfl, _, rfl, rfl⟩
theorem kv_Model_usesSheet : ja_kV y_Model_usesSheet M_Model_usesSheet 0 8 := ⟨⟨ja_m1 10 rfl rfl, ja_m4 194 rfl rfl, by decide +kernel, by decide +kernel, by decide +kernel⟩, ja_m4 193 rfl rfl, ja_m0 22 rfl rfl, _, rfl, rfl⟩
theorem kv_Model_wordHere : ja_kV y_Model_wordHere M_Model_wordHere 0 8 := ⟨⟨ja_m1 10 rfl rfl, ja_m5 104 rfl rfl, by decide +kernel, by decide +kernel, by decide +kernel⟩, ja_m5 103 rfl rfl, ja_m0 25 rfl rfl, _, rfl, rfl⟩
theorem ks_Rule_bites : ja_kS y_Rule_bites M_Rule_bites 2 := ⟨⟨ja_m1 16 rfl rfl, ja_m3 61 rfl rfl, by decide +kernel, by decide +kernel, by decide +kernel⟩, ja_m3 60 rfl rfl⟩
theorem ks_Rule_blocks : ja_kS y_Rule_blocks M_Rule_blocks 3 := ⟨⟨ja_m1 16 rfl rfl, ja_m3 56 rfl rfl, by decide +kernel, by decide +kernel, by decide +kernel⟩, ja_m3 55 rfl rfl⟩
theorem ks_Rule_condition : ja_kS y_Rule_condition M_Rule_condition 1 := ⟨⟨ja_m1 16 rfl rfl, ja_m3 21 rfl rfl, by decide +kernel, by decide +kernel, by decide +kernel⟩, ja_m3 20 rfl rfl⟩
theorem ks_Rule_forbids : ja_kS y_Rule_forbids M_Rule_forbids 2 := ⟨⟨ja_m1 16 rfl rfl, ja_m3 86 rfl rfl, by decide +kernel, by decide +kernel, by decide +kernel⟩, ja_m3 85 rfl rfl⟩
theorem ks_Rule_kind : ja_kS y_Rule_kind M_Rule_kind 1 := ⟨⟨ja_m1 16 rfl rfl, ja_m3 1 rfl rfl, by decide +kernel, by decide +kernel, by decide +kernel⟩, ja_m3 0 rfl rfl⟩
theorem ks_Rule_leverA : ja_kS y_Rule_leverA M_Rule_leverA 1 := ⟨⟨ja_m1 16 rfl rfl, ja_m3 8 rfl rfl, by decide +kernel, by decide +kernel, by decide +kernel⟩, ja_m3 7 rfl rfl⟩
theorem ks_Rule_leverB : ja_kS y_Rule_leverB M_Rule_leverB 1 := ⟨⟨ja_m1 16 rfl rfl, ja_m3 11 rfl rfl, by decide +kernel, by decide +kernel, by decide +kernel⟩, ja_m3 10 rfl rfl⟩
theorem ks_Rule_normalLevers : ja_kS y_Rule_normalLevers M_Rule_normalLevers 1 := ⟨⟨ja_m1 16 rfl rfl, ja_m3 69 rfl rfl, by decide +kernel, by decide +kernel, by decide +kernel⟩, ja_m3 68 rfl rfl⟩
theorem ks_Rule_pack : ja_kS y_Rule_pack M_Rule_pack 4 := ⟨⟨ja_m1 16 rfl rfl, ja_m2 168 rfl rfl, by decide +kernel, by decide +kernel, by decide +kernel⟩, ja_m2 167 rfl rfl⟩
theorem ks_Rule_reversedLevers : ja_kS y_Rule_reversedLevers M_Rule_reversedLevers 1 := ⟨⟨ja_m1 16 rfl rfl, ja_m3 64 rfl rfl, by decide +kernel, by decide +kernel, by decide +kernel⟩, ja_m3 63 rfl rfl⟩
theorem ks_Rule_withLeverReplaced : ja_kS y_Rule_withLeverReplaced M_Rule_withLeverReplaced 3 := ⟨⟨ja_m1 16 rfl rfl, ja_m4 156 rfl rfl, by decide +kernel, by decide +kernel, by decide +kernel⟩, ja_m4 155 rfl rfl⟩
theorem kv_Search_countSetting : ja_kV y_Search_countSetting M_Search_countSetting 1 4 := ⟨⟨ja_m1 5 rfl rfl, ja_m4 6 rfl rfl, by decide +kernel, by decide +kernel, by decide +kernel⟩, ja_m4 4 rfl rfl, ja_m4 5 rfl rfl, _, rfl, rfl⟩
theorem kv_Search_enter : ja_kV y_Search_enter M_Search_enter 2 4 := ⟨⟨ja_m1 5 rfl rfl, ja_m3 182 rfl rfl, by decide +kernel, by decide +kernel, by decide +kernel⟩, ja_m3 181 rfl rfl, ja_m0 18 rfl rfl, _, rfl, rfl⟩
theorem kv_Search_explore : ja_kV y_Search_explore M_Search_explore 2 4 := ⟨⟨ja_m1 5 rfl rfl, ja_m3 174 rfl rfl, by decide +kernel, by decide +kernel, by decide +kernel⟩, ja_m3 172 rfl rfl, ja_m3 173 rfl rfl, _, rfl, rfl⟩
theorem kv_Search_farthest : ja_kV y_Search_farthest M_Search_farthest 0 4 := ⟨⟨ja_m1 5 rfl rfl, ja_m4 100 rfl rfl, by decide +kernel, by decide +kernel, by decide +kernel⟩, ja_m4 98 rfl rfl, ja_m4 99 rfl rfl, _, rfl, rfl⟩
theorem kv_Search_firstPlaceFreed : ja_kV y_Search_firstPlaceFreed M_Search_firstPlaceFreed 1 4 := ⟨⟨ja_m1 5 rfl rfl, ja_m4 112 rfl rfl, by decide +kernel, by decide +kernel, by decide +kernel⟩, ja_m4 110 rfl rfl, ja_m4 111 rfl rfl, _, rfl, rfl⟩
theorem kv_Search_forget : ja_kV y_Search_forget M_Search_forget 0 4 := ⟨⟨ja_m1 5 rfl rfl, ja_m3 178 rfl rfl, by decide +kernel, by decide +kernel, by decide +kernel⟩, ja_m3 177 rfl rfl, ja_m0 17 rfl rfl, _, rfl, rfl⟩
theorem kv_Search_leverFreed : ja_kV y_Search_leverFreed M_Search_leverFreed 2 4 := ⟨⟨ja_m1 5 rfl rfl, ja_m4 116 rfl rfl, by decide +kernel, by decide +kernel, by decide +kernel⟩, ja_m4 114 rfl rfl, ja_m4 115 rfl rfl, _, rfl, rfl⟩
theorem kv_Search_leverOnWay : ja_kV y_Search_leverOnWay M_Search_leverOnWay 2 4 := ⟨⟨ja_m1 5 rfl rfl, ja_m3 217 rfl rfl, by decide +kernel, by decide +kernel, by decide +kernel⟩, ja_m3 215 rfl rfl, ja_m3 216 rfl rfl, _, rfl, rfl⟩
theorem kv_Search_leversSeenWith : ja_kV y_Search_leversSeenWith M_Search_leversSeenWith 1 4 := ⟨⟨ja_m1 5 rfl rfl, ja_m3 225 rfl rfl, by decide +kernel, by decide +kernel, by decide +kernel⟩, ja_m3 223 rfl rfl, ja_m3 224 rfl rfl, _, rfl, rfl⟩
theorem kv_Search_movesTo : ja_kV y_Search_movesTo M_Search_movesTo 1 4 := ⟨⟨ja_m1 5 rfl rfl, ja_m3 194 rfl rfl, by decide +kernel, by decide +kernel, by decide +kernel⟩, ja_m3 192 rfl rfl, ja_m3 193 rfl rfl, _, rfl, rfl⟩
theorem kv_Search_nearestSetting : ja_kV y_Search_nearestSetting M_Search_nearestSetting 1 4 := ⟨⟨ja_m1 5 rfl rfl, ja_m3 234 rfl rfl, by decide +kernel, by decide +kernel, by decide +kernel⟩, ja_m3 232 rfl rfl, ja_m3 233 rfl rfl, _, rfl, rfl⟩
theorem kv_Search_reached : ja_kV y_Search_reached M_Search_reached 1 4 := ⟨⟨ja_m1 5 rfl rfl, ja_m3 186 rfl rfl, by decide +kernel, by decide +kernel, by decide +kernel⟩, ja_m3 184 rfl rfl, ja_m3 185 rfl rfl, _, rfl, rfl⟩
theorem kv_Search_someStateSets : ja_kV y_Search_someStateSets M_Search_someStateSets 1 4 := ⟨⟨ja_m1 5 rfl rfl, ja_m4 23 rfl rfl, by decide +kernel, by decide +kernel, by decide +kernel⟩, ja_m4 21 rfl rfl, ja_m4 22 rfl rfl, _, rfl, rfl⟩
theorem kv_Search_stateAt : ja_kV y_Search_stateAt M_Search_stateAt 1 4 := ⟨⟨ja_m1 5 rfl rfl, ja_m4 82 rfl rfl, by decide +kernel, by decide +kernel, by decide +kernel⟩, ja_m4 80 rfl rfl, ja_m4 81 rfl rfl, _, rfl, rfl⟩
theorem kv_SheetParser_atText : ja_kV y_SheetParser_atText M_SheetParser_atText 1 6 := ⟨⟨ja_m1 2 rfl rfl, ja_m2 78 rfl rfl, by decide +kernel, by decide +kernel, by decide +kernel⟩, ja_m2 77 rfl rfl, ja_m0 4 rfl rfl, _, rfl, rfl⟩
theorem kv_SheetParser_byteAt : ja_kV y_SheetParser_byteAt M_SheetParser_byteAt 1 6 := ⟨⟨ja_m1 2 rfl rfl, ja_m2 63 rfl rfl, by decide +kernel, by decide +kernel, by decide +kernel⟩, ja_m2 62 rfl rfl, ja_m0 2 rfl rfl, _, rfl, rfl⟩
theorem kv_SheetParser_fail : ja_kV y_SheetParser_fail M_SheetParser_fail 1 6 := ⟨⟨ja_m1 2 rfl rfl, ja_m2 130 rfl rfl, by decide +kernel, by decide +kernel, by decide +kernel⟩, ja_m2 129 rfl rfl, ja_m0 5 rfl rfl, _, rfl, rfl⟩
theorem ks_SheetParser_isDigit : ja_kS y_SheetParser_isDigit M_SheetParser_isDigit 1 := ⟨⟨ja_m1 2 rfl rfl, ja_m2 69 rfl rfl, by decide +kernel, by decide +kernel, by decide +kernel⟩, ja_m2 68 rfl rfl⟩
theorem ks_SheetParser_isLetter : ja_kS y_SheetParser_isLetter M_SheetParser_isLetter 1 := ⟨⟨ja_m1 2 rfl rfl, ja_m2 66 rfl rfl, by decide +kernel, by decide +kernel, by decide +kernel⟩, ja_m2 65 rfl rfl⟩
theorem kv_SheetParser_numberHere : ja_kV y_SheetParser_numberHere M_SheetParser_numberHere 2 6 := ⟨⟨ja_m1 2 rfl rfl, ja_m2 134 rfl rfl, by decide +kernel, by decide +kernel, by decide +kernel⟩, ja_m2 133 rfl rfl, ja_m0 6 rfl rfl, _, rfl, rfl⟩
theorem kv_SheetParser_read : ja_kV y_SheetParser_read M_SheetParser_read 2 6 := ⟨⟨ja_m1 2 rfl rfl, ja_m2 52 rfl rfl, by decide +kernel, by decide +kernel, by decide +kernel⟩, ja_m2 50 rfl rfl, ja_m2 51 rfl rfl, _, rfl, rfl⟩
theorem kv_SheetParser_readCondition : ja_kV y_SheetParser_readCondition M_SheetParser_readCondition 3 6 := ⟨⟨ja_m1 2 rfl rfl, ja_m2 163 rfl rfl, by decide +kernel, by decide +kernel, by decide +kernel⟩, ja_m2 162 rfl rfl, ja_m0 11 rfl rfl, _, rfl, rfl⟩
theorem kv_SheetParser_readConflict : ja_kV y_SheetParser_readConflict M_SheetParser_readConflict 1 6 := ⟨⟨ja_m1 2 rfl rfl, ja_m2 189 rfl rfl, by decide +kernel, by decide +kernel, by decide +kernel⟩, ja_m2 188 rfl rfl, ja_m0 13 rfl rfl, _, rfl, rfl⟩
theorem kv_SheetParser_readHead : ja_kV y_SheetParser_readHead M_SheetParser_readHead 1 6 := ⟨⟨ja_m1 2 rfl rfl, ja_m2 73 rfl rfl, by decide +kernel, by decide +kernel, by decide +kernel⟩, ja_m2 72 rfl rfl, ja_m0 3 rfl rfl, _, rfl, rfl⟩
theorem kv_SheetParser_readRoute : ja_kV y_SheetParser_readRoute M_SheetParser_readRoute 1 6 := ⟨⟨ja_m1 2 rfl rfl, ja_m2 180 rfl rfl, by decide +kernel, by decide +kernel, by decide +kernel⟩, ja_m2 179 rfl rfl, ja_m0 12 rfl rfl, _, rfl, rfl⟩
theorem kv_SheetParser_readRule : ja_kV y_SheetParser_readRule M_SheetParser_readRule 1 6 := ⟨⟨ja_m1 2 rfl rfl, ja_m2 151 rfl rfl, by decide +kernel, by decide +kernel, by decide +kernel⟩, ja_m2 150 rfl rfl, ja_m0 9 rfl rfl, _, rfl, rfl⟩
theorem kv_SheetParser_readSemicolon : ja_kV y_SheetParser_readSemicolon M_SheetParser_readSemicolon 0 6 := ⟨⟨ja_m1 2 rfl rfl, ja_m2 142 rfl rfl, by decide +kernel, by decide +kernel, by decide +kernel⟩, ja_m2 141 rfl rfl, ja_m0 7 rfl rfl, _, rfl, rfl⟩
theorem kv_SheetParser_readStatement : ja_kV y_SheetParser_readStatement M_SheetParser_readStatement 1 6 := ⟨⟨ja_m1 2 rfl rfl, ja_m2 147 rfl rfl, by decide +kernel, by decide +kernel, by decide +kernel⟩, ja_m2 146 rfl rfl, ja_m0 8 rfl rfl, _, rfl, rfl⟩
theorem kv_SheetParser_step : ja_kV y_SheetParser_step M_SheetParser_step 0 6 := ⟨⟨ja_m1 2 rfl rfl, ja_m2 59 rfl rfl, by decide +kernel, by decide +kernel, by decide +kernel⟩, ja_m2 58 rfl rfl, ja_m0 1 rfl rfl, _, rfl, rfl⟩
theorem kv_SheetParser_verbHere : ja_kV y_SheetParser_verbHere M_SheetParser_verbHere 0 6 := ⟨⟨ja_m1 2 rfl rfl, ja_m2 155 rfl rfl, by decide +kernel, by decide +kernel, by decide +kernel⟩, ja_m2 154 rfl rfl, ja_m0 10 rfl rfl, _, rfl, rfl⟩
theorem kv_Sheet_allLevers : ja_kV y_Sheet_allLevers M_Sheet_allLevers 0 5 := ⟨⟨ja_m1 3 rfl rfl, ja_m3 116 rfl rfl, by decide +kernel, by decide +kernel, by decide +kernel⟩, ja_m3 114 rfl rfl, ja_m3 115 rfl rfl, _, rfl, rfl⟩
theorem kv_Sheet_allRules : ja_kV y_Sheet_allRules M_Sheet_allRules 0 5 := ⟨⟨ja_m1 3 rfl rfl, ja_m3 141 rfl rfl, by decide +kernel, by decide +kernel, by decide +kernel⟩, ja_m3 139 rfl rfl, ja_m3 140 rfl rfl, _, rfl, rfl⟩
theorem kv_Sheet_canMove : ja_kV y_Sheet_canMove M_Sheet_canMove 1 5 := ⟨⟨ja_m1 3 rfl rfl, ja_m4 181 rfl rfl, by decide +kernel, by decide +kernel, by decide +kernel⟩, ja_m4 179 rfl rfl, ja_m4 180 rfl rfl, _, rfl, rfl⟩
theorem kv_Sheet_copyFrom : ja_kV y_Sheet_copyFrom M_Sheet_copyFrom 1 5 := ⟨⟨ja_m1 3 rfl rfl, ja_m2 201 rfl rfl, by decide +kernel, by decide +kernel, by decide +kernel⟩, ja_m2 199 rfl rfl, ja_m2 200 rfl rfl, _, rfl, rfl⟩
theorem kv_Sheet_declaresConflict : ja_kV y_Sheet_declaresConflict M_Sheet_declaresConflict 2 5 := ⟨⟨ja_m1 3 rfl rfl, ja_m2 193 rfl rfl, by decide +kernel, by decide +kernel, by decide +kernel⟩, ja_m2 191 rfl rfl, ja_m2 192 rfl rfl, _, rfl, rfl⟩
theorem kv_Sheet_dropRule : ja_kV y_Sheet_dropRule M_Sheet_dropRule 1 5 := ⟨⟨ja_m1 3 rfl rfl, ja_m3 95 rfl rfl, by decide +kernel, by decide +kernel, by decide +kernel⟩, ja_m3 93 rfl rfl, ja_m3 94 rfl rfl, _, rfl, rfl⟩
theorem kv_Sheet_firstBlocker : ja_kV y_Sheet_firstBlocker M_Sheet_firstBlocker 2 5 := ⟨⟨ja_m1 3 rfl rfl, ja_m3 53 rfl rfl, by decide +kernel, by decide +kernel, by decide +kernel⟩, ja_m3 51 rfl rfl, ja_m3 52 rfl rfl, _, rfl, rfl⟩
theorem kv_Sheet_hasConflict : ja_kV y_Sheet_hasConflict M_Sheet_hasConflict 1 5 := ⟨⟨ja_m1 3 rfl rfl, ja_m4 31 rfl rfl, by decide +kernel, by decide +kernel, by decide +kernel⟩, ja_m4 29 rfl rfl, ja_m4 30 rfl rfl, _, rfl, rfl⟩
theorem kv_Sheet_hasLever : ja_kV y_Sheet_hasLever M_Sheet_hasLever 1 5 := ⟨⟨ja_m1 3 rfl rfl, ja_m3 49 rfl rfl, by decide +kernel, by decide +kernel, by decide +kernel⟩, ja_m3 47 rfl rfl, ja_m3 48 rfl rfl, _, rfl, rfl⟩
theorem kv_Sheet_hasRoute : ja_kV y_Sheet_hasRoute M_Sheet_hasRoute 1 5 := ⟨⟨ja_m1 3 rfl rfl, ja_m3 33 rfl rfl, by decide +kernel, by decide +kernel, by decide +kernel⟩, ja_m3 31 rfl rfl, ja_m3 32 rfl rfl, _, rfl, rfl⟩
theorem kv_Sheet_hasRule : ja_kV y_Sheet_hasRule M_Sheet_hasRule 1 5 := ⟨⟨ja_m1 3 rfl rfl, ja_m2 238 rfl rfl, by decide +kernel, by decide +kernel, by decide +kernel⟩, ja_m2 236 rfl rfl, ja_m2 237 rfl rfl, _, rfl, rfl⟩
theorem kv_Sheet_hasState : ja_kV y_Sheet_hasState M_Sheet_hasState 1 5 := ⟨⟨ja_m1 3 rfl rfl, ja_m3 112 rfl rfl, by decide +kernel, by decide +kernel, by decide +kernel⟩, ja_m3 110 rfl rfl, ja_m3 111 rfl rfl, _, rfl, rfl⟩
theorem kv_Sheet_insertConflict : ja_kV y_Sheet_insertConflict M_Sheet_insertConflict 2 5 := ⟨⟨ja_m1 3 rfl rfl, ja_m2 197 rfl rfl, by decide +kernel, by decide +kernel, by decide +kernel⟩, ja_m2 195 rfl rfl, ja_m2 196 rfl rfl, _, rfl, rfl⟩
theorem kv_Sheet_insertRoute : ja_kV y_Sheet_insertRoute M_Sheet_insertRoute 1 5 := ⟨⟨ja_m1 3 rfl rfl, ja_m2 184 rfl rfl, by decide +kernel, by decide +kernel, by decide +kernel⟩, ja_m2 182 rfl rfl, ja_m2 183 rfl rfl, _, rfl, rfl⟩
theorem kv_Sheet_insertRule : ja_kV y_Sheet_insertRule M_Sheet_insertRule 2 5 := ⟨⟨ja_m1 3 rfl rfl, ja_m2 172 rfl rfl, by decide +kernel, by decide +kernel, by decide +kernel⟩, ja_m2 170 rfl rfl, ja_m2 171 rfl rfl, _, rfl, rfl⟩
theorem kv_Sheet_largestJointSet : ja_kV y_Sheet_largestJointSet M_Sheet_largestJointSet 1 5 := ⟨⟨ja_m1 3 rfl rfl, ja_m4 78 rfl rfl, by decide +kernel, by decide +kernel, by decide +kernel⟩, ja_m4 76 rfl rfl, ja_m4 77 rfl rfl, _, rfl, rfl⟩
theorem kv_Sheet_leversOfRoute : ja_kV y_Sheet_leversOfRoute M_Sheet_leversOfRoute 1 5 := ⟨⟨ja_m1 3 rfl rfl, ja_m4 18 rfl rfl, by decide +kernel, by decide +kernel, by decide +kernel⟩, ja_m4 16 rfl rfl, ja_m4 17 rfl rfl, _, rfl, rfl⟩
theorem kv_Sheet_mergeLever : ja_kV y_Sheet_mergeLever M_Sheet_mergeLever 2 5 := ⟨⟨ja_m1 3 rfl rfl, ja_m4 153 rfl rfl, by decide +kernel, by decide +kernel, by decide +kernel⟩, ja_m4 151 rfl rfl, ja_m4 152 rfl rfl, _, rfl, rfl⟩
theorem kv_Sheet_movableLevers : ja_kV y_Sheet_movableLevers M_Sheet_movableLevers 0 5 := ⟨⟨ja_m1 3 rfl rfl, ja_m3 170 rfl rfl, by decide +kernel, by decide +kernel, by decide +kernel⟩, ja_m3 168 rfl rfl, ja_m3 169 rfl rfl, _, rfl, rfl⟩
theorem kv_Sheet_openConflicts : ja_kV y_Sheet_openConflicts M_Sheet_openConflicts 1 5 := ⟨⟨ja_m1 3 rfl rfl, ja_m4 14 rfl rfl, by decide +kernel, by decide +kernel, by decide +kernel⟩, ja_m4 12 rfl rfl, ja_m4 13 rfl rfl, _, rfl, rfl⟩
theorem kv_Sheet_permits : ja_kV y_Sheet_permits M_Sheet_permits 1 5 := ⟨⟨ja_m1 3 rfl rfl, ja_m3 120 rfl rfl, by decide +kernel, by decide +kernel, by decide +kernel⟩, ja_m3 118 rfl rfl, ja_m3 119 rfl rfl, _, rfl, rfl⟩
theorem kv_Sheet_routesSetIn : ja_kV y_Sheet_routesSetIn M_Sheet_routesSetIn 1 5 := ⟨⟨ja_m1 3 rfl rfl, ja_m4 86 rfl rfl, by decide +kernel, by decide +kernel, by decide +kernel⟩, ja_m4 84 rfl rfl, ja_m4 85 rfl rfl, _, rfl, rfl⟩
theorem kv_Sheet_settableRoutes : ja_kV y_Sheet_settableRoutes M_Sheet_settableRoutes 1 5 := ⟨⟨ja_m1 3 rfl rfl, ja_m4 35 rfl rfl, by decide +kernel, by decide +kernel, by decide +kernel⟩, ja_m4 33 rfl rfl, ja_m4 34 rfl rfl, _, rfl, rfl⟩
theorem kv_Sheet_wipe : ja_kV y_Sheet_wipe M_Sheet_wipe 1 5 := ⟨⟨ja_m1 3 rfl rfl, ja_m2 138 rfl rfl, by decide +kernel, by decide +kernel, by decide +kernel⟩, ja_m2 136 rfl rfl, ja_m2 137 rfl rfl, _, rfl, rfl⟩
theorem ci_Integer_265 : Cond.constant "java/lang/Intege\x72" 265 1431655765 ∈ ja_tb := ja_m4 90 rfl rfl
theorem ci_Integer_266 : Cond.constant "java/lang/Intege\x72" 266 858993459 ∈ ja_tb := ja_m4 91 rfl rfl
theorem ci_Integer_267 : Cond.constant "java/lang/Intege\x72" 267 252645135 ∈ ja_tb := ja_m4 92 rfl rfl
theorem cl_Locking_70 : Cond.constantLong "InterlockingFrame$Locking" 70 (-1) ∈ ja_tb := ja_m3 162 rfl rfl
theorem cl_Model_122 : Cond.constantLong "InterlockingFrameModel" 122 48 ∈ ja_tb := ja_m5 130 rfl rfl
theorem cl_Model_124 : Cond.constantLong "InterlockingFrameModel" 124 57 ∈ ja_tb := ja_m5 131 rfl rfl
theorem cl_Model_239 : Cond.constantLong "InterlockingFrameModel" 239 2 ∈ ja_tb := ja_m6 15 rfl rfl
theorem cl_Model_89 : Cond.constantLong "InterlockingFrameModel" 89 97 ∈ ja_tb := ja_m5 109 rfl rfl
theorem cl_Model_91 : Cond.constantLong "InterlockingFrameModel" 91 122 ∈ ja_tb := ja_m5 110 rfl rfl
theorem kc_History_37 : ja_kC "InterlockingFrame$History" 37 := ⟨ja_m3 78 rfl rfl, ja_m2 175 rfl rfl, ja_m2 174 rfl rfl, ja_m1 17 rfl rfl⟩
theorem kc_Locking_18 : ja_kC "InterlockingFrame$Locking" 18 := ⟨ja_m3 208 rfl rfl, ja_m2 175 rfl rfl, ja_m2 174 rfl rfl, ja_m1 17 rfl rfl⟩
theorem kc_Sheet_40 : ja_kC "InterlockingFrame$Sheet" 40 := ⟨ja_m2 173 rfl rfl, ja_m2 175 rfl rfl, ja_m2 174 rfl rfl, ja_m1 17 rfl rfl⟩
theorem fd_History_15 : ja_fd "InterlockingFrame$History" 15 0 1 false false .int := ⟨R_History, F_History, 7, t_History, rfl, i_History, by decide, ja_m1 113 rfl rfl, rfl, rfl, t_History_ok, n_History, rfl, rfl⟩
theorem fd_History_18 : ja_fd "InterlockingFrame$History" 18 0 2 false false .int := ⟨R_History, F_History, 7, t_History, rfl, i_History, by decide, ja_m1 115 rfl rfl, rfl, rfl, t_History_ok, n_History, rfl, rfl⟩
theorem fd_History_21 : ja_fd "InterlockingFrame$History" 21 0 3 false false .int := ⟨R_History, F_History, 7, t_History, rfl, i_History, by decide, ja_m1 117 rfl rfl, rfl, rfl, t_History_ok, n_History, rfl, rfl⟩
theorem fd_History_24 : ja_fd "InterlockingFrame$History" 24 0 4 true true (.array .int) := ⟨R_History, F_History, 7, t_History, rfl, i_History, by decide, ja_m1 119 rfl rfl, rfl, rfl, t_History_ok, n_History, rfl, rfl⟩
theorem fd_History_28 : ja_fd "InterlockingFrame$History" 28 0 5 true true (.array .int) := ⟨R_History, F_History, 7, t_History, rfl, i_History, by decide, ja_m1 120 rfl rfl, rfl, rfl, t_History_ok, n_History, rfl, rfl⟩
theorem fd_History_31 : ja_fd "InterlockingFrame$History" 31 0 6 true true (.array .int) := ⟨R_History, F_History, 7, t_History, rfl, i_History, by decide, ja_m1 121 rfl rfl, rfl, rfl, t_History_ok, n_History, rfl, rfl⟩
theorem fd_History_9 : ja_fd "InterlockingFrame$History" 9 0 0 false false .int := ⟨R_History, F_History, 7, t_History, rfl, i_History, by decide, ja_m1 111 rfl rfl, rfl, rfl, t_History_ok, n_History, rfl, rfl⟩
theorem fd_LockPlanner_12 : ja_fd "InterlockingFrame$LockPlanne\x72" 12 1 1 true true (.object "InterlockingFrame$Locking") := ⟨R_LockPlanner, F_LockPlanner, 4, t_LockPlanner, rfl, i_LockPlanner, by decide, ja_m1 190 rfl rfl, rfl, rfl, t_LockPlanner_ok, n_LockPlanner, rfl, rfl⟩
theorem fd_LockPlanner_18 : ja_fd "InterlockingFrame$LockPlanne\x72" 18 1 2 true true (.array .int) := ⟨R_LockPlanner, F_LockPlanner, 4, t_LockPlanner, rfl, i_LockPlanner, by decide, ja_m1 191 rfl rfl, rfl, rfl, t_LockPlanner_ok, n_LockPlanner, rfl, rfl⟩
theorem fd_LockPlanner_22 : ja_fd "InterlockingFrame$LockPlanne\x72" 22 1 3 false false .int := ⟨R_LockPlanner, F_LockPlanner, 4, t_LockPlanner, rfl, i_LockPlanner, by decide, ja_m1 193 rfl rfl, rfl, rfl, t_LockPlanner_ok, n_LockPlanner, rfl, rfl⟩
theorem fd_LockPlanner_26 : ja_fd "InterlockingFrame$LockPlanne\x72" 26 1 0 true true (.object "InterlockingFrame$Search") := ⟨R_LockPlanner, F_LockPlanner, 4, t_LockPlanner, rfl, i_LockPlanner, by decide, ja_m1 189 rfl rfl, rfl, rfl, t_LockPlanner_ok, n_LockPlanner, rfl, rfl⟩
theorem fd_LockPlanner_36 : ja_fd "InterlockingFrame$LockPlanne\x72" 36 5 6 true true (.array .int) := ⟨R_Sheet, F_Sheet, 9, t_Sheet, rfl, i_Sheet, by decide, ja_m1 79 rfl rfl, rfl, rfl, t_Sheet_ok, n_Sheet, rfl, rfl⟩
theorem fd_LockPlanner_43 : ja_fd "InterlockingFrame$LockPlanne\x72" 43 5 7 true true (.array .int) := ⟨R_Sheet, F_Sheet, 9, t_Sheet, rfl, i_Sheet, by decide, ja_m1 81 rfl rfl, rfl, rfl, t_Sheet_ok, n_Sheet, rfl, rfl⟩
theorem fd_LockPlanner_57 : ja_fd "InterlockingFrame$LockPlanne\x72" 57 4 0 true true (.object "InterlockingFrame$Locking") := ⟨R_Search, F_Search, 5, t_Search, rfl, i_Search, by decide, ja_m1 161 rfl rfl, rfl, rfl, t_Search_ok, n_Search, rfl, rfl⟩
theorem fd_LockPlanner_82 : ja_fd "InterlockingFrame$LockPlanne\x72" 82 5 8 false false .int := ⟨R_Sheet, F_Sheet, 9, t_Sheet, rfl, i_Sheet, by decide, ja_m1 84 rfl rfl, rfl, rfl, t_Sheet_ok, n_Sheet, rfl, rfl⟩
theorem fd_Locking_11 : ja_fd "InterlockingFrame$Locking" 11 2 0 true true (.array .long) := ⟨R_Locking, F_Locking, 2, t_Locking, rfl, i_Locking, by decide, ja_m1 149 rfl rfl, rfl, rfl, t_Locking_ok, n_Locking, rfl, rfl⟩
theorem fd_Locking_15 : ja_fd "InterlockingFrame$Locking" 15 2 1 true true (.array .long) := ⟨R_Locking, F_Locking, 2, t_Locking, rfl, i_Locking, by decide, ja_m1 150 rfl rfl, rfl, rfl, t_Locking_ok, n_Locking, rfl, rfl⟩
theorem fd_Locking_30 : ja_fd "InterlockingFrame$Locking" 30 5 3 false false .int := ⟨R_Sheet, F_Sheet, 9, t_Sheet, rfl, i_Sheet, by decide, ja_m1 70 rfl rfl, rfl, rfl, t_Sheet_ok, n_Sheet, rfl, rfl⟩
theorem fd_Locking_36 : ja_fd "InterlockingFrame$Locking" 36 5 2 true true (.array .int) := ⟨R_Sheet, F_Sheet, 9, t_Sheet, rfl, i_Sheet, by decide, ja_m1 67 rfl rfl, rfl, rfl, t_Sheet_ok, n_Sheet, rfl, rfl⟩
theorem fd_Merger_12 : ja_fd "InterlockingFrame$Merge\x72" 12 3 1 true true (.object "InterlockingFrame$Sheet") := ⟨R_Merger, F_Merger, 5, t_Merger, rfl, i_Merger, by decide, ja_m1 213 rfl rfl, rfl, rfl, t_Merger_ok, n_Merger, rfl, rfl⟩
theorem fd_Merger_18 : ja_fd "InterlockingFrame$Merge\x72" 18 3 2 true true (.object "InterlockingFrame$Sheet") := ⟨R_Merger, F_Merger, 5, t_Merger, rfl, i_Merger, by decide, ja_m1 214 rfl rfl, rfl, rfl, t_Merger_ok, n_Merger, rfl, rfl⟩
theorem fd_Merger_21 : ja_fd "InterlockingFrame$Merge\x72" 21 3 3 false false .int := ⟨R_Merger, F_Merger, 5, t_Merger, rfl, i_Merger, by decide, ja_m1 215 rfl rfl, rfl, rfl, t_Merger_ok, n_Merger, rfl, rfl⟩
theorem fd_Merger_25 : ja_fd "InterlockingFrame$Merge\x72" 25 3 4 false false .int := ⟨R_Merger, F_Merger, 5, t_Merger, rfl, i_Merger, by decide, ja_m1 216 rfl rfl, rfl, rfl, t_Merger_ok, n_Merger, rfl, rfl⟩
theorem fd_Merger_28 : ja_fd "InterlockingFrame$Merge\x72" 28 3 0 true true (.object "InterlockingFrame$Search") := ⟨R_Merger, F_Merger, 5, t_Merger, rfl, i_Merger, by decide, ja_m1 212 rfl rfl, rfl, rfl, t_Merger_ok, n_Merger, rfl, rfl⟩
theorem fd_Merger_47 : ja_fd "InterlockingFrame$Merge\x72" 47 4 0 true true (.object "InterlockingFrame$Locking") := ⟨R_Search, F_Search, 5, t_Search, rfl, i_Search, by decide, ja_m1 162 rfl rfl, rfl, rfl, t_Search_ok, n_Search, rfl, rfl⟩
theorem fd_Merger_69 : ja_fd "InterlockingFrame$Merge\x72" 69 5 0 false false .int := ⟨R_Sheet, F_Sheet, 9, t_Sheet, rfl, i_Sheet, by decide, ja_m1 62 rfl rfl, rfl, rfl, t_Sheet_ok, n_Sheet, rfl, rfl⟩
theorem fd_Search_12 : ja_fd "InterlockingFrame$Search" 12 4 0 true true (.object "InterlockingFrame$Locking") := ⟨R_Search, F_Search, 5, t_Search, rfl, i_Search, by decide, ja_m1 160 rfl rfl, rfl, rfl, t_Search_ok, n_Search, rfl, rfl⟩
theorem fd_Search_18 : ja_fd "InterlockingFrame$Search" 18 4 1 false false .int := ⟨R_Search, F_Search, 5, t_Search, rfl, i_Search, by decide, ja_m1 164 rfl rfl, rfl, rfl, t_Search_ok, n_Search, rfl, rfl⟩
theorem fd_Search_22 : ja_fd "InterlockingFrame$Search" 22 4 2 false false .int := ⟨R_Search, F_Search, 5, t_Search, rfl, i_Search, by decide, ja_m1 167 rfl rfl, rfl, rfl, t_Search_ok, n_Search, rfl, rfl⟩
theorem fd_Search_25 : ja_fd "InterlockingFrame$Search" 25 4 3 true true (.array .int) := ⟨R_Search, F_Search, 5, t_Search, rfl, i_Search, by decide, ja_m1 168 rfl rfl, rfl, rfl, t_Search_ok, n_Search, rfl, rfl⟩
theorem fd_Search_29 : ja_fd "InterlockingFrame$Search" 29 4 4 true true (.array .int) := ⟨R_Search, F_Search, 5, t_Search, rfl, i_Search, by decide, ja_m1 169 rfl rfl, rfl, rfl, t_Search_ok, n_Search, rfl, rfl⟩
theorem fd_Sheet_15 : ja_fd "InterlockingFrame$Sheet" 15 5 1 false false .int := ⟨R_Sheet, F_Sheet, 9, t_Sheet, rfl, i_Sheet, by decide, ja_m1 65 rfl rfl, rfl, rfl, t_Sheet_ok, n_Sheet, rfl, rfl⟩
theorem fd_Sheet_18 : ja_fd "InterlockingFrame$Sheet" 18 5 2 true true (.array .int) := ⟨R_Sheet, F_Sheet, 9, t_Sheet, rfl, i_Sheet, by decide, ja_m1 66 rfl rfl, rfl, rfl, t_Sheet_ok, n_Sheet, rfl, rfl⟩
theorem fd_Sheet_22 : ja_fd "InterlockingFrame$Sheet" 22 5 3 false false .int := ⟨R_Sheet, F_Sheet, 9, t_Sheet, rfl, i_Sheet, by decide, ja_m1 69 rfl rfl, rfl, rfl, t_Sheet_ok, n_Sheet, rfl, rfl⟩
theorem fd_Sheet_25 : ja_fd "InterlockingFrame$Sheet" 25 5 4 true true (.array .int) := ⟨R_Sheet, F_Sheet, 9, t_Sheet, rfl, i_Sheet, by decide, ja_m1 73 rfl rfl, rfl, rfl, t_Sheet_ok, n_Sheet, rfl, rfl⟩
theorem fd_Sheet_28 : ja_fd "InterlockingFrame$Sheet" 28 5 5 false false .int := ⟨R_Sheet, F_Sheet, 9, t_Sheet, rfl, i_Sheet, by decide, ja_m1 75 rfl rfl, rfl, rfl, t_Sheet_ok, n_Sheet, rfl, rfl⟩
theorem fd_Sheet_31 : ja_fd "InterlockingFrame$Sheet" 31 5 6 true true (.array .int) := ⟨R_Sheet, F_Sheet, 9, t_Sheet, rfl, i_Sheet, by decide, ja_m1 78 rfl rfl, rfl, rfl, t_Sheet_ok, n_Sheet, rfl, rfl⟩
theorem fd_Sheet_34 : ja_fd "InterlockingFrame$Sheet" 34 5 7 true true (.array .int) := ⟨R_Sheet, F_Sheet, 9, t_Sheet, rfl, i_Sheet, by decide, ja_m1 80 rfl rfl, rfl, rfl, t_Sheet_ok, n_Sheet, rfl, rfl⟩
theorem fd_Sheet_37 : ja_fd "InterlockingFrame$Sheet" 37 5 8 false false .int := ⟨R_Sheet, F_Sheet, 9, t_Sheet, rfl, i_Sheet, by decide, ja_m1 82 rfl rfl, rfl, rfl, t_Sheet_ok, n_Sheet, rfl, rfl⟩
theorem fd_Sheet_79 : ja_fd "InterlockingFrame$Sheet" 79 4 1 false false .int := ⟨R_Search, F_Search, 5, t_Search, rfl, i_Search, by decide, ja_m1 166 rfl rfl, rfl, rfl, t_Search_ok, n_Search, rfl, rfl⟩
theorem fd_Sheet_9 : ja_fd "InterlockingFrame$Sheet" 9 5 0 false false .int := ⟨R_Sheet, F_Sheet, 9, t_Sheet, rfl, i_Sheet, by decide, ja_m1 61 rfl rfl, rfl, rfl, t_Sheet_ok, n_Sheet, rfl, rfl⟩
theorem fd_SheetParser_100 : ja_fd "InterlockingFrame$SheetParse\x72" 100 5 3 false false .int := ⟨R_Sheet, F_Sheet, 9, t_Sheet, rfl, i_Sheet, by decide, ja_m1 72 rfl rfl, rfl, rfl, t_Sheet_ok, n_Sheet, rfl, rfl⟩
theorem fd_SheetParser_15 : ja_fd "InterlockingFrame$SheetParse\x72" 15 6 1 false false .int := ⟨R_SheetParser, F_SheetParser, 6, t_SheetParser, rfl, i_SheetParser, by decide, ja_m1 35 rfl rfl, rfl, rfl, t_SheetParser_ok, n_SheetParser, rfl, rfl⟩
theorem fd_SheetParser_18 : ja_fd "InterlockingFrame$SheetParse\x72" 18 6 3 false false .int := ⟨R_SheetParser, F_SheetParser, 6, t_SheetParser, rfl, i_SheetParser, by decide, ja_m1 38 rfl rfl, rfl, rfl, t_SheetParser_ok, n_SheetParser, rfl, rfl⟩
theorem fd_SheetParser_21 : ja_fd "InterlockingFrame$SheetParse\x72" 21 6 4 false false .int := ⟨R_SheetParser, F_SheetParser, 6, t_SheetParser, rfl, i_SheetParser, by decide, ja_m1 39 rfl rfl, rfl, rfl, t_SheetParser_ok, n_SheetParser, rfl, rfl⟩
theorem fd_SheetParser_24 : ja_fd "InterlockingFrame$SheetParse\x72" 24 6 5 false false .int := ⟨R_SheetParser, F_SheetParser, 6, t_SheetParser, rfl, i_SheetParser, by decide, ja_m1 40 rfl rfl, rfl, rfl, t_SheetParser_ok, n_SheetParser, rfl, rfl⟩
theorem fd_SheetParser_27 : ja_fd "InterlockingFrame$SheetParse\x72" 27 6 2 true true (.array .int) := ⟨R_SheetParser, F_SheetParser, 6, t_SheetParser, rfl, i_SheetParser, by decide, ja_m1 37 rfl rfl, rfl, rfl, t_SheetParser_ok, n_SheetParser, rfl, rfl⟩
theorem fd_SheetParser_84 : ja_fd "InterlockingFrame$SheetParse\x72" 84 5 5 false false .int := ⟨R_Sheet, F_Sheet, 9, t_Sheet, rfl, i_Sheet, by decide, ja_m1 77 rfl rfl, rfl, rfl, t_Sheet_ok, n_Sheet, rfl, rfl⟩
theorem fd_SheetParser_9 : ja_fd "InterlockingFrame$SheetParse\x72" 9 6 0 false false .int := ⟨R_SheetParser, F_SheetParser, 6, t_SheetParser, rfl, i_SheetParser, by decide, ja_m1 33 rfl rfl, rfl, rfl, t_SheetParser_ok, n_SheetParser, rfl, rfl⟩
theorem fd_SheetParser_92 : ja_fd "InterlockingFrame$SheetParse\x72" 92 5 8 false false .int := ⟨R_Sheet, F_Sheet, 9, t_Sheet, rfl, i_Sheet, by decide, ja_m1 85 rfl rfl, rfl, rfl, t_Sheet_ok, n_Sheet, rfl, rfl⟩
theorem fd_SheetParser_98 : ja_fd "InterlockingFrame$SheetParse\x72" 98 5 0 false false .int := ⟨R_Sheet, F_Sheet, 9, t_Sheet, rfl, i_Sheet, by decide, ja_m1 63 rfl rfl, rfl, rfl, t_Sheet_ok, n_Sheet, rfl, rfl⟩
theorem fd_Frame_109 : ja_fd "InterlockingFrame" 109 5 3 false false .int := ⟨R_Sheet, F_Sheet, 9, t_Sheet, rfl, i_Sheet, by decide, ja_m1 71 rfl rfl, rfl, rfl, t_Sheet_ok, n_Sheet, rfl, rfl⟩
theorem fd_Frame_112 : ja_fd "InterlockingFrame" 112 5 5 false false .int := ⟨R_Sheet, F_Sheet, 9, t_Sheet, rfl, i_Sheet, by decide, ja_m1 76 rfl rfl, rfl, rfl, t_Sheet_ok, n_Sheet, rfl, rfl⟩
theorem fd_Frame_115 : ja_fd "InterlockingFrame" 115 5 8 false false .int := ⟨R_Sheet, F_Sheet, 9, t_Sheet, rfl, i_Sheet, by decide, ja_m1 83 rfl rfl, rfl, rfl, t_Sheet_ok, n_Sheet, rfl, rfl⟩
theorem fd_Frame_118 : ja_fd "InterlockingFrame" 118 6 1 false false .int := ⟨R_SheetParser, F_SheetParser, 6, t_SheetParser, rfl, i_SheetParser, by decide, ja_m1 36 rfl rfl, rfl, rfl, t_SheetParser_ok, n_SheetParser, rfl, rfl⟩
theorem fd_Frame_121 : ja_fd "InterlockingFrame" 121 5 0 false false .int := ⟨R_Sheet, F_Sheet, 9, t_Sheet, rfl, i_Sheet, by decide, ja_m1 64 rfl rfl, rfl, rfl, t_Sheet_ok, n_Sheet, rfl, rfl⟩
theorem fd_Frame_128 : ja_fd "InterlockingFrame" 128 5 2 true true (.array .int) := ⟨R_Sheet, F_Sheet, 9, t_Sheet, rfl, i_Sheet, by decide, ja_m1 68 rfl rfl, rfl, rfl, t_Sheet_ok, n_Sheet, rfl, rfl⟩
theorem fd_Frame_13 : ja_fd "InterlockingFrame" 13 7 1 false false .int := ⟨R_Frame, F_Frame, 16, t_Frame, rfl, i_Frame, by decide, ja_m1 229 rfl rfl, rfl, rfl, t_Frame_ok, n_Frame, rfl, rfl⟩
theorem fd_Frame_153 : ja_fd "InterlockingFrame" 153 5 4 true true (.array .int) := ⟨R_Sheet, F_Sheet, 9, t_Sheet, rfl, i_Sheet, by decide, ja_m1 74 rfl rfl, rfl, rfl, t_Sheet_ok, n_Sheet, rfl, rfl⟩
theorem fd_Frame_185 : ja_fd "InterlockingFrame" 185 0 1 false false .int := ⟨R_History, F_History, 7, t_History, rfl, i_History, by decide, ja_m1 114 rfl rfl, rfl, rfl, t_History_ok, n_History, rfl, rfl⟩
theorem fd_Frame_188 : ja_fd "InterlockingFrame" 188 0 2 false false .int := ⟨R_History, F_History, 7, t_History, rfl, i_History, by decide, ja_m1 116 rfl rfl, rfl, rfl, t_History_ok, n_History, rfl, rfl⟩
theorem fd_Frame_191 : ja_fd "InterlockingFrame" 191 0 0 false false .int := ⟨R_History, F_History, 7, t_History, rfl, i_History, by decide, ja_m1 112 rfl rfl, rfl, rfl, t_History_ok, n_History, rfl, rfl⟩
theorem fd_Frame_194 : ja_fd "InterlockingFrame" 194 0 3 false false .int := ⟨R_History, F_History, 7, t_History, rfl, i_History, by decide, ja_m1 118 rfl rfl, rfl, rfl, t_History_ok, n_History, rfl, rfl⟩
theorem fd_Frame_207 : ja_fd "InterlockingFrame" 207 4 1 false false .int := ⟨R_Search, F_Search, 5, t_Search, rfl, i_Search, by decide, ja_m1 165 rfl rfl, rfl, rfl, t_Search_ok, n_Search, rfl, rfl⟩
theorem fd_Frame_22 : ja_fd "InterlockingFrame" 22 7 2 true true (.object "InterlockingFrame$SheetParse\x72") := ⟨R_Frame, F_Frame, 16, t_Frame, rfl, i_Frame, by decide, ja_m1 230 rfl rfl, rfl, rfl, t_Frame_ok, n_Frame, rfl, rfl⟩
theorem fd_Frame_240 : ja_fd "InterlockingFrame" 240 4 0 true true (.object "InterlockingFrame$Locking") := ⟨R_Search, F_Search, 5, t_Search, rfl, i_Search, by decide, ja_m1 163 rfl rfl, rfl, rfl, t_Search_ok, n_Search, rfl, rfl⟩
theorem fd_Frame_252 : ja_fd "InterlockingFrame" 252 1 3 false false .int := ⟨R_LockPlanner, F_LockPlanner, 4, t_LockPlanner, rfl, i_LockPlanner, by decide, ja_m1 194 rfl rfl, rfl, rfl, t_LockPlanner_ok, n_LockPlanner, rfl, rfl⟩
theorem fd_Frame_258 : ja_fd "InterlockingFrame" 258 1 2 true true (.array .int) := ⟨R_LockPlanner, F_LockPlanner, 4, t_LockPlanner, rfl, i_LockPlanner, by decide, ja_m1 192 rfl rfl, rfl, rfl, t_LockPlanner_ok, n_LockPlanner, rfl, rfl⟩
theorem fd_Frame_29 : ja_fd "InterlockingFrame" 29 7 3 true true (.object "InterlockingFrame$Sheet") := ⟨R_Frame, F_Frame, 16, t_Frame, rfl, i_Frame, by decide, ja_m1 231 rfl rfl, rfl, rfl, t_Frame_ok, n_Frame, rfl, rfl⟩
theorem fd_Frame_33 : ja_fd "InterlockingFrame" 33 7 4 true true (.object "InterlockingFrame$Sheet") := ⟨R_Frame, F_Frame, 16, t_Frame, rfl, i_Frame, by decide, ja_m1 232 rfl rfl, rfl, rfl, t_Frame_ok, n_Frame, rfl, rfl⟩
theorem fd_Frame_39 : ja_fd "InterlockingFrame" 39 7 5 true true (.object "InterlockingFrame$History") := ⟨R_Frame, F_Frame, 16, t_Frame, rfl, i_Frame, by decide, ja_m1 233 rfl rfl, rfl, rfl, t_Frame_ok, n_Frame, rfl, rfl⟩
theorem fd_Frame_43 : ja_fd "InterlockingFrame" 43 7 6 false false .int := ⟨R_Frame, F_Frame, 16, t_Frame, rfl, i_Frame, by decide, ja_m1 234 rfl rfl, rfl, rfl, t_Frame_ok, n_Frame, rfl, rfl⟩
theorem fd_Frame_49 : ja_fd "InterlockingFrame" 49 7 7 true true (.object "InterlockingFrame$Search") := ⟨R_Frame, F_Frame, 16, t_Frame, rfl, i_Frame, by decide, ja_m1 235 rfl rfl, rfl, rfl, t_Frame_ok, n_Frame, rfl, rfl⟩
theorem fd_Frame_53 : ja_fd "InterlockingFrame" 53 7 8 false false .boolean := ⟨R_Frame, F_Frame, 16, t_Frame, rfl, i_Frame, by decide, ja_m1 236 rfl rfl, rfl, rfl, t_Frame_ok, n_Frame, rfl, rfl⟩
theorem fd_Frame_57 : ja_fd "InterlockingFrame" 57 7 9 true true (.object "InterlockingFrame$Search") := ⟨R_Frame, F_Frame, 16, t_Frame, rfl, i_Frame, by decide, ja_m1 237 rfl rfl, rfl, rfl, t_Frame_ok, n_Frame, rfl, rfl⟩
theorem fd_Frame_65 : ja_fd "InterlockingFrame" 65 7 10 true true (.object "InterlockingFrame$LockPlanne\x72") := ⟨R_Frame, F_Frame, 16, t_Frame, rfl, i_Frame, by decide, ja_m1 238 rfl rfl, rfl, rfl, t_Frame_ok, n_Frame, rfl, rfl⟩
theorem fd_Frame_69 : ja_fd "InterlockingFrame" 69 7 11 false false .boolean := ⟨R_Frame, F_Frame, 16, t_Frame, rfl, i_Frame, by decide, ja_m1 239 rfl rfl, rfl, rfl, t_Frame_ok, n_Frame, rfl, rfl⟩
theorem fd_Frame_72 : ja_fd "InterlockingFrame" 72 7 12 false false .int := ⟨R_Frame, F_Frame, 16, t_Frame, rfl, i_Frame, by decide, ja_m2 0 rfl rfl, rfl, rfl, t_Frame_ok, n_Frame, rfl, rfl⟩
theorem fd_Frame_78 : ja_fd "InterlockingFrame" 78 7 13 true true (.object "InterlockingFrame$Merge\x72") := ⟨R_Frame, F_Frame, 16, t_Frame, rfl, i_Frame, by decide, ja_m2 1 rfl rfl, rfl, rfl, t_Frame_ok, n_Frame, rfl, rfl⟩
theorem fd_Frame_82 : ja_fd "InterlockingFrame" 82 7 14 false false .boolean := ⟨R_Frame, F_Frame, 16, t_Frame, rfl, i_Frame, by decide, ja_m2 2 rfl rfl, rfl, rfl, t_Frame_ok, n_Frame, rfl, rfl⟩
theorem fd_Frame_85 : ja_fd "InterlockingFrame" 85 7 15 false false .int := ⟨R_Frame, F_Frame, 16, t_Frame, rfl, i_Frame, by decide, ja_m2 3 rfl rfl, rfl, rfl, t_Frame_ok, n_Frame, rfl, rfl⟩
theorem fd_Frame_9 : ja_fd "InterlockingFrame" 9 7 0 true true (.array .int) := ⟨R_Frame, F_Frame, 16, t_Frame, rfl, i_Frame, by decide, ja_m1 228 rfl rfl, rfl, rfl, t_Frame_ok, n_Frame, rfl, rfl⟩
theorem fd_Frame_96 : ja_fd "InterlockingFrame" 96 6 0 false false .int := ⟨R_SheetParser, F_SheetParser, 6, t_SheetParser, rfl, i_SheetParser, by decide, ja_m1 34 rfl rfl, rfl, rfl, t_SheetParser_ok, n_SheetParser, rfl, rfl⟩
theorem fd_Model_1 : ja_fd "InterlockingFrameModel" 1 8 9 false false .int := ⟨R_Model, F_Model, 42, t_Model, rfl, i_Model, by decide, ja_m4 204 rfl rfl, rfl, rfl, t_Model_ok, n_Model, rfl, rfl⟩
theorem fd_Model_13 : ja_fd "InterlockingFrameModel" 13 8 0 false false .int := ⟨R_Model, F_Model, 42, t_Model, rfl, i_Model, by decide, ja_m4 195 rfl rfl, rfl, rfl, t_Model_ok, n_Model, rfl, rfl⟩
theorem fd_Model_130 : ja_fd "InterlockingFrameModel" 130 8 16 false false .int := ⟨R_Model, F_Model, 42, t_Model, rfl, i_Model, by decide, ja_m4 211 rfl rfl, rfl, rfl, t_Model_ok, n_Model, rfl, rfl⟩
theorem fd_Model_133 : ja_fd "InterlockingFrameModel" 133 8 17 false false .int := ⟨R_Model, F_Model, 42, t_Model, rfl, i_Model, by decide, ja_m4 212 rfl rfl, rfl, rfl, t_Model_ok, n_Model, rfl, rfl⟩
theorem fd_Model_143 : ja_fd "InterlockingFrameModel" 143 8 18 false false .int := ⟨R_Model, F_Model, 42, t_Model, rfl, i_Model, by decide, ja_m4 213 rfl rfl, rfl, rfl, t_Model_ok, n_Model, rfl, rfl⟩
theorem fd_Model_149 : ja_fd "InterlockingFrameModel" 149 8 19 false false .int := ⟨R_Model, F_Model, 42, t_Model, rfl, i_Model, by decide, ja_m4 214 rfl rfl, rfl, rfl, t_Model_ok, n_Model, rfl, rfl⟩
theorem fd_Model_156 : ja_fd "InterlockingFrameModel" 156 8 20 false false .int := ⟨R_Model, F_Model, 42, t_Model, rfl, i_Model, by decide, ja_m4 215 rfl rfl, rfl, rfl, t_Model_ok, n_Model, rfl, rfl⟩
theorem fd_Model_16 : ja_fd "InterlockingFrameModel" 16 8 3 true true (.array .int) := ⟨R_Model, F_Model, 42, t_Model, rfl, i_Model, by decide, ja_m4 198 rfl rfl, rfl, rfl, t_Model_ok, n_Model, rfl, rfl⟩
theorem fd_Model_180 : ja_fd "InterlockingFrameModel" 180 8 1 false false .int := ⟨R_Model, F_Model, 42, t_Model, rfl, i_Model, by decide, ja_m4 196 rfl rfl, rfl, rfl, t_Model_ok, n_Model, rfl, rfl⟩
theorem fd_Model_183 : ja_fd "InterlockingFrameModel" 183 8 2 false false .int := ⟨R_Model, F_Model, 42, t_Model, rfl, i_Model, by decide, ja_m4 197 rfl rfl, rfl, rfl, t_Model_ok, n_Model, rfl, rfl⟩
theorem fd_Model_186 : ja_fd "InterlockingFrameModel" 186 8 8 false false .int := ⟨R_Model, F_Model, 42, t_Model, rfl, i_Model, by decide, ja_m4 203 rfl rfl, rfl, rfl, t_Model_ok, n_Model, rfl, rfl⟩
theorem fd_Model_196 : ja_fd "InterlockingFrameModel" 196 8 27 false false .int := ⟨R_Model, F_Model, 42, t_Model, rfl, i_Model, by decide, ja_m4 222 rfl rfl, rfl, rfl, t_Model_ok, n_Model, rfl, rfl⟩
theorem fd_Model_199 : ja_fd "InterlockingFrameModel" 199 8 28 false false .int := ⟨R_Model, F_Model, 42, t_Model, rfl, i_Model, by decide, ja_m4 223 rfl rfl, rfl, rfl, t_Model_ok, n_Model, rfl, rfl⟩
theorem fd_Model_20 : ja_fd "InterlockingFrameModel" 20 8 4 true true (.array .int) := ⟨R_Model, F_Model, 42, t_Model, rfl, i_Model, by decide, ja_m4 199 rfl rfl, rfl, rfl, t_Model_ok, n_Model, rfl, rfl⟩
theorem fd_Model_202 : ja_fd "InterlockingFrameModel" 202 8 29 false false .int := ⟨R_Model, F_Model, 42, t_Model, rfl, i_Model, by decide, ja_m4 224 rfl rfl, rfl, rfl, t_Model_ok, n_Model, rfl, rfl⟩
theorem fd_Model_218 : ja_fd "InterlockingFrameModel" 218 8 32 false false .int := ⟨R_Model, F_Model, 42, t_Model, rfl, i_Model, by decide, ja_m4 227 rfl rfl, rfl, rfl, t_Model_ok, n_Model, rfl, rfl⟩
theorem fd_Model_23 : ja_fd "InterlockingFrameModel" 23 8 5 true true (.array .int) := ⟨R_Model, F_Model, 42, t_Model, rfl, i_Model, by decide, ja_m4 200 rfl rfl, rfl, rfl, t_Model_ok, n_Model, rfl, rfl⟩
theorem fd_Model_26 : ja_fd "InterlockingFrameModel" 26 8 6 true true (.array .int) := ⟨R_Model, F_Model, 42, t_Model, rfl, i_Model, by decide, ja_m4 201 rfl rfl, rfl, rfl, t_Model_ok, n_Model, rfl, rfl⟩
theorem fd_Model_274 : ja_fd "InterlockingFrameModel" 274 8 34 false false .int := ⟨R_Model, F_Model, 42, t_Model, rfl, i_Model, by decide, ja_m4 229 rfl rfl, rfl, rfl, t_Model_ok, n_Model, rfl, rfl⟩
theorem fd_Model_29 : ja_fd "InterlockingFrameModel" 29 8 7 true true (.array .int) := ⟨R_Model, F_Model, 42, t_Model, rfl, i_Model, by decide, ja_m4 202 rfl rfl, rfl, rfl, t_Model_ok, n_Model, rfl, rfl⟩
theorem fd_Model_292 : ja_fd "InterlockingFrameModel" 292 8 36 false false .int := ⟨R_Model, F_Model, 42, t_Model, rfl, i_Model, by decide, ja_m4 231 rfl rfl, rfl, rfl, t_Model_ok, n_Model, rfl, rfl⟩
theorem fd_Model_305 : ja_fd "InterlockingFrameModel" 305 8 37 false false .int := ⟨R_Model, F_Model, 42, t_Model, rfl, i_Model, by decide, ja_m4 232 rfl rfl, rfl, rfl, t_Model_ok, n_Model, rfl, rfl⟩
theorem fd_Model_308 : ja_fd "InterlockingFrameModel" 308 8 38 false false .int := ⟨R_Model, F_Model, 42, t_Model, rfl, i_Model, by decide, ja_m4 233 rfl rfl, rfl, rfl, t_Model_ok, n_Model, rfl, rfl⟩
theorem fd_Model_32 : ja_fd "InterlockingFrameModel" 32 8 10 true true (.array .int) := ⟨R_Model, F_Model, 42, t_Model, rfl, i_Model, by decide, ja_m4 205 rfl rfl, rfl, rfl, t_Model_ok, n_Model, rfl, rfl⟩
theorem fd_Model_326 : ja_fd "InterlockingFrameModel" 326 8 41 false false .int := ⟨R_Model, F_Model, 42, t_Model, rfl, i_Model, by decide, ja_m4 236 rfl rfl, rfl, rfl, t_Model_ok, n_Model, rfl, rfl⟩
theorem fd_Model_35 : ja_fd "InterlockingFrameModel" 35 8 15 false false .int := ⟨R_Model, F_Model, 42, t_Model, rfl, i_Model, by decide, ja_m4 210 rfl rfl, rfl, rfl, t_Model_ok, n_Model, rfl, rfl⟩
theorem fd_Model_38 : ja_fd "InterlockingFrameModel" 38 8 21 true true (.array .int) := ⟨R_Model, F_Model, 42, t_Model, rfl, i_Model, by decide, ja_m4 216 rfl rfl, rfl, rfl, t_Model_ok, n_Model, rfl, rfl⟩
theorem fd_Model_41 : ja_fd "InterlockingFrameModel" 41 8 22 true true (.array .int) := ⟨R_Model, F_Model, 42, t_Model, rfl, i_Model, by decide, ja_m4 217 rfl rfl, rfl, rfl, t_Model_ok, n_Model, rfl, rfl⟩
theorem fd_Model_44 : ja_fd "InterlockingFrameModel" 44 8 23 true true (.array .int) := ⟨R_Model, F_Model, 42, t_Model, rfl, i_Model, by decide, ja_m4 218 rfl rfl, rfl, rfl, t_Model_ok, n_Model, rfl, rfl⟩
theorem fd_Model_47 : ja_fd "InterlockingFrameModel" 47 8 24 true true (.array .int) := ⟨R_Model, F_Model, 42, t_Model, rfl, i_Model, by decide, ja_m4 219 rfl rfl, rfl, rfl, t_Model_ok, n_Model, rfl, rfl⟩
theorem fd_Model_50 : ja_fd "InterlockingFrameModel" 50 8 25 true true (.array .int) := ⟨R_Model, F_Model, 42, t_Model, rfl, i_Model, by decide, ja_m4 220 rfl rfl, rfl, rfl, t_Model_ok, n_Model, rfl, rfl⟩
theorem fd_Model_53 : ja_fd "InterlockingFrameModel" 53 8 26 true true (.array .int) := ⟨R_Model, F_Model, 42, t_Model, rfl, i_Model, by decide, ja_m4 221 rfl rfl, rfl, rfl, t_Model_ok, n_Model, rfl, rfl⟩
theorem fd_Model_56 : ja_fd "InterlockingFrameModel" 56 8 30 true true (.array .int) := ⟨R_Model, F_Model, 42, t_Model, rfl, i_Model, by decide, ja_m4 225 rfl rfl, rfl, rfl, t_Model_ok, n_Model, rfl, rfl⟩
theorem fd_Model_59 : ja_fd "InterlockingFrameModel" 59 8 31 true true (.array .int) := ⟨R_Model, F_Model, 42, t_Model, rfl, i_Model, by decide, ja_m4 226 rfl rfl, rfl, rfl, t_Model_ok, n_Model, rfl, rfl⟩
theorem fd_Model_62 : ja_fd "InterlockingFrameModel" 62 8 33 true true (.array .int) := ⟨R_Model, F_Model, 42, t_Model, rfl, i_Model, by decide, ja_m4 228 rfl rfl, rfl, rfl, t_Model_ok, n_Model, rfl, rfl⟩
theorem fd_Model_65 : ja_fd "InterlockingFrameModel" 65 8 35 true true (.array .int) := ⟨R_Model, F_Model, 42, t_Model, rfl, i_Model, by decide, ja_m4 230 rfl rfl, rfl, rfl, t_Model_ok, n_Model, rfl, rfl⟩
theorem fd_Model_68 : ja_fd "InterlockingFrameModel" 68 8 39 true true (.array .int) := ⟨R_Model, F_Model, 42, t_Model, rfl, i_Model, by decide, ja_m4 234 rfl rfl, rfl, rfl, t_Model_ok, n_Model, rfl, rfl⟩
theorem fd_Model_71 : ja_fd "InterlockingFrameModel" 71 8 40 true true (.array .int) := ⟨R_Model, F_Model, 42, t_Model, rfl, i_Model, by decide, ja_m4 235 rfl rfl, rfl, rfl, t_Model_ok, n_Model, rfl, rfl⟩
theorem fd_Model_77 : ja_fd "InterlockingFrameModel" 77 8 11 false false .int := ⟨R_Model, F_Model, 42, t_Model, rfl, i_Model, by decide, ja_m4 206 rfl rfl, rfl, rfl, t_Model_ok, n_Model, rfl, rfl⟩
theorem fd_Model_80 : ja_fd "InterlockingFrameModel" 80 8 13 false false .int := ⟨R_Model, F_Model, 42, t_Model, rfl, i_Model, by decide, ja_m4 208 rfl rfl, rfl, rfl, t_Model_ok, n_Model, rfl, rfl⟩
theorem fd_Model_83 : ja_fd "InterlockingFrameModel" 83 8 12 false false .int := ⟨R_Model, F_Model, 42, t_Model, rfl, i_Model, by decide, ja_m4 207 rfl rfl, rfl, rfl, t_Model_ok, n_Model, rfl, rfl⟩
theorem fd_Model_86 : ja_fd "InterlockingFrameModel" 86 8 14 false false .int := ⟨R_Model, F_Model, 42, t_Model, rfl, i_Model, by decide, ja_m4 209 rfl rfl, rfl, rfl, t_Model_ok, n_Model, rfl, rfl⟩
theorem lk_History_34 : Cond.methodLink "InterlockingFrame$History" 34 y_History_forgetOldest ∈ ja_tb := ja_m3 74 rfl rfl
theorem lk_LockPlanner_30 : Cond.methodLink "InterlockingFrame$LockPlanne\x72" 30 y_Sheet_hasConflict ∈ ja_tb := ja_m4 40 rfl rfl
theorem lk_LockPlanner_39 : Cond.methodLink "InterlockingFrame$LockPlanne\x72" 39 y_Sheet_leversOfRoute ∈ ja_tb := ja_m4 41 rfl rfl
theorem lk_LockPlanner_46 : Cond.methodLink "InterlockingFrame$LockPlanne\x72" 46 y_LockPlanner_lockOf ∈ ja_tb := ja_m4 42 rfl rfl
theorem lk_LockPlanner_50 : Cond.methodLink "InterlockingFrame$LockPlanne\x72" 50 y_LockPlanner_keepsRoutes ∈ ja_tb := ja_m4 46 rfl rfl
theorem lk_LockPlanner_62 : Cond.methodLink "InterlockingFrame$LockPlanne\x72" 62 y_Locking_copyFrom ∈ ja_tb := ja_m4 50 rfl rfl
theorem lk_LockPlanner_66 : Cond.methodLink "InterlockingFrame$LockPlanne\x72" 66 y_Locking_enforce ∈ ja_tb := ja_m4 51 rfl rfl
theorem lk_LockPlanner_70 : Cond.methodLink "InterlockingFrame$LockPlanne\x72" 70 y_Sheet_movableLevers ∈ ja_tb := ja_m4 52 rfl rfl
theorem lk_LockPlanner_74 : Cond.methodLink "InterlockingFrame$LockPlanne\x72" 74 y_Search_explore ∈ ja_tb := ja_m4 53 rfl rfl
theorem lk_LockPlanner_78 : Cond.methodLink "InterlockingFrame$LockPlanne\x72" 78 y_Sheet_settableRoutes ∈ ja_tb := ja_m4 54 rfl rfl
theorem lk_LockPlanner_85 : Cond.methodLink "InterlockingFrame$LockPlanne\x72" 85 y_Sheet_openConflicts ∈ ja_tb := ja_m4 64 rfl rfl
theorem lk_LockPlanner_88 : Cond.methodLink "InterlockingFrame$LockPlanne\x72" 88 y_LockPlanner_propose ∈ ja_tb := ja_m4 65 rfl rfl
theorem lk_LockPlanner_92 : Cond.methodLink "InterlockingFrame$LockPlanne\x72" 92 y_Rule_pack ∈ ja_tb := ja_m4 45 rfl rfl
theorem lk_Locking_24 : Cond.methodLink "InterlockingFrame$Locking" 24 y_Arrays_fillJ ∈ ja_tb := ja_m3 146 rfl rfl
theorem lk_Locking_40 : Cond.methodLink "InterlockingFrame$Locking" 40 y_Locking_enforce ∈ ja_tb := ja_m3 149 rfl rfl
theorem lk_Locking_44 : Cond.methodLink "InterlockingFrame$Locking" 44 y_Rule_reversedLevers ∈ ja_tb := ja_m3 153 rfl rfl
theorem lk_Locking_50 : Cond.methodLink "InterlockingFrame$Locking" 50 y_Rule_normalLevers ∈ ja_tb := ja_m3 154 rfl rfl
theorem lk_Locking_53 : Cond.methodLink "InterlockingFrame$Locking" 53 y_Rule_kind ∈ ja_tb := ja_m3 155 rfl rfl
theorem lk_Locking_56 : Cond.methodLink "InterlockingFrame$Locking" 56 y_Locking_addStates ∈ ja_tb := ja_m3 156 rfl rfl
theorem lk_Locking_60 : Cond.methodLink "InterlockingFrame$Locking" 60 y_Rule_leverA ∈ ja_tb := ja_m3 165 rfl rfl
theorem lk_Locking_63 : Cond.methodLink "InterlockingFrame$Locking" 63 y_Rule_leverB ∈ ja_tb := ja_m3 166 rfl rfl
theorem lk_Locking_66 : Cond.methodLink "InterlockingFrame$Locking" 66 y_Locking_statesInWord ∈ ja_tb := ja_m3 159 rfl rfl
theorem lk_Merger_32 : Cond.methodLink "InterlockingFrame$Merge\x72" 32 y_Sheet_copyFrom ∈ ja_tb := ja_m4 139 rfl rfl
theorem lk_Merger_36 : Cond.methodLink "InterlockingFrame$Merge\x72" 36 y_Sheet_settableRoutes ∈ ja_tb := ja_m4 140 rfl rfl
theorem lk_Merger_40 : Cond.methodLink "InterlockingFrame$Merge\x72" 40 y_Sheet_openConflicts ∈ ja_tb := ja_m4 141 rfl rfl
theorem lk_Merger_43 : Cond.methodLink "InterlockingFrame$Merge\x72" 43 y_Sheet_mergeLever ∈ ja_tb := ja_m4 150 rfl rfl
theorem lk_Merger_53 : Cond.methodLink "InterlockingFrame$Merge\x72" 53 y_Sheet_allRules ∈ ja_tb := ja_m4 158 rfl rfl
theorem lk_Merger_57 : Cond.methodLink "InterlockingFrame$Merge\x72" 57 y_Locking_enforceAll ∈ ja_tb := ja_m4 159 rfl rfl
theorem lk_Merger_63 : Cond.methodLink "InterlockingFrame$Merge\x72" 63 y_Sheet_movableLevers ∈ ja_tb := ja_m4 160 rfl rfl
theorem lk_Merger_66 : Cond.methodLink "InterlockingFrame$Merge\x72" 66 y_Search_explore ∈ ja_tb := ja_m4 161 rfl rfl
theorem lk_Merger_72 : Cond.methodLink "InterlockingFrame$Merge\x72" 72 y_Sheet_canMove ∈ ja_tb := ja_m4 178 rfl rfl
theorem lk_Merger_76 : Cond.methodLink "InterlockingFrame$Merge\x72" 76 y_Merger_attempt ∈ ja_tb := ja_m4 183 rfl rfl
theorem lk_Merger_79 : Cond.methodLink "InterlockingFrame$Merge\x72" 79 y_Merger_keepsRoutesAndConflicts ∈ ja_tb := ja_m4 184 rfl rfl
theorem lk_Rule_15 : Cond.methodLink "InterlockingFrame$Rule" 15 y_Rule_leverA ∈ ja_tb := ja_m3 65 rfl rfl
theorem lk_Rule_18 : Cond.methodLink "InterlockingFrame$Rule" 18 y_Rule_leverB ∈ ja_tb := ja_m3 58 rfl rfl
theorem lk_Rule_21 : Cond.methodLink "InterlockingFrame$Rule" 21 y_Rule_condition ∈ ja_tb := ja_m3 66 rfl rfl
theorem lk_Rule_24 : Cond.methodLink "InterlockingFrame$Rule" 24 y_Rule_reversedLevers ∈ ja_tb := ja_m3 62 rfl rfl
theorem lk_Rule_27 : Cond.methodLink "InterlockingFrame$Rule" 27 y_Rule_normalLevers ∈ ja_tb := ja_m3 67 rfl rfl
theorem lk_Rule_30 : Cond.methodLink "InterlockingFrame$Rule" 30 y_Rule_bites ∈ ja_tb := ja_m3 59 rfl rfl
theorem lk_Rule_34 : Cond.methodLink "InterlockingFrame$Rule" 34 y_Rule_pack ∈ ja_tb := ja_m4 157 rfl rfl
theorem lk_Rule_9 : Cond.methodLink "InterlockingFrame$Rule" 9 y_Rule_kind ∈ ja_tb := ja_m3 57 rfl rfl
theorem lk_Search_38 : Cond.methodLink "InterlockingFrame$Search" 38 y_Search_forget ∈ ja_tb := ja_m3 175 rfl rfl
theorem lk_Search_41 : Cond.methodLink "InterlockingFrame$Search" 41 y_Search_enter ∈ ja_tb := ja_m3 179 rfl rfl
theorem lk_Search_45 : Cond.methodLink "InterlockingFrame$Search" 45 y_Search_reached ∈ ja_tb := ja_m3 183 rfl rfl
theorem lk_Search_49 : Cond.methodLink "InterlockingFrame$Search" 49 y_Locking_allows ∈ ja_tb := ja_m3 187 rfl rfl
theorem lk_Search_53 : Cond.methodLink "InterlockingFrame$Search" 53 y_Search_movesTo ∈ ja_tb := ja_m3 191 rfl rfl
theorem lk_Search_57 : Cond.methodLink "InterlockingFrame$Search" 57 y_Search_leverFreed ∈ ja_tb := ja_m4 113 rfl rfl
theorem lk_Sheet_46 : Cond.methodLink "InterlockingFrame$Sheet" 46 y_Sheet_allLevers ∈ ja_tb := ja_m3 113 rfl rfl
theorem lk_Sheet_50 : Cond.methodLink "InterlockingFrame$Sheet" 50 y_Sheet_movableLevers ∈ ja_tb := ja_m4 182 rfl rfl
theorem lk_Sheet_53 : Cond.methodLink "InterlockingFrame$Sheet" 53 y_Sheet_hasRule ∈ ja_tb := ja_m3 96 rfl rfl
theorem lk_Sheet_57 : Cond.methodLink "InterlockingFrame$Sheet" 57 y_Sheet_hasRoute ∈ ja_tb := ja_m4 19 rfl rfl
theorem lk_Sheet_60 : Cond.methodLink "InterlockingFrame$Sheet" 60 y_Rule_forbids ∈ ja_tb := ja_m3 121 rfl rfl
theorem lk_Sheet_66 : Cond.methodLink "InterlockingFrame$Sheet" 66 y_Rule_blocks ∈ ja_tb := ja_m3 54 rfl rfl
theorem lk_Sheet_70 : Cond.methodLink "InterlockingFrame$Sheet" 70 y_Search_someStateSets ∈ ja_tb := ja_m4 20 rfl rfl
theorem lk_Sheet_75 : Cond.methodLink "InterlockingFrame$Sheet" 75 y_Sheet_leversOfRoute ∈ ja_tb := ja_m4 15 rfl rfl
theorem lk_Sheet_82 : Cond.methodLink "InterlockingFrame$Sheet" 82 y_Search_stateAt ∈ ja_tb := ja_m4 79 rfl rfl
theorem lk_Sheet_85 : Cond.methodLink "InterlockingFrame$Sheet" 85 y_Sheet_routesSetIn ∈ ja_tb := ja_m4 83 rfl rfl
theorem lk_Sheet_88 : Cond.methodLink "InterlockingFrame$Sheet" 88 y_Integer_bitCount ∈ ja_tb := ja_m4 87 rfl rfl
theorem lk_Sheet_93 : Cond.methodLink "InterlockingFrame$Sheet" 93 y_Rule_withLeverReplaced ∈ ja_tb := ja_m4 154 rfl rfl
theorem lk_SheetParser_103 : Cond.methodLink "InterlockingFrame$SheetParse\x72" 103 y_SheetParser_verbHere ∈ ja_tb := ja_m2 152 rfl rfl
theorem lk_SheetParser_109 : Cond.methodLink "InterlockingFrame$SheetParse\x72" 109 y_SheetParser_readCondition ∈ ja_tb := ja_m2 160 rfl rfl
theorem lk_SheetParser_113 : Cond.methodLink "InterlockingFrame$SheetParse\x72" 113 y_Rule_pack ∈ ja_tb := ja_m2 166 rfl rfl
theorem lk_SheetParser_119 : Cond.methodLink "InterlockingFrame$SheetParse\x72" 119 y_Sheet_insertRule ∈ ja_tb := ja_m2 169 rfl rfl
theorem lk_SheetParser_133 : Cond.methodLink "InterlockingFrame$SheetParse\x72" 133 y_Sheet_insertRoute ∈ ja_tb := ja_m2 181 rfl rfl
theorem lk_SheetParser_136 : Cond.methodLink "InterlockingFrame$SheetParse\x72" 136 y_Sheet_declaresConflict ∈ ja_tb := ja_m2 190 rfl rfl
theorem lk_SheetParser_140 : Cond.methodLink "InterlockingFrame$SheetParse\x72" 140 y_Sheet_insertConflict ∈ ja_tb := ja_m2 194 rfl rfl
theorem lk_SheetParser_143 : Cond.methodLink "InterlockingFrame$SheetParse\x72" 143 y_String_length ∈ ja_tb := ja_m2 79 rfl rfl
theorem lk_SheetParser_147 : Cond.methodLink "InterlockingFrame$SheetParse\x72" 147 y_String_charAt ∈ ja_tb := ja_m2 89 rfl rfl
theorem lk_SheetParser_151 : Cond.methodLink "InterlockingFrame$SheetParse\x72" 151 y_SheetParser_isLetter ∈ ja_tb := ja_m2 64 rfl rfl
theorem lk_SheetParser_37 : Cond.methodLink "InterlockingFrame$SheetParse\x72" 37 y_SheetParser_step ∈ ja_tb := ja_m2 56 rfl rfl
theorem lk_SheetParser_40 : Cond.methodLink "InterlockingFrame$SheetParse\x72" 40 y_SheetParser_readHead ∈ ja_tb := ja_m2 70 rfl rfl
theorem lk_SheetParser_44 : Cond.methodLink "InterlockingFrame$SheetParse\x72" 44 y_SheetParser_readStatement ∈ ja_tb := ja_m2 144 rfl rfl
theorem lk_SheetParser_47 : Cond.methodLink "InterlockingFrame$SheetParse\x72" 47 y_SheetParser_readSemicolon ∈ ja_tb := ja_m2 139 rfl rfl
theorem lk_SheetParser_53 : Cond.methodLink "InterlockingFrame$SheetParse\x72" 53 y_SheetParser_atText ∈ ja_tb := ja_m2 75 rfl rfl
theorem lk_SheetParser_57 : Cond.methodLink "InterlockingFrame$SheetParse\x72" 57 y_SheetParser_fail ∈ ja_tb := ja_m2 127 rfl rfl
theorem lk_SheetParser_61 : Cond.methodLink "InterlockingFrame$SheetParse\x72" 61 y_SheetParser_numberHere ∈ ja_tb := ja_m2 131 rfl rfl
theorem lk_SheetParser_64 : Cond.methodLink "InterlockingFrame$SheetParse\x72" 64 y_Sheet_wipe ∈ ja_tb := ja_m2 135 rfl rfl
theorem lk_SheetParser_72 : Cond.methodLink "InterlockingFrame$SheetParse\x72" 72 y_SheetParser_byteAt ∈ ja_tb := ja_m2 60 rfl rfl
theorem lk_SheetParser_76 : Cond.methodLink "InterlockingFrame$SheetParse\x72" 76 y_SheetParser_isDigit ∈ ja_tb := ja_m2 67 rfl rfl
theorem lk_SheetParser_79 : Cond.methodLink "InterlockingFrame$SheetParse\x72" 79 y_SheetParser_readRule ∈ ja_tb := ja_m2 148 rfl rfl
theorem lk_SheetParser_87 : Cond.methodLink "InterlockingFrame$SheetParse\x72" 87 y_SheetParser_readRoute ∈ ja_tb := ja_m2 177 rfl rfl
theorem lk_SheetParser_95 : Cond.methodLink "InterlockingFrame$SheetParse\x72" 95 y_SheetParser_readConflict ∈ ja_tb := ja_m2 186 rfl rfl
theorem lk_Frame_103 : Cond.methodLink "InterlockingFrame" 103 y_History_clear ∈ ja_tb := ja_m2 202 rfl rfl
theorem lk_Frame_106 : Cond.methodLink "InterlockingFrame" 106 y_Frame_forgetFindings ∈ ja_tb := ja_m2 206 rfl rfl
theorem lk_Frame_124 : Cond.methodLink "InterlockingFrame" 124 y_Sheet_hasRule ∈ ja_tb := ja_m2 235 rfl rfl
theorem lk_Frame_131 : Cond.methodLink "InterlockingFrame" 131 y_Rule_kind ∈ ja_tb := ja_m2 239 rfl rfl
theorem lk_Frame_137 : Cond.methodLink "InterlockingFrame" 137 y_Rule_leverA ∈ ja_tb := ja_m3 6 rfl rfl
theorem lk_Frame_140 : Cond.methodLink "InterlockingFrame" 140 y_Rule_leverB ∈ ja_tb := ja_m3 9 rfl rfl
theorem lk_Frame_143 : Cond.methodLink "InterlockingFrame" 143 y_Frame_leverPair ∈ ja_tb := ja_m3 12 rfl rfl
theorem lk_Frame_147 : Cond.methodLink "InterlockingFrame" 147 y_Rule_condition ∈ ja_tb := ja_m3 19 rfl rfl
theorem lk_Frame_150 : Cond.methodLink "InterlockingFrame" 150 y_Sheet_hasRoute ∈ ja_tb := ja_m3 30 rfl rfl
theorem lk_Frame_156 : Cond.methodLink "InterlockingFrame" 156 y_Sheet_hasLever ∈ ja_tb := ja_m3 46 rfl rfl
theorem lk_Frame_159 : Cond.methodLink "InterlockingFrame" 159 y_Sheet_firstBlocker ∈ ja_tb := ja_m3 50 rfl rfl
theorem lk_Frame_162 : Cond.methodLink "InterlockingFrame" 162 y_History_note ∈ ja_tb := ja_m3 70 rfl rfl
theorem lk_Frame_166 : Cond.methodLink "InterlockingFrame" 166 y_Rule_pack ∈ ja_tb := ja_m3 83 rfl rfl
theorem lk_Frame_170 : Cond.methodLink "InterlockingFrame" 170 y_Rule_forbids ∈ ja_tb := ja_m3 84 rfl rfl
theorem lk_Frame_174 : Cond.methodLink "InterlockingFrame" 174 y_Sheet_insertRule ∈ ja_tb := ja_m3 87 rfl rfl
theorem lk_Frame_178 : Cond.methodLink "InterlockingFrame" 178 y_Sheet_dropRule ∈ ja_tb := ja_m3 92 rfl rfl
theorem lk_Frame_181 : Cond.methodLink "InterlockingFrame" 181 y_History_takeLatest ∈ ja_tb := ja_m3 101 rfl rfl
theorem lk_Frame_197 : Cond.methodLink "InterlockingFrame" 197 y_Sheet_hasState ∈ ja_tb := ja_m3 109 rfl rfl
theorem lk_Frame_200 : Cond.methodLink "InterlockingFrame" 200 y_Sheet_permits ∈ ja_tb := ja_m3 117 rfl rfl
theorem lk_Frame_203 : Cond.methodLink "InterlockingFrame" 203 y_Frame_searchedHome ∈ ja_tb := ja_m3 134 rfl rfl
theorem lk_Frame_208 : Cond.methodLink "InterlockingFrame" 208 y_Frame_searchBetween ∈ ja_tb := ja_m3 199 rfl rfl
theorem lk_Frame_211 : Cond.methodLink "InterlockingFrame" 211 y_Search_movesTo ∈ ja_tb := ja_m3 209 rfl rfl
theorem lk_Frame_214 : Cond.methodLink "InterlockingFrame" 214 y_Search_leverOnWay ∈ ja_tb := ja_m3 214 rfl rfl
theorem lk_Frame_217 : Cond.methodLink "InterlockingFrame" 217 y_Search_leversSeenWith ∈ ja_tb := ja_m3 222 rfl rfl
theorem lk_Frame_220 : Cond.methodLink "InterlockingFrame" 220 y_Sheet_allLevers ∈ ja_tb := ja_m3 226 rfl rfl
theorem lk_Frame_224 : Cond.methodLink "InterlockingFrame" 224 y_Search_nearestSetting ∈ ja_tb := ja_m3 231 rfl rfl
theorem lk_Frame_227 : Cond.methodLink "InterlockingFrame" 227 y_Search_countSetting ∈ ja_tb := ja_m4 3 rfl rfl
theorem lk_Frame_230 : Cond.methodLink "InterlockingFrame" 230 y_Sheet_openConflicts ∈ ja_tb := ja_m4 11 rfl rfl
theorem lk_Frame_234 : Cond.methodLink "InterlockingFrame" 234 y_Sheet_hasConflict ∈ ja_tb := ja_m4 28 rfl rfl
theorem lk_Frame_237 : Cond.methodLink "InterlockingFrame" 237 y_Sheet_settableRoutes ∈ ja_tb := ja_m4 32 rfl rfl
theorem lk_Frame_244 : Cond.methodLink "InterlockingFrame" 244 y_LockPlanner_propose ∈ ja_tb := ja_m4 36 rfl rfl
theorem lk_Frame_248 : Cond.methodLink "InterlockingFrame" 248 y_LockPlanner_complete ∈ ja_tb := ja_m4 60 rfl rfl
theorem lk_Frame_255 : Cond.methodLink "InterlockingFrame" 255 y_Frame_completionSize ∈ ja_tb := ja_m4 70 rfl rfl
theorem lk_Frame_261 : Cond.methodLink "InterlockingFrame" 261 y_Sheet_largestJointSet ∈ ja_tb := ja_m4 75 rfl rfl
theorem lk_Frame_264 : Cond.methodLink "InterlockingFrame" 264 y_Search_farthest ∈ ja_tb := ja_m4 97 rfl rfl
theorem lk_Frame_267 : Cond.methodLink "InterlockingFrame" 267 y_Frame_placeFreedWithout ∈ ja_tb := ja_m4 105 rfl rfl
theorem lk_Frame_270 : Cond.methodLink "InterlockingFrame" 270 y_Sheet_allRules ∈ ja_tb := ja_m3 138 rfl rfl
theorem lk_Frame_273 : Cond.methodLink "InterlockingFrame" 273 y_Locking_enforceAll ∈ ja_tb := ja_m3 142 rfl rfl
theorem lk_Frame_279 : Cond.methodLink "InterlockingFrame" 279 y_Search_firstPlaceFreed ∈ ja_tb := ja_m4 109 rfl rfl
theorem lk_Frame_283 : Cond.methodLink "InterlockingFrame" 283 y_Search_stateAt ∈ ja_tb := ja_m4 125 rfl rfl
theorem lk_Frame_286 : Cond.methodLink "InterlockingFrame" 286 y_Search_leverFreed ∈ ja_tb := ja_m4 130 rfl rfl
theorem lk_Frame_290 : Cond.methodLink "InterlockingFrame" 290 y_Merger_begin ∈ ja_tb := ja_m4 135 rfl rfl
theorem lk_Frame_302 : Cond.methodLink "InterlockingFrame" 302 y_Merger_attempt ∈ ja_tb := ja_m4 146 rfl rfl
theorem lk_Frame_305 : Cond.methodLink "InterlockingFrame" 305 y_Merger_keepsRoutesAndConflicts ∈ ja_tb := ja_m4 162 rfl rfl
theorem lk_Frame_308 : Cond.methodLink "InterlockingFrame" 308 y_Merger_mergeFirstPair ∈ ja_tb := ja_m4 174 rfl rfl
theorem lk_Frame_311 : Cond.methodLink "InterlockingFrame" 311 y_Sheet_movableLevers ∈ ja_tb := ja_m3 167 rfl rfl
theorem lk_Frame_314 : Cond.methodLink "InterlockingFrame" 314 y_Search_explore ∈ ja_tb := ja_m3 171 rfl rfl
theorem lk_Frame_317 : Cond.methodLink "InterlockingFrame" 317 y_Search_reached ∈ ja_tb := ja_m3 203 rfl rfl
theorem lk_Frame_320 : Cond.methodLink "InterlockingFrame" 320 y_Locking_copyFrom ∈ ja_tb := ja_m3 204 rfl rfl
theorem lk_Frame_88 : Cond.methodLink "InterlockingFrame" 88 y_Frame_appendWord ∈ ja_tb := ja_m2 41 rfl rfl
theorem lk_Frame_92 : Cond.methodLink "InterlockingFrame" 92 y_SheetParser_read ∈ ja_tb := ja_m2 49 rfl rfl
theorem lk_Frame_99 : Cond.methodLink "InterlockingFrame" 99 y_Sheet_copyFrom ∈ ja_tb := ja_m2 198 rfl rfl
theorem lk_Model_101 : Cond.methodLink "InterlockingFrameModel" 101 y_Model_lettersHere ∈ ja_tb := ja_m5 111 rfl rfl
theorem lk_Model_106 : Cond.methodLink "InterlockingFrameModel" 106 y_String_length ∈ ja_tb := ja_m5 116 rfl rfl
theorem lk_Model_111 : Cond.methodLink "InterlockingFrameModel" 111 y_String_charAt ∈ ja_tb := ja_m5 117 rfl rfl
theorem lk_Model_115 : Cond.methodLink "InterlockingFrameModel" 115 y_Model_wordHere ∈ ja_tb := ja_m5 101 rfl rfl
theorem lk_Model_118 : Cond.methodLink "InterlockingFrameModel" 118 y_Model_fails ∈ ja_tb := ja_m5 118 rfl rfl
theorem lk_Model_126 : Cond.methodLink "InterlockingFrameModel" 126 y_Model_isDigitHere ∈ ja_tb := ja_m5 126 rfl rfl
theorem lk_Model_136 : Cond.methodLink "InterlockingFrameModel" 136 y_Model_number ∈ ja_tb := ja_m5 122 rfl rfl
theorem lk_Model_140 : Cond.methodLink "InterlockingFrameModel" 140 y_Model_lever ∈ ja_tb := ja_m5 144 rfl rfl
theorem lk_Model_146 : Cond.methodLink "InterlockingFrameModel" 146 y_Model_passes ∈ ja_tb := ja_m5 97 rfl rfl
theorem lk_Model_152 : Cond.methodLink "InterlockingFrameModel" 152 y_Model_has ∈ ja_tb := ja_m5 152 rfl rfl
theorem lk_Model_159 : Cond.methodLink "InterlockingFrameModel" 159 y_Model_isDeclared ∈ ja_tb := ja_m5 159 rfl rfl
theorem lk_Model_162 : Cond.methodLink "InterlockingFrameModel" 162 y_Model_ruleLine ∈ ja_tb := ja_m5 140 rfl rfl
theorem lk_Model_165 : Cond.methodLink "InterlockingFrameModel" 165 y_Model_routeLine ∈ ja_tb := ja_m5 148 rfl rfl
theorem lk_Model_168 : Cond.methodLink "InterlockingFrameModel" 168 y_Model_conflictLine ∈ ja_tb := ja_m5 155 rfl rfl
theorem lk_Model_171 : Cond.methodLink "InterlockingFrameModel" 171 y_Model_semicolon ∈ ja_tb := ja_m5 132 rfl rfl
theorem lk_Model_174 : Cond.methodLink "InterlockingFrameModel" 174 y_Model_line ∈ ja_tb := ja_m5 136 rfl rfl
theorem lk_Model_177 : Cond.methodLink "InterlockingFrameModel" 177 y_Model_parses ∈ ja_tb := ja_m5 93 rfl rfl
theorem lk_Model_189 : Cond.methodLink "InterlockingFrameModel" 189 y_Model_isRule ∈ ja_tb := ja_m5 187 rfl rfl
theorem lk_Model_193 : Cond.methodLink "InterlockingFrameModel" 193 y_Model_isRoute ∈ ja_tb := ja_m5 207 rfl rfl
theorem lk_Model_205 : Cond.methodLink "InterlockingFrameModel" 205 y_Model_isActive ∈ ja_tb := ja_m6 3 rfl rfl
theorem lk_Model_208 : Cond.methodLink "InterlockingFrameModel" 208 y_Model_forbids ∈ ja_tb := ja_m5 239 rfl rfl
theorem lk_Model_211 : Cond.methodLink "InterlockingFrameModel" 211 y_Model_blocks ∈ ja_tb := ja_m5 235 rfl rfl
theorem lk_Model_215 : Cond.methodLink "InterlockingFrameModel" 215 y_Model_blockOf ∈ ja_tb := ja_m5 231 rfl rfl
theorem lk_Model_221 : Cond.methodLink "InterlockingFrameModel" 221 y_Model_isFree ∈ ja_tb := ja_m5 227 rfl rfl
theorem lk_Model_224 : Cond.methodLink "InterlockingFrameModel" 224 y_Model_reaches ∈ ja_tb := ja_m6 56 rfl rfl
theorem lk_Model_227 : Cond.methodLink "InterlockingFrameModel" 227 y_Model_clears ∈ ja_tb := ja_m6 52 rfl rfl
theorem lk_Model_230 : Cond.methodLink "InterlockingFrameModel" 230 y_Model_spreads ∈ ja_tb := ja_m6 60 rfl rfl
theorem lk_Model_233 : Cond.methodLink "InterlockingFrameModel" 233 y_Model_isLever ∈ ja_tb := ja_m5 223 rfl rfl
theorem lk_Model_236 : Cond.methodLink "InterlockingFrameModel" 236 y_Model_remembers ∈ ja_tb := ja_m6 7 rfl rfl
theorem lk_Model_241 : Cond.methodLink "InterlockingFrameModel" 241 y_Model_puts ∈ ja_tb := ja_m6 16 rfl rfl
theorem lk_Model_245 : Cond.methodLink "InterlockingFrameModel" 245 y_Model_isState ∈ ja_tb := ja_m6 32 rfl rfl
theorem lk_Model_248 : Cond.methodLink "InterlockingFrameModel" 248 y_Model_laysFrom ∈ ja_tb := ja_m6 48 rfl rfl
theorem lk_Model_252 : Cond.methodLink "InterlockingFrameModel" 252 y_Model_areReachable ∈ ja_tb := ja_m6 68 rfl rfl
theorem lk_Model_255 : Cond.methodLink "InterlockingFrameModel" 255 y_Model_sets ∈ ja_tb := ja_m6 88 rfl rfl
theorem lk_Model_258 : Cond.methodLink "InterlockingFrameModel" 258 y_Model_settingOf ∈ ja_tb := ja_m6 84 rfl rfl
theorem lk_Model_262 : Cond.methodLink "InterlockingFrameModel" 262 y_Model_joint ∈ ja_tb := ja_m6 100 rfl rfl
theorem lk_Model_265 : Cond.methodLink "InterlockingFrameModel" 265 y_Model_unprotected ∈ ja_tb := ja_m6 108 rfl rfl
theorem lk_Model_268 : Cond.methodLink "InterlockingFrameModel" 268 y_Model_lockFor ∈ ja_tb := ja_m6 116 rfl rfl
theorem lk_Model_271 : Cond.methodLink "InterlockingFrameModel" 271 y_Model_settable ∈ ja_tb := ja_m6 120 rfl rfl
theorem lk_Model_277 : Cond.methodLink "InterlockingFrameModel" 277 y_Model_completes ∈ ja_tb := ja_m6 128 rfl rfl
theorem lk_Model_280 : Cond.methodLink "InterlockingFrameModel" 280 y_Model_bits ∈ ja_tb := ja_m6 140 rfl rfl
theorem lk_Model_283 : Cond.methodLink "InterlockingFrameModel" 283 y_Model_isTold ∈ ja_tb := ja_m6 159 rfl rfl
theorem lk_Model_286 : Cond.methodLink "InterlockingFrameModel" 286 y_Model_tellingLever ∈ ja_tb := ja_m6 155 rfl rfl
theorem lk_Model_289 : Cond.methodLink "InterlockingFrameModel" 289 y_Model_isImpliedBy ∈ ja_tb := ja_m6 151 rfl rfl
theorem lk_Model_295 : Cond.methodLink "InterlockingFrameModel" 295 y_Model_laysTest ∈ ja_tb := ja_m6 171 rfl rfl
theorem lk_Model_298 : Cond.methodLink "InterlockingFrameModel" 298 y_Model_nearer ∈ ja_tb := ja_m6 179 rfl rfl
theorem lk_Model_301 : Cond.methodLink "InterlockingFrameModel" 301 y_Model_mergedLever ∈ ja_tb := ja_m6 203 rfl rfl
theorem lk_Model_311 : Cond.methodLink "InterlockingFrameModel" 311 y_Model_laysDue ∈ ja_tb := ja_m6 187 rfl rfl
theorem lk_Model_314 : Cond.methodLink "InterlockingFrameModel" 314 y_Model_lower ∈ ja_tb := ja_m6 191 rfl rfl
theorem lk_Model_317 : Cond.methodLink "InterlockingFrameModel" 317 y_Model_higher ∈ ja_tb := ja_m6 195 rfl rfl
theorem lk_Model_320 : Cond.methodLink "InterlockingFrameModel" 320 y_Model_merges ∈ ja_tb := ja_m6 199 rfl rfl
theorem lk_Model_323 : Cond.methodLink "InterlockingFrameModel" 323 y_Model_isDue ∈ ja_tb := ja_m6 206 rfl rfl
theorem lk_Model_329 : Cond.methodLink "InterlockingFrameModel" 329 y_Model_copies ∈ ja_tb := ja_m6 222 rfl rfl
theorem lk_Model_333 : Cond.methodLink "InterlockingFrameModel" 333 y_Model_mergesOne ∈ ja_tb := ja_m6 218 rfl rfl
theorem lk_Model_74 : Cond.methodLink "InterlockingFrameModel" 74 y_Model_usesSheet ∈ ja_tb := ja_m4 191 rfl rfl
theorem lk_Model_93 : Cond.methodLink "InterlockingFrameModel" 93 y_Model_isIn ∈ ja_tb := ja_m5 90 rfl rfl
theorem lk_Model_97 : Cond.methodLink "InterlockingFrameModel" 97 y_Model_peek ∈ ja_tb := ja_m5 105 rfl rfl
theorem km_SheetParser_31 : Cond.methodLink "InterlockingFrame$SheetParse\x72" 31 Lib.Math.min.name ∈ ja_tb ∧ Cond.static Lib.Math.min.name ∈ ja_tb ∧ Cond.initialized "java/lang/Math" ∈ ja_tb ∧ Cond.code Lib.Math.min.name Lib.Math.min.code 2 (some .int) ∈ ja_tb := ⟨ja_m2 53 rfl rfl, ja_m2 54 rfl rfl, ja_m1 11 rfl rfl, ja_m2 55 rfl rfl⟩
theorem km_Frame_294 : Cond.methodLink "InterlockingFrame" 294 Lib.Math.min.name ∈ ja_tb ∧ Cond.static Lib.Math.min.name ∈ ja_tb ∧ Cond.initialized "java/lang/Math" ∈ ja_tb ∧ Cond.code Lib.Math.min.name Lib.Math.min.code 2 (some .int) ∈ ja_tb := ⟨ja_m4 142 rfl rfl, ja_m2 54 rfl rfl, ja_m1 11 rfl rfl, ja_m2 55 rfl rfl⟩
theorem km_Frame_299 : Cond.methodLink "InterlockingFrame" 299 Lib.Math.max.name ∈ ja_tb ∧ Cond.static Lib.Math.max.name ∈ ja_tb ∧ Cond.initialized "java/lang/Math" ∈ ja_tb ∧ Cond.code Lib.Math.max.name Lib.Math.max.code 2 (some .int) ∈ ja_tb := ⟨ja_m4 143 rfl rfl, ja_m4 144 rfl rfl, ja_m1 11 rfl rfl, ja_m4 145 rfl rfl⟩
theorem sl_Locking_72 : Cond.fieldLink "InterlockingFrame$Locking" 72 "InterlockingFrame$Locking" "REVERSED_IN_WORD" "[J" ∈ ja_tb := ja_m3 163 rfl rfl
end
