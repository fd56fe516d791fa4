section
-- ===== PART A: goes FIRST, ahead of the names: the tables' words, and 'selects' of the private methods out of them =====
/-- a private method of a class that the tables say can be made, by its rows of tables_1 -/
def lw_okq (q : MethodName × Nat) : Prop := (q.1.cls ≠ "java/lang/invoke/MethodHandle" ∧ q.1.cls ≠ "java/lang/invoke/VarHandle") ∧ Cond.instantiable q.1.cls q.2 ∈ tables_1 ∧ Cond.privateMethod q.1 ∈ tables_1 ∧ Cond.instanceMethod q.1 ∈ tables_1
theorem lw_p0 : lw_okq (⟨"InterlockingFrame", "appendWord", "(I)V"⟩, 16) := ⟨⟨by decide +kernel, by decide +kernel⟩, List.mem_of_getElem? (i := 20) (by decide +kernel), List.mem_of_getElem? (i := 282) (by decide +kernel), List.mem_of_getElem? (i := 283) (by decide +kernel)⟩
theorem lw_p1 : lw_okq (⟨"InterlockingFrame$SheetParser", "step", "()V"⟩, 6) := ⟨⟨by decide +kernel, by decide +kernel⟩, List.mem_of_getElem? (i := 28) (by decide +kernel), List.mem_of_getElem? (i := 297) (by decide +kernel), List.mem_of_getElem? (i := 298) (by decide +kernel)⟩
theorem lw_p2 : lw_okq (⟨"InterlockingFrame$SheetParser", "byteAt", "(I)I"⟩, 6) := ⟨⟨by decide +kernel, by decide +kernel⟩, List.mem_of_getElem? (i := 28) (by decide +kernel), List.mem_of_getElem? (i := 301) (by decide +kernel), List.mem_of_getElem? (i := 302) (by decide +kernel)⟩
theorem lw_p3 : lw_okq (⟨"InterlockingFrame$SheetParser", "readHead", "(LInterlockingFrame$Sheet;)Z"⟩, 6) := ⟨⟨by decide +kernel, by decide +kernel⟩, List.mem_of_getElem? (i := 28) (by decide +kernel), List.mem_of_getElem? (i := 311) (by decide +kernel), List.mem_of_getElem? (i := 312) (by decide +kernel)⟩
theorem lw_p4 : lw_okq (⟨"InterlockingFrame$SheetParser", "atText", "(Ljava/lang/String;)Z"⟩, 6) := ⟨⟨by decide +kernel, by decide +kernel⟩, List.mem_of_getElem? (i := 28) (by decide +kernel), List.mem_of_getElem? (i := 316) (by decide +kernel), List.mem_of_getElem? (i := 317) (by decide +kernel)⟩
theorem lw_p5 : lw_okq (⟨"InterlockingFrame$SheetParser", "fail", "(I)Z"⟩, 6) := ⟨⟨by decide +kernel, by decide +kernel⟩, List.mem_of_getElem? (i := 28) (by decide +kernel), List.mem_of_getElem? (i := 368) (by decide +kernel), List.mem_of_getElem? (i := 369) (by decide +kernel)⟩
theorem lw_p6 : lw_okq (⟨"InterlockingFrame$SheetParser", "numberHere", "(II)I"⟩, 6) := ⟨⟨by decide +kernel, by decide +kernel⟩, List.mem_of_getElem? (i := 28) (by decide +kernel), List.mem_of_getElem? (i := 372) (by decide +kernel), List.mem_of_getElem? (i := 373) (by decide +kernel)⟩
theorem lw_p7 : lw_okq (⟨"InterlockingFrame$SheetParser", "readSemicolon", "()Z"⟩, 6) := ⟨⟨by decide +kernel, by decide +kernel⟩, List.mem_of_getElem? (i := 28) (by decide +kernel), List.mem_of_getElem? (i := 380) (by decide +kernel), List.mem_of_getElem? (i := 381) (by decide +kernel)⟩
theorem lw_p8 : lw_okq (⟨"InterlockingFrame$SheetParser", "readStatement", "(LInterlockingFrame$Sheet;)Z"⟩, 6) := ⟨⟨by decide +kernel, by decide +kernel⟩, List.mem_of_getElem? (i := 28) (by decide +kernel), List.mem_of_getElem? (i := 385) (by decide +kernel), List.mem_of_getElem? (i := 386) (by decide +kernel)⟩
theorem lw_p9 : lw_okq (⟨"InterlockingFrame$SheetParser", "readRule", "(LInterlockingFrame$Sheet;)Z"⟩, 6) := ⟨⟨by decide +kernel, by decide +kernel⟩, List.mem_of_getElem? (i := 28) (by decide +kernel), List.mem_of_getElem? (i := 389) (by decide +kernel), List.mem_of_getElem? (i := 390) (by decide +kernel)⟩
theorem lw_p10 : lw_okq (⟨"InterlockingFrame$SheetParser", "verbHere", "()I"⟩, 6) := ⟨⟨by decide +kernel, by decide +kernel⟩, List.mem_of_getElem? (i := 28) (by decide +kernel), List.mem_of_getElem? (i := 393) (by decide +kernel), List.mem_of_getElem? (i := 394) (by decide +kernel)⟩
theorem lw_p11 : lw_okq (⟨"InterlockingFrame$SheetParser", "readCondition", "(LInterlockingFrame$Sheet;II)I"⟩, 6) := ⟨⟨by decide +kernel, by decide +kernel⟩, List.mem_of_getElem? (i := 28) (by decide +kernel), List.mem_of_getElem? (i := 401) (by decide +kernel), List.mem_of_getElem? (i := 402) (by decide +kernel)⟩
theorem lw_p12 : lw_okq (⟨"InterlockingFrame$SheetParser", "readRoute", "(LInterlockingFrame$Sheet;)Z"⟩, 6) := ⟨⟨by decide +kernel, by decide +kernel⟩, List.mem_of_getElem? (i := 28) (by decide +kernel), List.mem_of_getElem? (i := 418) (by decide +kernel), List.mem_of_getElem? (i := 419) (by decide +kernel)⟩
theorem lw_p13 : lw_okq (⟨"InterlockingFrame$SheetParser", "readConflict", "(LInterlockingFrame$Sheet;)Z"⟩, 6) := ⟨⟨by decide +kernel, by decide +kernel⟩, List.mem_of_getElem? (i := 28) (by decide +kernel), List.mem_of_getElem? (i := 427) (by decide +kernel), List.mem_of_getElem? (i := 428) (by decide +kernel)⟩
theorem lw_p14 : lw_okq (⟨"InterlockingFrame", "forgetFindings", "()V"⟩, 16) := ⟨⟨by decide +kernel, by decide +kernel⟩, List.mem_of_getElem? (i := 20) (by decide +kernel), List.mem_of_getElem? (i := 447) (by decide +kernel), List.mem_of_getElem? (i := 448) (by decide +kernel)⟩
theorem lw_p15 : lw_okq (⟨"InterlockingFrame$History", "forgetOldest", "()V"⟩, 7) := ⟨⟨by decide +kernel, by decide +kernel⟩, List.mem_of_getElem? (i := 106) (by decide +kernel), List.mem_of_getElem? (i := 555) (by decide +kernel), List.mem_of_getElem? (i := 556) (by decide +kernel)⟩
def lw_privs_1 : List (MethodName × Nat) := [(⟨"InterlockingFrame", "appendWord", "(I)V"⟩, 16), (⟨"InterlockingFrame$SheetParser", "step", "()V"⟩, 6), (⟨"InterlockingFrame$SheetParser", "byteAt", "(I)I"⟩, 6), (⟨"InterlockingFrame$SheetParser", "readHead", "(LInterlockingFrame$Sheet;)Z"⟩, 6), (⟨"InterlockingFrame$SheetParser", "atText", "(Ljava/lang/String;)Z"⟩, 6), (⟨"InterlockingFrame$SheetParser", "fail", "(I)Z"⟩, 6), (⟨"InterlockingFrame$SheetParser", "numberHere", "(II)I"⟩, 6), (⟨"InterlockingFrame$SheetParser", "readSemicolon", "()Z"⟩, 6), (⟨"InterlockingFrame$SheetParser", "readStatement", "(LInterlockingFrame$Sheet;)Z"⟩, 6), (⟨"InterlockingFrame$SheetParser", "readRule", "(LInterlockingFrame$Sheet;)Z"⟩, 6), (⟨"InterlockingFrame$SheetParser", "verbHere", "()I"⟩, 6), (⟨"InterlockingFrame$SheetParser", "readCondition", "(LInterlockingFrame$Sheet;II)I"⟩, 6), (⟨"InterlockingFrame$SheetParser", "readRoute", "(LInterlockingFrame$Sheet;)Z"⟩, 6), (⟨"InterlockingFrame$SheetParser", "readConflict", "(LInterlockingFrame$Sheet;)Z"⟩, 6), (⟨"InterlockingFrame", "forgetFindings", "()V"⟩, 16), (⟨"InterlockingFrame$History", "forgetOldest", "()V"⟩, 7)]
theorem lw_r1 : ∀ q ∈ lw_privs_1, lw_okq q := List.forall_mem_cons.mpr ⟨lw_p0, List.forall_mem_cons.mpr ⟨lw_p1, List.forall_mem_cons.mpr ⟨lw_p2, List.forall_mem_cons.mpr ⟨lw_p3, List.forall_mem_cons.mpr ⟨lw_p4, List.forall_mem_cons.mpr ⟨lw_p5, List.forall_mem_cons.mpr ⟨lw_p6, List.forall_mem_cons.mpr ⟨lw_p7, List.forall_mem_cons.mpr ⟨lw_p8, List.forall_mem_cons.mpr ⟨lw_p9, List.forall_mem_cons.mpr ⟨lw_p10, List.forall_mem_cons.mpr ⟨lw_p11, List.forall_mem_cons.mpr ⟨lw_p12, List.forall_mem_cons.mpr ⟨lw_p13, List.forall_mem_cons.mpr ⟨lw_p14, List.forall_mem_cons.mpr ⟨lw_p15, fun _ h => absurd h List.not_mem_nil⟩⟩⟩⟩⟩⟩⟩⟩⟩⟩⟩⟩⟩⟩⟩⟩
theorem lw_p16 : lw_okq (⟨"InterlockingFrame", "searchedHome", "()LInterlockingFrame$Search;"⟩, 16) := ⟨⟨by decide +kernel, by decide +kernel⟩, List.mem_of_getElem? (i := 20) (by decide +kernel), List.mem_of_getElem? (i := 615) (by decide +kernel), List.mem_of_getElem? (i := 616) (by decide +kernel)⟩
theorem lw_p17 : lw_okq (⟨"InterlockingFrame$Search", "forget", "()V"⟩, 5) := ⟨⟨by decide +kernel, by decide +kernel⟩, List.mem_of_getElem? (i := 138) (by decide +kernel), List.mem_of_getElem? (i := 656) (by decide +kernel), List.mem_of_getElem? (i := 657) (by decide +kernel)⟩
theorem lw_p18 : lw_okq (⟨"InterlockingFrame$Search", "enter", "(II)V"⟩, 5) := ⟨⟨by decide +kernel, by decide +kernel⟩, List.mem_of_getElem? (i := 138) (by decide +kernel), List.mem_of_getElem? (i := 660) (by decide +kernel), List.mem_of_getElem? (i := 661) (by decide +kernel)⟩
theorem lw_p19 : lw_okq (⟨"InterlockingFrame", "searchBetween", "(II)Z"⟩, 16) := ⟨⟨by decide +kernel, by decide +kernel⟩, List.mem_of_getElem? (i := 20) (by decide +kernel), List.mem_of_getElem? (i := 680) (by decide +kernel), List.mem_of_getElem? (i := 681) (by decide +kernel)⟩
theorem lw_p20 : lw_okq (⟨"InterlockingFrame$LockPlanner", "keepsRoutes", "(LInterlockingFrame$Sheet;LInterlockingFrame$Locking;II)Z"⟩, 4) := ⟨⟨by decide +kernel, by decide +kernel⟩, List.mem_of_getElem? (i := 182) (by decide +kernel), List.mem_of_getElem? (i := 767) (by decide +kernel), List.mem_of_getElem? (i := 768) (by decide +kernel)⟩
theorem lw_p21 : lw_okq (⟨"InterlockingFrame", "placeFreedWithout", "(I)I"⟩, 16) := ⟨⟨by decide +kernel, by decide +kernel⟩, List.mem_of_getElem? (i := 20) (by decide +kernel), List.mem_of_getElem? (i := 826) (by decide +kernel), List.mem_of_getElem? (i := 827) (by decide +kernel)⟩
theorem lw_p22 : lw_okq (⟨"InterlockingFrameModel", "usesSheet", "()V"⟩, 42) := ⟨⟨by decide +kernel, by decide +kernel⟩, List.mem_of_getElem? (i := 906) (by decide +kernel), List.mem_of_getElem? (i := 912) (by decide +kernel), List.mem_of_getElem? (i := 913) (by decide +kernel)⟩
theorem lw_p23 : lw_okq (⟨"InterlockingFrameModel", "parses", "()I"⟩, 42) := ⟨⟨by decide +kernel, by decide +kernel⟩, List.mem_of_getElem? (i := 906) (by decide +kernel), List.mem_of_getElem? (i := 1054) (by decide +kernel), List.mem_of_getElem? (i := 1055) (by decide +kernel)⟩
theorem lw_p24 : lw_okq (⟨"InterlockingFrameModel", "passes", "(II)I"⟩, 42) := ⟨⟨by decide +kernel, by decide +kernel⟩, List.mem_of_getElem? (i := 906) (by decide +kernel), List.mem_of_getElem? (i := 1058) (by decide +kernel), List.mem_of_getElem? (i := 1059) (by decide +kernel)⟩
theorem lw_p25 : lw_okq (⟨"InterlockingFrameModel", "wordHere", "()I"⟩, 42) := ⟨⟨by decide +kernel, by decide +kernel⟩, List.mem_of_getElem? (i := 906) (by decide +kernel), List.mem_of_getElem? (i := 1062) (by decide +kernel), List.mem_of_getElem? (i := 1063) (by decide +kernel)⟩
theorem lw_p26 : lw_okq (⟨"InterlockingFrameModel", "peek", "()I"⟩, 42) := ⟨⟨by decide +kernel, by decide +kernel⟩, List.mem_of_getElem? (i := 906) (by decide +kernel), List.mem_of_getElem? (i := 1066) (by decide +kernel), List.mem_of_getElem? (i := 1067) (by decide +kernel)⟩
theorem lw_p27 : lw_okq (⟨"InterlockingFrameModel", "lettersHere", "()I"⟩, 42) := ⟨⟨by decide +kernel, by decide +kernel⟩, List.mem_of_getElem? (i := 906) (by decide +kernel), List.mem_of_getElem? (i := 1072) (by decide +kernel), List.mem_of_getElem? (i := 1073) (by decide +kernel)⟩
theorem lw_p28 : lw_okq (⟨"InterlockingFrameModel", "fails", "(II)V"⟩, 42) := ⟨⟨by decide +kernel, by decide +kernel⟩, List.mem_of_getElem? (i := 906) (by decide +kernel), List.mem_of_getElem? (i := 1079) (by decide +kernel), List.mem_of_getElem? (i := 1080) (by decide +kernel)⟩
theorem lw_p29 : lw_okq (⟨"InterlockingFrameModel", "number", "(II)I"⟩, 42) := ⟨⟨by decide +kernel, by decide +kernel⟩, List.mem_of_getElem? (i := 906) (by decide +kernel), List.mem_of_getElem? (i := 1083) (by decide +kernel), List.mem_of_getElem? (i := 1084) (by decide +kernel)⟩
theorem lw_p30 : lw_okq (⟨"InterlockingFrameModel", "isDigitHere", "()Z"⟩, 42) := ⟨⟨by decide +kernel, by decide +kernel⟩, List.mem_of_getElem? (i := 906) (by decide +kernel), List.mem_of_getElem? (i := 1087) (by decide +kernel), List.mem_of_getElem? (i := 1088) (by decide +kernel)⟩
theorem lw_p31 : lw_okq (⟨"InterlockingFrameModel", "semicolon", "()V"⟩, 42) := ⟨⟨by decide +kernel, by decide +kernel⟩, List.mem_of_getElem? (i := 906) (by decide +kernel), List.mem_of_getElem? (i := 1093) (by decide +kernel), List.mem_of_getElem? (i := 1094) (by decide +kernel)⟩
def lw_privs_2 : List (MethodName × Nat) := [(⟨"InterlockingFrame", "searchedHome", "()LInterlockingFrame$Search;"⟩, 16), (⟨"InterlockingFrame$Search", "forget", "()V"⟩, 5), (⟨"InterlockingFrame$Search", "enter", "(II)V"⟩, 5), (⟨"InterlockingFrame", "searchBetween", "(II)Z"⟩, 16), (⟨"InterlockingFrame$LockPlanner", "keepsRoutes", "(LInterlockingFrame$Sheet;LInterlockingFrame$Locking;II)Z"⟩, 4), (⟨"InterlockingFrame", "placeFreedWithout", "(I)I"⟩, 16), (⟨"InterlockingFrameModel", "usesSheet", "()V"⟩, 42), (⟨"InterlockingFrameModel", "parses", "()I"⟩, 42), (⟨"InterlockingFrameModel", "passes", "(II)I"⟩, 42), (⟨"InterlockingFrameModel", "wordHere", "()I"⟩, 42), (⟨"InterlockingFrameModel", "peek", "()I"⟩, 42), (⟨"InterlockingFrameModel", "lettersHere", "()I"⟩, 42), (⟨"InterlockingFrameModel", "fails", "(II)V"⟩, 42), (⟨"InterlockingFrameModel", "number", "(II)I"⟩, 42), (⟨"InterlockingFrameModel", "isDigitHere", "()Z"⟩, 42), (⟨"InterlockingFrameModel", "semicolon", "()V"⟩, 42)]
theorem lw_r2 : ∀ q ∈ lw_privs_2, lw_okq q := List.forall_mem_cons.mpr ⟨lw_p16, List.forall_mem_cons.mpr ⟨lw_p17, List.forall_mem_cons.mpr ⟨lw_p18, List.forall_mem_cons.mpr ⟨lw_p19, List.forall_mem_cons.mpr ⟨lw_p20, List.forall_mem_cons.mpr ⟨lw_p21, List.forall_mem_cons.mpr ⟨lw_p22, List.forall_mem_cons.mpr ⟨lw_p23, List.forall_mem_cons.mpr ⟨lw_p24, List.forall_mem_cons.mpr ⟨lw_p25, List.forall_mem_cons.mpr ⟨lw_p26, List.forall_mem_cons.mpr ⟨lw_p27, List.forall_mem_cons.mpr ⟨lw_p28, List.forall_mem_cons.mpr ⟨lw_p29, List.forall_mem_cons.mpr ⟨lw_p30, List.forall_mem_cons.mpr ⟨lw_p31, fun _ h => absurd h List.not_mem_nil⟩⟩⟩⟩⟩⟩⟩⟩⟩⟩⟩⟩⟩⟩⟩⟩
theorem lw_p32 : lw_okq (⟨"InterlockingFrameModel", "line", "()V"⟩, 42) := ⟨⟨by decide +kernel, by decide +kernel⟩, List.mem_of_getElem? (i := 906) (by decide +kernel), List.mem_of_getElem? (i := 1097) (by decide +kernel), List.mem_of_getElem? (i := 1098) (by decide +kernel)⟩
theorem lw_p33 : lw_okq (⟨"InterlockingFrameModel", "ruleLine", "()V"⟩, 42) := ⟨⟨by decide +kernel, by decide +kernel⟩, List.mem_of_getElem? (i := 906) (by decide +kernel), List.mem_of_getElem? (i := 1101) (by decide +kernel), List.mem_of_getElem? (i := 1102) (by decide +kernel)⟩
theorem lw_p34 : lw_okq (⟨"InterlockingFrameModel", "lever", "()I"⟩, 42) := ⟨⟨by decide +kernel, by decide +kernel⟩, List.mem_of_getElem? (i := 906) (by decide +kernel), List.mem_of_getElem? (i := 1105) (by decide +kernel), List.mem_of_getElem? (i := 1106) (by decide +kernel)⟩
theorem lw_p35 : lw_okq (⟨"InterlockingFrameModel", "routeLine", "()V"⟩, 42) := ⟨⟨by decide +kernel, by decide +kernel⟩, List.mem_of_getElem? (i := 906) (by decide +kernel), List.mem_of_getElem? (i := 1109) (by decide +kernel), List.mem_of_getElem? (i := 1110) (by decide +kernel)⟩
theorem lw_p36 : lw_okq (⟨"InterlockingFrameModel", "conflictLine", "()V"⟩, 42) := ⟨⟨by decide +kernel, by decide +kernel⟩, List.mem_of_getElem? (i := 906) (by decide +kernel), List.mem_of_getElem? (i := 1116) (by decide +kernel), List.mem_of_getElem? (i := 1117) (by decide +kernel)⟩
theorem lw_p37 : lw_okq (⟨"InterlockingFrameModel", "isDeclared", "(II)Z"⟩, 42) := ⟨⟨by decide +kernel, by decide +kernel⟩, List.mem_of_getElem? (i := 906) (by decide +kernel), List.mem_of_getElem? (i := 1120) (by decide +kernel), List.mem_of_getElem? (i := 1121) (by decide +kernel)⟩
theorem lw_p38 : lw_okq (⟨"InterlockingFrameModel", "isRule", "(I)Z"⟩, 42) := ⟨⟨by decide +kernel, by decide +kernel⟩, List.mem_of_getElem? (i := 906) (by decide +kernel), List.mem_of_getElem? (i := 1148) (by decide +kernel), List.mem_of_getElem? (i := 1149) (by decide +kernel)⟩
theorem lw_p39 : lw_okq (⟨"InterlockingFrameModel", "isRoute", "(I)Z"⟩, 42) := ⟨⟨by decide +kernel, by decide +kernel⟩, List.mem_of_getElem? (i := 906) (by decide +kernel), List.mem_of_getElem? (i := 1168) (by decide +kernel), List.mem_of_getElem? (i := 1169) (by decide +kernel)⟩
theorem lw_p40 : lw_okq (⟨"InterlockingFrameModel", "isLever", "(I)Z"⟩, 42) := ⟨⟨by decide +kernel, by decide +kernel⟩, List.mem_of_getElem? (i := 906) (by decide +kernel), List.mem_of_getElem? (i := 1184) (by decide +kernel), List.mem_of_getElem? (i := 1185) (by decide +kernel)⟩
theorem lw_p41 : lw_okq (⟨"InterlockingFrameModel", "isFree", "(II)Z"⟩, 42) := ⟨⟨by decide +kernel, by decide +kernel⟩, List.mem_of_getElem? (i := 906) (by decide +kernel), List.mem_of_getElem? (i := 1188) (by decide +kernel), List.mem_of_getElem? (i := 1189) (by decide +kernel)⟩
theorem lw_p42 : lw_okq (⟨"InterlockingFrameModel", "blockOf", "(II)I"⟩, 42) := ⟨⟨by decide +kernel, by decide +kernel⟩, List.mem_of_getElem? (i := 906) (by decide +kernel), List.mem_of_getElem? (i := 1192) (by decide +kernel), List.mem_of_getElem? (i := 1193) (by decide +kernel)⟩
theorem lw_p43 : lw_okq (⟨"InterlockingFrameModel", "blocks", "(III)Z"⟩, 42) := ⟨⟨by decide +kernel, by decide +kernel⟩, List.mem_of_getElem? (i := 906) (by decide +kernel), List.mem_of_getElem? (i := 1196) (by decide +kernel), List.mem_of_getElem? (i := 1197) (by decide +kernel)⟩
theorem lw_p44 : lw_okq (⟨"InterlockingFrameModel", "forbids", "(II)Z"⟩, 42) := ⟨⟨by decide +kernel, by decide +kernel⟩, List.mem_of_getElem? (i := 906) (by decide +kernel), List.mem_of_getElem? (i := 1200) (by decide +kernel), List.mem_of_getElem? (i := 1201) (by decide +kernel)⟩
theorem lw_p45 : lw_okq (⟨"InterlockingFrameModel", "isActive", "(II)Z"⟩, 42) := ⟨⟨by decide +kernel, by decide +kernel⟩, List.mem_of_getElem? (i := 906) (by decide +kernel), List.mem_of_getElem? (i := 1204) (by decide +kernel), List.mem_of_getElem? (i := 1205) (by decide +kernel)⟩
theorem lw_p46 : lw_okq (⟨"InterlockingFrameModel", "remembers", "()V"⟩, 42) := ⟨⟨by decide +kernel, by decide +kernel⟩, List.mem_of_getElem? (i := 906) (by decide +kernel), List.mem_of_getElem? (i := 1208) (by decide +kernel), List.mem_of_getElem? (i := 1209) (by decide +kernel)⟩
theorem lw_p47 : lw_okq (⟨"InterlockingFrameModel", "puts", "(IIIII)V"⟩, 42) := ⟨⟨by decide +kernel, by decide +kernel⟩, List.mem_of_getElem? (i := 906) (by decide +kernel), List.mem_of_getElem? (i := 1217) (by decide +kernel), List.mem_of_getElem? (i := 1218) (by decide +kernel)⟩
def lw_privs_3 : List (MethodName × Nat) := [(⟨"InterlockingFrameModel", "line", "()V"⟩, 42), (⟨"InterlockingFrameModel", "ruleLine", "()V"⟩, 42), (⟨"InterlockingFrameModel", "lever", "()I"⟩, 42), (⟨"InterlockingFrameModel", "routeLine", "()V"⟩, 42), (⟨"InterlockingFrameModel", "conflictLine", "()V"⟩, 42), (⟨"InterlockingFrameModel", "isDeclared", "(II)Z"⟩, 42), (⟨"InterlockingFrameModel", "isRule", "(I)Z"⟩, 42), (⟨"InterlockingFrameModel", "isRoute", "(I)Z"⟩, 42), (⟨"InterlockingFrameModel", "isLever", "(I)Z"⟩, 42), (⟨"InterlockingFrameModel", "isFree", "(II)Z"⟩, 42), (⟨"InterlockingFrameModel", "blockOf", "(II)I"⟩, 42), (⟨"InterlockingFrameModel", "blocks", "(III)Z"⟩, 42), (⟨"InterlockingFrameModel", "forbids", "(II)Z"⟩, 42), (⟨"InterlockingFrameModel", "isActive", "(II)Z"⟩, 42), (⟨"InterlockingFrameModel", "remembers", "()V"⟩, 42), (⟨"InterlockingFrameModel", "puts", "(IIIII)V"⟩, 42)]
theorem lw_r3 : ∀ q ∈ lw_privs_3, lw_okq q := List.forall_mem_cons.mpr ⟨lw_p32, List.forall_mem_cons.mpr ⟨lw_p33, List.forall_mem_cons.mpr ⟨lw_p34, List.forall_mem_cons.mpr ⟨lw_p35, List.forall_mem_cons.mpr ⟨lw_p36, List.forall_mem_cons.mpr ⟨lw_p37, List.forall_mem_cons.mpr ⟨lw_p38, List.forall_mem_cons.mpr ⟨lw_p39, List.forall_mem_cons.mpr ⟨lw_p40, List.forall_mem_cons.mpr ⟨lw_p41, List.forall_mem_cons.mpr ⟨lw_p42, List.forall_mem_cons.mpr ⟨lw_p43, List.forall_mem_cons.mpr ⟨lw_p44, List.forall_mem_cons.mpr ⟨lw_p45, List.forall_mem_cons.mpr ⟨lw_p46, List.forall_mem_cons.mpr ⟨lw_p47, fun _ h => absurd h List.not_mem_nil⟩⟩⟩⟩⟩⟩⟩⟩⟩⟩⟩⟩⟩⟩⟩⟩
theorem lw_p48 : lw_okq (⟨"InterlockingFrameModel", "isState", "(I)Z"⟩, 42) := ⟨⟨by decide +kernel, by decide +kernel⟩, List.mem_of_getElem? (i := 906) (by decide +kernel), List.mem_of_getElem? (i := 1233) (by decide +kernel), List.mem_of_getElem? (i := 1234) (by decide +kernel)⟩
theorem lw_p49 : lw_okq (⟨"InterlockingFrameModel", "laysFrom", "(I)V"⟩, 42) := ⟨⟨by decide +kernel, by decide +kernel⟩, List.mem_of_getElem? (i := 906) (by decide +kernel), List.mem_of_getElem? (i := 1249) (by decide +kernel), List.mem_of_getElem? (i := 1250) (by decide +kernel)⟩
theorem lw_p50 : lw_okq (⟨"InterlockingFrameModel", "clears", "()V"⟩, 42) := ⟨⟨by decide +kernel, by decide +kernel⟩, List.mem_of_getElem? (i := 906) (by decide +kernel), List.mem_of_getElem? (i := 1253) (by decide +kernel), List.mem_of_getElem? (i := 1254) (by decide +kernel)⟩
theorem lw_p51 : lw_okq (⟨"InterlockingFrameModel", "reaches", "(II)V"⟩, 42) := ⟨⟨by decide +kernel, by decide +kernel⟩, List.mem_of_getElem? (i := 906) (by decide +kernel), List.mem_of_getElem? (i := 1257) (by decide +kernel), List.mem_of_getElem? (i := 1258) (by decide +kernel)⟩
theorem lw_p52 : lw_okq (⟨"InterlockingFrameModel", "spreads", "()V"⟩, 42) := ⟨⟨by decide +kernel, by decide +kernel⟩, List.mem_of_getElem? (i := 906) (by decide +kernel), List.mem_of_getElem? (i := 1261) (by decide +kernel), List.mem_of_getElem? (i := 1262) (by decide +kernel)⟩
theorem lw_p53 : lw_okq (⟨"InterlockingFrameModel", "areReachable", "(II)Z"⟩, 42) := ⟨⟨by decide +kernel, by decide +kernel⟩, List.mem_of_getElem? (i := 906) (by decide +kernel), List.mem_of_getElem? (i := 1269) (by decide +kernel), List.mem_of_getElem? (i := 1270) (by decide +kernel)⟩
theorem lw_p54 : lw_okq (⟨"InterlockingFrameModel", "settingOf", "(I)I"⟩, 42) := ⟨⟨by decide +kernel, by decide +kernel⟩, List.mem_of_getElem? (i := 906) (by decide +kernel), List.mem_of_getElem? (i := 1285) (by decide +kernel), List.mem_of_getElem? (i := 1286) (by decide +kernel)⟩
theorem lw_p55 : lw_okq (⟨"InterlockingFrameModel", "sets", "(II)Z"⟩, 42) := ⟨⟨by decide +kernel, by decide +kernel⟩, List.mem_of_getElem? (i := 906) (by decide +kernel), List.mem_of_getElem? (i := 1289) (by decide +kernel), List.mem_of_getElem? (i := 1290) (by decide +kernel)⟩
theorem lw_p56 : lw_okq (⟨"InterlockingFrameModel", "joint", "(II)I"⟩, 42) := ⟨⟨by decide +kernel, by decide +kernel⟩, List.mem_of_getElem? (i := 906) (by decide +kernel), List.mem_of_getElem? (i := 1301) (by decide +kernel), List.mem_of_getElem? (i := 1302) (by decide +kernel)⟩
theorem lw_p57 : lw_okq (⟨"InterlockingFrameModel", "unprotected", "()I"⟩, 42) := ⟨⟨by decide +kernel, by decide +kernel⟩, List.mem_of_getElem? (i := 906) (by decide +kernel), List.mem_of_getElem? (i := 1309) (by decide +kernel), List.mem_of_getElem? (i := 1310) (by decide +kernel)⟩
theorem lw_p58 : lw_okq (⟨"InterlockingFrameModel", "lockFor", "(I)I"⟩, 42) := ⟨⟨by decide +kernel, by decide +kernel⟩, List.mem_of_getElem? (i := 906) (by decide +kernel), List.mem_of_getElem? (i := 1317) (by decide +kernel), List.mem_of_getElem? (i := 1318) (by decide +kernel)⟩
theorem lw_p59 : lw_okq (⟨"InterlockingFrameModel", "settable", "()I"⟩, 42) := ⟨⟨by decide +kernel, by decide +kernel⟩, List.mem_of_getElem? (i := 906) (by decide +kernel), List.mem_of_getElem? (i := 1321) (by decide +kernel), List.mem_of_getElem? (i := 1322) (by decide +kernel)⟩
theorem lw_p60 : lw_okq (⟨"InterlockingFrameModel", "completes", "()Z"⟩, 42) := ⟨⟨by decide +kernel, by decide +kernel⟩, List.mem_of_getElem? (i := 906) (by decide +kernel), List.mem_of_getElem? (i := 1329) (by decide +kernel), List.mem_of_getElem? (i := 1330) (by decide +kernel)⟩
theorem lw_p61 : lw_okq (⟨"InterlockingFrameModel", "isImpliedBy", "(I)Z"⟩, 42) := ⟨⟨by decide +kernel, by decide +kernel⟩, List.mem_of_getElem? (i := 906) (by decide +kernel), List.mem_of_getElem? (i := 1352) (by decide +kernel), List.mem_of_getElem? (i := 1353) (by decide +kernel)⟩
theorem lw_p62 : lw_okq (⟨"InterlockingFrameModel", "tellingLever", "(II)I"⟩, 42) := ⟨⟨by decide +kernel, by decide +kernel⟩, List.mem_of_getElem? (i := 906) (by decide +kernel), List.mem_of_getElem? (i := 1356) (by decide +kernel), List.mem_of_getElem? (i := 1357) (by decide +kernel)⟩
theorem lw_p63 : lw_okq (⟨"InterlockingFrameModel", "isTold", "(III)Z"⟩, 42) := ⟨⟨by decide +kernel, by decide +kernel⟩, List.mem_of_getElem? (i := 906) (by decide +kernel), List.mem_of_getElem? (i := 1360) (by decide +kernel), List.mem_of_getElem? (i := 1361) (by decide +kernel)⟩
def lw_privs_4 : List (MethodName × Nat) := [(⟨"InterlockingFrameModel", "isState", "(I)Z"⟩, 42), (⟨"InterlockingFrameModel", "laysFrom", "(I)V"⟩, 42), (⟨"InterlockingFrameModel", "clears", "()V"⟩, 42), (⟨"InterlockingFrameModel", "reaches", "(II)V"⟩, 42), (⟨"InterlockingFrameModel", "spreads", "()V"⟩, 42), (⟨"InterlockingFrameModel", "areReachable", "(II)Z"⟩, 42), (⟨"InterlockingFrameModel", "settingOf", "(I)I"⟩, 42), (⟨"InterlockingFrameModel", "sets", "(II)Z"⟩, 42), (⟨"InterlockingFrameModel", "joint", "(II)I"⟩, 42), (⟨"InterlockingFrameModel", "unprotected", "()I"⟩, 42), (⟨"InterlockingFrameModel", "lockFor", "(I)I"⟩, 42), (⟨"InterlockingFrameModel", "settable", "()I"⟩, 42), (⟨"InterlockingFrameModel", "completes", "()Z"⟩, 42), (⟨"InterlockingFrameModel", "isImpliedBy", "(I)Z"⟩, 42), (⟨"InterlockingFrameModel", "tellingLever", "(II)I"⟩, 42), (⟨"InterlockingFrameModel", "isTold", "(III)Z"⟩, 42)]
theorem lw_r4 : ∀ q ∈ lw_privs_4, lw_okq q := List.forall_mem_cons.mpr ⟨lw_p48, List.forall_mem_cons.mpr ⟨lw_p49, List.forall_mem_cons.mpr ⟨lw_p50, List.forall_mem_cons.mpr ⟨lw_p51, List.forall_mem_cons.mpr ⟨lw_p52, List.forall_mem_cons.mpr ⟨lw_p53, List.forall_mem_cons.mpr ⟨lw_p54, List.forall_mem_cons.mpr ⟨lw_p55, List.forall_mem_cons.mpr ⟨lw_p56, List.forall_mem_cons.mpr ⟨lw_p57, List.forall_mem_cons.mpr ⟨lw_p58, List.forall_mem_cons.mpr ⟨lw_p59, List.forall_mem_cons.mpr ⟨lw_p60, List.forall_mem_cons.mpr ⟨lw_p61, List.forall_mem_cons.mpr ⟨lw_p62, List.forall_mem_cons.mpr ⟨lw_p63, fun _ h => absurd h List.not_mem_nil⟩⟩⟩⟩⟩⟩⟩⟩⟩⟩⟩⟩⟩⟩⟩⟩
theorem lw_p64 : lw_okq (⟨"InterlockingFrameModel", "laysTest", "(I)V"⟩, 42) := ⟨⟨by decide +kernel, by decide +kernel⟩, List.mem_of_getElem? (i := 906) (by decide +kernel), List.mem_of_getElem? (i := 1372) (by decide +kernel), List.mem_of_getElem? (i := 1373) (by decide +kernel)⟩
theorem lw_p65 : lw_okq (⟨"InterlockingFrameModel", "nearer", "(I)I"⟩, 42) := ⟨⟨by decide +kernel, by decide +kernel⟩, List.mem_of_getElem? (i := 906) (by decide +kernel), List.mem_of_getElem? (i := 1380) (by decide +kernel), List.mem_of_getElem? (i := 1381) (by decide +kernel)⟩
theorem lw_p66 : lw_okq (⟨"InterlockingFrameModel", "laysDue", "()V"⟩, 42) := ⟨⟨by decide +kernel, by decide +kernel⟩, List.mem_of_getElem? (i := 906) (by decide +kernel), List.mem_of_getElem? (i := 1388) (by decide +kernel), List.mem_of_getElem? (i := 1389) (by decide +kernel)⟩
theorem lw_p67 : lw_okq (⟨"InterlockingFrameModel", "lower", "(II)I"⟩, 42) := ⟨⟨by decide +kernel, by decide +kernel⟩, List.mem_of_getElem? (i := 906) (by decide +kernel), List.mem_of_getElem? (i := 1392) (by decide +kernel), List.mem_of_getElem? (i := 1393) (by decide +kernel)⟩
theorem lw_p68 : lw_okq (⟨"InterlockingFrameModel", "higher", "(II)I"⟩, 42) := ⟨⟨by decide +kernel, by decide +kernel⟩, List.mem_of_getElem? (i := 906) (by decide +kernel), List.mem_of_getElem? (i := 1396) (by decide +kernel), List.mem_of_getElem? (i := 1397) (by decide +kernel)⟩
theorem lw_p69 : lw_okq (⟨"InterlockingFrameModel", "merges", "(II)V"⟩, 42) := ⟨⟨by decide +kernel, by decide +kernel⟩, List.mem_of_getElem? (i := 906) (by decide +kernel), List.mem_of_getElem? (i := 1400) (by decide +kernel), List.mem_of_getElem? (i := 1401) (by decide +kernel)⟩
theorem lw_p70 : lw_okq (⟨"InterlockingFrameModel", "isDue", "()Z"⟩, 42) := ⟨⟨by decide +kernel, by decide +kernel⟩, List.mem_of_getElem? (i := 906) (by decide +kernel), List.mem_of_getElem? (i := 1407) (by decide +kernel), List.mem_of_getElem? (i := 1408) (by decide +kernel)⟩
theorem lw_p71 : lw_okq (⟨"InterlockingFrameModel", "mergesOne", "()Z"⟩, 42) := ⟨⟨by decide +kernel, by decide +kernel⟩, List.mem_of_getElem? (i := 906) (by decide +kernel), List.mem_of_getElem? (i := 1419) (by decide +kernel), List.mem_of_getElem? (i := 1420) (by decide +kernel)⟩
theorem lw_p72 : lw_okq (⟨"InterlockingFrameModel", "copies", "(Z)V"⟩, 42) := ⟨⟨by decide +kernel, by decide +kernel⟩, List.mem_of_getElem? (i := 906) (by decide +kernel), List.mem_of_getElem? (i := 1423) (by decide +kernel), List.mem_of_getElem? (i := 1424) (by decide +kernel)⟩
def lw_privs_5 : List (MethodName × Nat) := [(⟨"InterlockingFrameModel", "laysTest", "(I)V"⟩, 42), (⟨"InterlockingFrameModel", "nearer", "(I)I"⟩, 42), (⟨"InterlockingFrameModel", "laysDue", "()V"⟩, 42), (⟨"InterlockingFrameModel", "lower", "(II)I"⟩, 42), (⟨"InterlockingFrameModel", "higher", "(II)I"⟩, 42), (⟨"InterlockingFrameModel", "merges", "(II)V"⟩, 42), (⟨"InterlockingFrameModel", "isDue", "()Z"⟩, 42), (⟨"InterlockingFrameModel", "mergesOne", "()Z"⟩, 42), (⟨"InterlockingFrameModel", "copies", "(Z)V"⟩, 42)]
theorem lw_r5 : ∀ q ∈ lw_privs_5, lw_okq q := List.forall_mem_cons.mpr ⟨lw_p64, List.forall_mem_cons.mpr ⟨lw_p65, List.forall_mem_cons.mpr ⟨lw_p66, List.forall_mem_cons.mpr ⟨lw_p67, List.forall_mem_cons.mpr ⟨lw_p68, List.forall_mem_cons.mpr ⟨lw_p69, List.forall_mem_cons.mpr ⟨lw_p70, List.forall_mem_cons.mpr ⟨lw_p71, List.forall_mem_cons.mpr ⟨lw_p72, fun _ h => absurd h List.not_mem_nil⟩⟩⟩⟩⟩⟩⟩⟩⟩
def lw_privs : List (MethodName × Nat) := lw_privs_1 ++ (lw_privs_2 ++ (lw_privs_3 ++ (lw_privs_4 ++ (lw_privs_5))))
def lw_tbl : List Cond := k2_sels lw_privs ++ tables_1
theorem lw_privs_ok : ∀ q ∈ lw_privs, lw_okq q := by
  show ∀ q ∈ lw_privs_1 ++ (lw_privs_2 ++ (lw_privs_3 ++ (lw_privs_4 ++ (lw_privs_5)))), lw_okq q
  exact List.forall_mem_append.mpr ⟨lw_r1, List.forall_mem_append.mpr ⟨lw_r2, List.forall_mem_append.mpr ⟨lw_r3, List.forall_mem_append.mpr ⟨lw_r4, lw_r5⟩⟩⟩⟩
def R_law : String := "InterlockingFrameLaw"
end
section
/-! the abstract heap: ints and longs by cell and place; a layout: cells, slots, shapes (0 ints, 1 longs, t+2 an object of class t; length), references -/
abbrev ja_S : Type := (Nat → Nat → Int32) × (Nat → Nat → Int64)
abbrev ja_L : Type := Nat × Nat × (Nat → Nat × Nat) × (Nat → Nat → Option Nat)
abbrev ja_Z : Type := Option Value × ja_L × ja_S
def ja_cv (ad : Nat → Nat) (v : Value) : Value := match v with
  | .ref k => .ref (ad k)
  | w => w
def ja_cl (ad : Nat → Nat) (l : List (Nat × Value)) : List (Nat × Value) := l.map (fun q => (q.1, ja_cv ad q.2))
/-- which fields of a class are references -/
def ja_kd (t : Nat) : List Bool := match t with
  | 0 => [false, false, false, false, true, true, true]
  | 1 => [true, true, true, false]
  | 2 => [true, true]
  | 3 => [true, true, true, false, false]
  | 4 => [true, false, false, true, true]
  | 5 => [false, false, true, false, true, false, true, true, false]
  | 6 => [false, false, true, false, false, false]
  | 7 => [true, false, true, true, true, true, false, true, false, true, true, false, false, true, false, false]
  | _ => [false, false, false, true, true, true, true, true, false, false, true, false, false, false, false, false, false, false, false, false, false, true, true, true, true, true, true, false, false, false, true, true, false, true, false, true, false, false, false, true, true, false]
def ja_fl (Λ : ja_L) (σ : ja_S) (ad : Nat → Nat) (k t : Nat) : List Value := (List.range (ja_kd t).length).map (fun j => if (ja_kd t).getD j false = true then va_rf ((Λ.2.2.2 k j).map ad) else .int (σ.1 k j))
def ja_ce (cI cJ : ClassId) (Λ : ja_L) (σ : ja_S) (ad : Nat → Nat) (k : Nat) : va_E := match Λ.2.2.1 k with
  | (0, n) => .inl (cI, n, .inl (σ.1 k))
  | (1, n) => .inl (cJ, n, .inr (.inl (σ.2 k)))
  | (t + 2, _) => .inr (t, ja_fl Λ σ ad k t)
def ja_wl (cI cJ : ClassId) (Λ : ja_L) (σ : ja_S) (ad : Nat → Nat) : va_W := (List.range Λ.1).map (fun k => (ad k, ja_ce cI cJ Λ σ ad k))
theorem ja_wl_at {cI cJ : ClassId} {Λ : ja_L} {σ : ja_S} {ad : Nat → Nat} {k : Nat} (h : k < Λ.1) : (ja_wl cI cJ Λ σ ad)[k]? = some (ad k, ja_ce cI cJ Λ σ ad k) := by
  simp [ja_wl, h]
theorem ja_wl_set {cI cJ : ClassId} {Λ Λ' : ja_L} {σ σ' : ja_S} {ad : Nat → Nat} {k : Nat} {e : va_E} (hn : Λ'.1 = Λ.1) (he : ja_ce cI cJ Λ' σ' ad k = e) (ho : ∀ j, j ≠ k → ja_ce cI cJ Λ' σ' ad j = ja_ce cI cJ Λ σ ad j) : (ja_wl cI cJ Λ σ ad).set k (ad k, e) = ja_wl cI cJ Λ' σ' ad := by
  apply List.ext_getElem?
  intro i
  by_cases hi : i < Λ.1
  · rw [ja_wl_at (by omega)]
    by_cases hk : k = i
    · subst hk
      rw [List.getElem?_set_self (by simp [ja_wl, hi]), he]
    · rw [List.getElem?_set_ne hk, ja_wl_at hi, ho i (Ne.symm hk)]
  · rw [List.getElem?_eq_none (by simp [ja_wl]; omega), List.getElem?_eq_none (by simp [ja_wl]; omega)]
theorem ja_wl_push {cI cJ : ClassId} {Λ Λ' : ja_L} {σ σ' : ja_S} {ad ad' : Nat → Nat} {q : Nat} {e : va_E} (hn : Λ'.1 = Λ.1 + 1) (hq : ad' Λ.1 = q) (he : ja_ce cI cJ Λ' σ' ad' Λ.1 = e) (ha : ∀ j, j < Λ.1 → ad' j = ad j) (ho : ∀ j, j < Λ.1 → ja_ce cI cJ Λ' σ' ad' j = ja_ce cI cJ Λ σ ad j) : ja_wl cI cJ Λ σ ad ++ [(q, e)] = ja_wl cI cJ Λ' σ' ad' := by
  unfold ja_wl
  rw [hn, List.range_succ, List.map_append, List.map_singleton, hq, he]
  congr 1
  apply List.map_congr_left
  intro j hj
  have hj' : j < Λ.1 := List.mem_range.mp hj
  rw [ha j hj', ho j hj']
def ja_si (σ : ja_S) (k j : Nat) (v : Int32) : ja_S := (va_up σ.1 k (upd (σ.1 k) j v), σ.2)
def ja_sl (σ : ja_S) (k j : Nat) (v : Int64) : ja_S := (σ.1, va_up σ.2 k (vp_updL (σ.2 k) j v))
theorem ja_ce_i {cI cJ : ClassId} {Λ : ja_L} {σ : ja_S} {ad : Nat → Nat} {k : Nat} (h : (Λ.2.2.1 k).1 = 0) : ja_ce cI cJ Λ σ ad k = .inl (cI, (Λ.2.2.1 k).2, .inl (σ.1 k)) := by
  unfold ja_ce
  generalize Λ.2.2.1 k = q at h ⊢
  obtain ⟨a, b⟩ := q
  cases h
  rfl
theorem ja_ce_l {cI cJ : ClassId} {Λ : ja_L} {σ : ja_S} {ad : Nat → Nat} {k : Nat} (h : (Λ.2.2.1 k).1 = 1) : ja_ce cI cJ Λ σ ad k = .inl (cJ, (Λ.2.2.1 k).2, .inr (.inl (σ.2 k))) := by
  unfold ja_ce
  generalize Λ.2.2.1 k = q at h ⊢
  obtain ⟨a, b⟩ := q
  cases h
  rfl
theorem ja_ce_o {cI cJ : ClassId} {Λ : ja_L} {σ : ja_S} {ad : Nat → Nat} {k t : Nat} (h : (Λ.2.2.1 k).1 = t + 2) : ja_ce cI cJ Λ σ ad k = .inr (t, ja_fl Λ σ ad k t) := by
  unfold ja_ce
  generalize Λ.2.2.1 k = q at h ⊢
  obtain ⟨a, b⟩ := q
  cases h
  rfl
theorem ja_fl_at {Λ : ja_L} {σ : ja_S} {ad : Nat → Nat} {k t j : Nat} (h : j < (ja_kd t).length) : (ja_fl Λ σ ad k t)[j]? = some (if (ja_kd t).getD j false = true then va_rf ((Λ.2.2.2 k j).map ad) else .int (σ.1 k j)) := by
  simp [ja_fl, h]
theorem ja_fl_len {Λ : ja_L} {σ : ja_S} {ad : Nat → Nat} {k t : Nat} : (ja_fl Λ σ ad k t).length = (ja_kd t).length := by simp [ja_fl]
theorem ja_fl_set {Λ Λ' : ja_L} {σ σ' : ja_S} {ad : Nat → Nat} {k t j : Nat} {v : Value} (hv : (if (ja_kd t).getD j false = true then va_rf ((Λ'.2.2.2 k j).map ad) else .int (σ'.1 k j)) = v) (ho : ∀ i, i ≠ j → Λ'.2.2.2 k i = Λ.2.2.2 k i ∧ σ'.1 k i = σ.1 k i) : (ja_fl Λ σ ad k t).set j v = ja_fl Λ' σ' ad k t := by
  apply List.ext_getElem?
  intro i
  by_cases hi : i < (ja_kd t).length
  · rw [ja_fl_at hi]
    by_cases hk : j = i
    · subst hk
      rw [List.getElem?_set_self (by rw [ja_fl_len]; exact hi), hv]
    · rw [List.getElem?_set_ne hk, ja_fl_at hi, (ho i (Ne.symm hk)).1, (ho i (Ne.symm hk)).2]
  · rw [List.getElem?_eq_none (by rw [List.length_set, ja_fl_len]; omega), List.getElem?_eq_none (by rw [ja_fl_len]; omega)]
theorem ja_cat (ad : Nat → Nat) (v : Value) : (ja_cv ad v).category = v.category := by cases v <;> rfl
theorem ja_cats (ad : Nat → Nat) (st : List Value) : ((st.map (ja_cv ad)).map fun v => v.category).sum = (st.map fun v => v.category).sum := by
  induction st with
  | nil => rfl
  | cons a l ih => simp only [List.map_cons, List.sum_cons, ja_cat, ih]
theorem ja_cl_f1 (ad : Nat → Nat) (l : List (Nat × Value)) (i : Nat) : (ja_cl ad l).filter (fun q => !(q.1 == i) && !(q.1 + 1 == i && q.2.category == 2)) = ja_cl ad (l.filter (fun q => !(q.1 == i) && !(q.1 + 1 == i && q.2.category == 2))) := by
  unfold ja_cl
  rw [List.filter_map]
  congr 1
  apply List.filter_congr
  intro q _
  simp [ja_cat]
theorem ja_cl_f2 (ad : Nat → Nat) (l : List (Nat × Value)) (i : Nat) : (ja_cl ad l).filter (fun q => !(q.1 == i) && (!(q.1 == i + 1) && !(q.1 + 1 == i && q.2.category == 2))) = ja_cl ad (l.filter (fun q => !(q.1 == i) && (!(q.1 == i + 1) && !(q.1 + 1 == i && q.2.category == 2)))) := by
  unfold ja_cl
  rw [List.filter_map]
  congr 1
  apply List.filter_congr
  intro q _
  simp [ja_cat]
theorem ja_cl_at {ad : Nat → Nat} {l : List (Nat × Value)} {k i : Nat} {v : Value} (h : l[k]? = some (i, v)) : (ja_cl ad l)[k]? = some (i, ja_cv ad v) := by
  simp [ja_cl, h]
end
