section
-- ===== PART A: goes FIRST, ahead of the names: the tables' words, and 'selects' of the private methods out of them =====
/-- a private method of a class that the tables say can be made, by its rows of tables_1 -/
def lw_okq (q : MethodName × Nat) : Prop := (q.1.cls ≠ "java/lang/invoke/MethodHandle" ∧ q.1.cls ≠ "java/lang/invoke/VarHandle") ∧ Cond.instantiable q.1.cls q.2 ∈ tables_1 ∧ Cond.privateMethod q.1 ∈ tables_1 ∧ Cond.instanceMethod q.1 ∈ tables_1
theorem lw_p0 : lw_okq (⟨"InterlockingFrame", "appendWord", "(I)V"⟩, 16) := ⟨⟨by decide +kernel, by decide +kernel⟩, List.mem_of_getElem? (i := 20) (by decide +kernel), List.mem_of_getElem? (i := 282) (by decide +kernel), List.mem_of_getElem? (i := 283) (by decide +kernel)⟩
theorem lw_p1 : lw_okq (⟨"InterlockingFrame$SheetParser", "step", "()V"⟩, 6) := ⟨⟨by decide +kernel, by decide +kernel⟩, List.mem_of_getElem? (i := 28) (by decide +kernel), List.mem_of_getElem? (i := 297) (by decide +kernel), List.mem_of_getElem? (i := 298) (by decide +kernel)⟩
theorem lw_p2 : lw_okq (⟨"InterlockingFrame$SheetParser", "byteAt", "(I)I"⟩, 6) := ⟨⟨by decide +kernel, by decide +kernel⟩, List.mem_of_getElem? (i := 28) (by decide +kernel), List.mem_of_getElem? (i := 301) (by decide +kernel), List.mem_of_getElem? (i := 302) (by decide +kernel)⟩
theorem lw_p3 : lw_okq (⟨"InterlockingFrame$SheetParser", "readHead", "(LInterlockingFrame$Sheet;)Z"⟩, 6) := ⟨⟨by decide +kernel, by decide +kernel⟩, List.mem_of_getElem? (i := 28) (by decide +kernel), List.mem_of_getElem? (i := 311) (by decide +kernel), List.mem_of_getElem? (i := 312) (by decide +kernel)⟩
theorem lw_p4 : lw_okq (⟨"InterlockingFrame$SheetParser", "atText", "(Ljava/lang/String;)Z"⟩, 6) := ⟨⟨by decide +kernel, by decide +kernel⟩, List.mem_of_getElem? (i := 28) (by decide +kernel), List.mem_of_getElem? (i := 316) (by decide +kernel), List.mem_of_getElem? (i := 317) (by decide +kernel)⟩
theorem lw_p5 : lw_okq (⟨"InterlockingFrame$SheetParser", "fail", "(I)Z"⟩, 6) := ⟨⟨by decide +kernel, by decide +kernel⟩, List.mem_of_getElem? (i := 28) (by decide +kernel), List.mem_of_getElem? (i := 368) (by decide +kernel), List.mem_of_getElem? (i := 369) (by decide +kernel)⟩
theorem lw_p6 : lw_okq (⟨"InterlockingFrame$SheetParser", "numberHere", "(II)I"⟩, 6) := ⟨⟨by decide +kernel, by decide +kernel⟩, List.mem_of_getElem? (i := 28) (by decide +kernel), List.mem_of_getElem? (i := 372) (by decide +kernel), List.mem_of_getElem? (i := 373) (by decide +kernel)⟩
theorem lw_p7 : lw_okq (⟨"InterlockingFrame$SheetParser", "readSemicolon", "()Z"⟩, 6) := ⟨⟨by decide +kernel, by decide +kernel⟩, List.mem_of_getElem? (i := 28) (by decide +kernel), List.mem_of_getElem? (i := 380) (by decide +kernel), List.mem_of_getElem? (i := 381) (by decide +kernel)⟩
theorem lw_p8 : lw_okq (⟨"InterlockingFrame$SheetParser", "readStatement", "(LInterlockingFrame$Sheet;)Z"⟩, 6) := ⟨⟨by decide +kernel, by decide +kernel⟩, List.mem_of_getElem? (i := 28) (by decide +kernel), List.mem_of_getElem? (i := 385) (by decide +kernel), List.mem_of_getElem? (i := 386) (by decide +kernel)⟩
theorem lw_p9 : lw_okq (⟨"InterlockingFrame$SheetParser", "readRule", "(LInterlockingFrame$Sheet;)Z"⟩, 6) := ⟨⟨by decide +kernel, by decide +kernel⟩, List.mem_of_getElem? (i := 28) (by decide +kernel), List.mem_of_getElem? (i := 389) (by decide +kernel), List.mem_of_getElem? (i := 390) (by decide +kernel)⟩
theorem lw_p10 : lw_okq (⟨"InterlockingFrame$SheetParser", "verbHere", "()I"⟩, 6) := ⟨⟨by decide +kernel, by decide +kernel⟩, List.mem_of_getElem? (i := 28) (by decide +kernel), List.mem_of_getElem? (i := 393) (by decide +kernel), List.mem_of_getElem? (i := 394) (by decide +kernel)⟩
theorem lw_p11 : lw_okq (⟨"InterlockingFrame$SheetParser", "readCondition", "(LInterlockingFrame$Sheet;II)I"⟩, 6) := ⟨⟨by decide +kernel, by decide +kernel⟩, List.mem_of_getElem? (i := 28) (by decide +kernel), List.mem_of_getElem? (i := 401) (by decide +kernel), List.mem_of_getElem? (i := 402) (by decide +kernel)⟩
theorem lw_p12 : lw_okq (⟨"InterlockingFrame$SheetParser", "readRoute", "(LInterlockingFrame$Sheet;)Z"⟩, 6) := ⟨⟨by decide +kernel, by decide +kernel⟩, List.mem_of_getElem? (i := 28) (by decide +kernel), List.mem_of_getElem? (i := 418) (by decide +kernel), List.mem_of_getElem? (i := 419) (by decide +kernel)⟩
theorem lw_p13 : lw_okq (⟨"InterlockingFrame$SheetParser", "readConflict", "(LInterlockingFrame$Sheet;)Z"⟩, 6) := ⟨⟨by decide +kernel, by decide +kernel⟩, List.mem_of_getElem? (i := 28) (by decide +kernel), List.mem_of_getElem? (i := 427) (by decide +kernel), List.mem_of_getElem? (i := 428) (by decide +kernel)⟩
theorem lw_p14 : lw_okq (⟨"InterlockingFrame", "forgetFindings", "()V"⟩, 16) := ⟨⟨by decide +kernel, by decide +kernel⟩, List.mem_of_getElem? (i := 20) (by decide +kernel), List.mem_of_getElem? (i := 447) (by decide +kernel), List.mem_of_getElem? (i := 448) (by decide +kernel)⟩
theorem lw_p15 : lw_okq (⟨"InterlockingFrame$History", "forgetOldest", "()V"⟩, 7) := ⟨⟨by decide +kernel, by decide +kernel⟩, List.mem_of_getElem? (i := 106) (by decide +kernel), List.mem_of_getElem? (i := 555) (by decide +kernel), List.mem_of_getElem? (i := 556) (by decide +kernel)⟩
def lw_privs_1 : List (MethodName × Nat) := [(⟨"InterlockingFrame", "appendWord", "(I)V"⟩, 16), (⟨"InterlockingFrame$SheetParser", "step", "()V"⟩, 6), (⟨"InterlockingFrame$SheetParser", "byteAt", "(I)I"⟩, 6), (⟨"InterlockingFrame$SheetParser", "readHead", "(LInterlockingFrame$Sheet;)Z"⟩, 6), (⟨"InterlockingFrame$SheetParser", "atText", "(Ljava/lang/String;)Z"⟩, 6), (⟨"InterlockingFrame$SheetParser", "fail", "(I)Z"⟩, 6), (⟨"InterlockingFrame$SheetParser", "numberHere", "(II)I"⟩, 6), (⟨"InterlockingFrame$SheetParser", "readSemicolon", "()Z"⟩, 6), (⟨"InterlockingFrame$SheetParser", "readStatement", "(LInterlockingFrame$Sheet;)Z"⟩, 6), (⟨"InterlockingFrame$SheetParser", "readRule", "(LInterlockingFrame$Sheet;)Z"⟩, 6), (⟨"InterlockingFrame$SheetParser", "verbHere", "()I"⟩, 6), (⟨"InterlockingFrame$SheetParser", "readCondition", "(LInterlockingFrame$Sheet;II)I"⟩, 6), (⟨"InterlockingFrame$SheetParser", "readRoute", "(LInterlockingFrame$Sheet;)Z"⟩, 6), (⟨"InterlockingFrame$SheetParser", "readConflict", "(LInterlockingFrame$Sheet;)Z"⟩, 6), (⟨"InterlockingFrame", "forgetFindings", "()V"⟩, 16), (⟨"InterlockingFrame$History", "forgetOldest", "()V"⟩, 7)]
theorem lw_r1 : ∀ q ∈ lw_privs_1, lw_okq q := List.forall_mem_cons.mpr ⟨lw_p0, List.forall_mem_cons.mpr ⟨lw_p1, List.forall_mem_cons.mpr ⟨lw_p2, List.forall_mem_cons.mpr ⟨lw_p3, List.forall_mem_cons.mpr ⟨lw_p4, List.forall_mem_cons.mpr ⟨lw_p5, List.forall_mem_cons.mpr ⟨lw_p6, List.forall_mem_cons.mpr ⟨lw_p7, List.forall_mem_cons.mpr ⟨lw_p8, List.forall_mem_cons.mpr ⟨lw_p9, List.forall_mem_cons.mpr ⟨lw_p10, List.forall_mem_cons.mpr ⟨lw_p11, List.forall_mem_cons.mpr ⟨lw_p12, List.forall_mem_cons.mpr ⟨lw_p13, List.forall_mem_cons.mpr ⟨lw_p14, List.forall_mem_cons.mpr ⟨lw_p15, fun _ h => absurd h List.not_mem_nil⟩⟩⟩⟩⟩⟩⟩⟩⟩⟩⟩⟩⟩⟩⟩⟩
theorem lw_p16 : lw_okq (⟨"InterlockingFrame", "searchedHome", "()LInterlockingFrame$Search;"⟩, 16) := ⟨⟨by decide +kernel, by decide +kernel⟩, List.mem_of_getElem? (i := 20) (by decide +kernel), List.mem_of_getElem? (i := 615) (by decide +kernel), List.mem_of_getElem? (i := 616) (by decide +kernel)⟩
theorem lw_p17 : lw_okq (⟨"InterlockingFrame$Search", "forget", "()V"⟩, 5) := ⟨⟨by decide +kernel, by decide +kernel⟩, List.mem_of_getElem? (i := 138) (by decide +kernel), List.mem_of_getElem? (i := 656) (by decide +kernel), List.mem_of_getElem? (i := 657) (by decide +kernel)⟩
theorem lw_p18 : lw_okq (⟨"InterlockingFrame$Search", "enter", "(II)V"⟩, 5) := ⟨⟨by decide +kernel, by decide +kernel⟩, List.mem_of_getElem? (i := 138) (by decide +kernel), List.mem_of_getElem? (i := 660) (by decide +kernel), List.mem_of_getElem? (i := 661) (by decide +kernel)⟩
theorem lw_p19 : lw_okq (⟨"InterlockingFrame", "searchBetween", "(II)Z"⟩, 16) := ⟨⟨by decide +kernel, by decide +kernel⟩, List.mem_of_getElem? (i := 20) (by decide +kernel), List.mem_of_getElem? (i := 680) (by decide +kernel), List.mem_of_getElem? (i := 681) (by decide +kernel)⟩
theorem lw_p20 : lw_okq (⟨"InterlockingFrame$LockPlanner", "keepsRoutes", "(LInterlockingFrame$Sheet;LInterlockingFrame$Locking;II)Z"⟩, 4) := ⟨⟨by decide +kernel, by decide +kernel⟩, List.mem_of_getElem? (i := 182) (by decide +kernel), List.mem_of_getElem? (i := 767) (by decide +kernel), List.mem_of_getElem? (i := 768) (by decide +kernel)⟩
theorem lw_p21 : lw_okq (⟨"InterlockingFrame", "placeFreedWithout", "(I)I"⟩, 16) := ⟨⟨by decide +kernel, by decide +kernel⟩, List.mem_of_getElem? (i := 20) (by decide +kernel), List.mem_of_getElem? (i := 826) (by decide +kernel), List.mem_of_getElem? (i := 827) (by decide +kernel)⟩
theorem lw_p22 : lw_okq (⟨"InterlockingFrameModel", "usesSheet", "()V"⟩, 42) := ⟨⟨by decide +kernel, by decide +kernel⟩, List.mem_of_getElem? (i := 906) (by decide +kernel), List.mem_of_getElem? (i := 912) (by decide +kernel), List.mem_of_getElem? (i := 913) (by decide +kernel)⟩
theorem lw_p23 : lw_okq (⟨"InterlockingFrameModel", "parses", "()I"⟩, 42) := ⟨⟨by decide +kernel, by decide +kernel⟩, List.mem_of_getElem? (i := 906) (by decide +kernel), List.mem_of_getElem? (i := 1054) (by decide +kernel), List.mem_of_getElem? (i := 1055) (by decide +kernel)⟩
theorem lw_p24 : lw_okq (⟨"InterlockingFrameModel", "passes", "(II)I"⟩, 42) := ⟨⟨by decide +kernel, by decide +kernel⟩, List.mem_of_getElem? (i := 906) (by decide +kernel), List.mem_of_getElem? (i := 1058) (by decide +kernel), List.mem_of_getElem? (i := 1059) (by decide +kernel)⟩
theorem lw_p25 : lw_okq (⟨"InterlockingFrameModel", "wordHere", "()I"⟩, 42) := ⟨⟨by decide +kernel, by decide +kernel⟩, List.mem_of_getElem? (i := 906) (by decide +kernel), List.mem_of_getElem? (i := 1062) (by decide +kernel), List.mem_of_getElem? (i := 1063) (by decide +kernel)⟩
theorem lw_p26 : lw_okq (⟨"InterlockingFrameModel", "peek", "()I"⟩, 42) := ⟨⟨by decide +kernel, by decide +kernel⟩, List.mem_of_getElem? (i := 906) (by decide +kernel), List.mem_of_getElem? (i := 1066) (by decide +kernel), List.mem_of_getElem? (i := 1067) (by decide +kernel)⟩
theorem lw_p27 : lw_okq (⟨"InterlockingFrameModel", "lettersHere", "()I"⟩, 42) := ⟨⟨by decide +kernel, by decide +kernel⟩, List.mem_of_getElem? (i := 906) (by decide +kernel), List.mem_of_getElem? (i := 1072) (by decide +kernel), List.mem_of_getElem? (i := 1073) (by decide +kernel)⟩
theorem lw_p28 : lw_okq (⟨"InterlockingFrameModel", "fails", "(II)V"⟩, 42) := ⟨⟨by decide +kernel, by decide +kernel⟩, List.mem_of_getElem? (i := 906) (by decide +kernel), List.mem_of_getElem? (i := 1079) (by decide +kernel), List.mem_of_getElem? (i := 1080) (by decide +kernel)⟩
theorem lw_p29 : lw_okq (⟨"InterlockingFrameModel", "number", "(II)I"⟩, 42) := ⟨⟨by decide +kernel, by decide +kernel⟩, List.mem_of_getElem? (i := 906) (by decide +kernel), List.mem_of_getElem? (i := 1083) (by decide +kernel), List.mem_of_getElem? (i := 1084) (by decide +kernel)⟩
theorem lw_p30 : lw_okq (⟨"InterlockingFrameModel", "isDigitHere", "()Z"⟩, 42) := ⟨⟨by decide +kernel, by decide +kernel⟩, List.mem_of_getElem? (i := 906) (by decide +kernel), List.mem_of_getElem? (i := 1087) (by decide +kernel), List.mem_of_getElem? (i := 1088) (by decide +kernel)⟩
theorem lw_p31 : lw_okq (⟨"InterlockingFrameModel", "semicolon", "()V"⟩, 42) := ⟨⟨by decide +kernel, by decide +kernel⟩, List.mem_of_getElem? (i := 906) (by decide +kernel), List.mem_of_getElem? (i := 1093) (by decide +kernel), List.mem_of_getElem? (i := 1094) (by decide +kernel)⟩
def lw_privs_2 : List (MethodName × Nat) := [(⟨"InterlockingFrame", "searchedHome", "()LInterlockingFrame$Search;"⟩, 16), (⟨"InterlockingFrame$Search", "forget", "()V"⟩, 5), (⟨"InterlockingFrame$Search", "enter", "(II)V"⟩, 5), (⟨"InterlockingFrame", "searchBetween", "(II)Z"⟩, 16), (⟨"InterlockingFrame$LockPlanner", "keepsRoutes", "(LInterlockingFrame$Sheet;LInterlockingFrame$Locking;II)Z"⟩, 4), (⟨"InterlockingFrame", "placeFreedWithout", "(I)I"⟩, 16), (⟨"InterlockingFrameModel", "usesSheet", "()V"⟩, 42), (⟨"InterlockingFrameModel", "parses", "()I"⟩, 42), (⟨"InterlockingFrameModel", "passes", "(II)I"⟩, 42), (⟨"InterlockingFrameModel", "wordHere", "()I"⟩, 42), (⟨"InterlockingFrameModel", "peek", "()I"⟩, 42), (⟨"InterlockingFrameModel", "lettersHere", "()I"⟩, 42), (⟨"InterlockingFrameModel", "fails", "(II)V"⟩, 42), (⟨"InterlockingFrameModel", "number", "(II)I"⟩, 42), (⟨"InterlockingFrameModel", "isDigitHere", "()Z"⟩, 42), (⟨"InterlockingFrameModel", "semicolon", "()V"⟩, 42)]
theorem lw_r2 : ∀ q ∈ lw_privs_2, lw_okq q := List.forall_mem_cons.mpr ⟨lw_p16, List.forall_mem_cons.mpr ⟨lw_p17, List.forall_mem_cons.mpr ⟨lw_p18, List.forall_mem_cons.mpr ⟨lw_p19, List.forall_mem_cons.mpr ⟨lw_p20, List.forall_mem_cons.mpr ⟨lw_p21, List.forall_mem_cons.mpr ⟨lw_p22, List.forall_mem_cons.mpr ⟨lw_p23, List.forall_mem_cons.mpr ⟨lw_p24, List.forall_mem_cons.mpr ⟨lw_p25, List.forall_mem_cons.mpr ⟨lw_p26, List.forall_mem_cons.mpr ⟨lw_p27, List.forall_mem_cons.mpr ⟨lw_p28, List.forall_mem_cons.mpr ⟨lw_p29, List.forall_mem_cons.mpr ⟨lw_p30, List.forall_mem_cons.mpr ⟨lw_p31, fun _ h => absurd h List.not_mem_nil⟩⟩⟩⟩⟩⟩⟩⟩⟩⟩⟩⟩⟩⟩⟩⟩
theorem lw_p32 : lw_okq (⟨"InterlockingFrameModel", "line", "()V"⟩, 42) := ⟨⟨by decide +kernel, by decide +kernel⟩, List.mem_of_getElem? (i := 906) (by decide +kernel), List.mem_of_getElem? (i := 1097) (by decide +kernel), List.mem_of_getElem? (i := 1098) (by decide +kernel)⟩
theorem lw_p33 : lw_okq (⟨"InterlockingFrameModel", "ruleLine", "()V"⟩, 42) := ⟨⟨by decide +kernel, by decide +kernel⟩, List.mem_of_getElem? (i := 906) (by decide +kernel), List.mem_of_getElem? (i := 1101) (by decide +kernel), List.mem_of_getElem? (i := 1102) (by decide +kernel)⟩
theorem lw_p34 : lw_okq (⟨"InterlockingFrameModel", "lever", "()I"⟩, 42) := ⟨⟨by decide +kernel, by decide +kernel⟩, List.mem_of_getElem? (i := 906) (by decide +kernel), List.mem_of_getElem? (i := 1105) (by decide +kernel), List.mem_of_getElem? (i := 1106) (by decide +kernel)⟩
theorem lw_p35 : lw_okq (⟨"InterlockingFrameModel", "routeLine", "()V"⟩, 42) := ⟨⟨by decide +kernel, by decide +kernel⟩, List.mem_of_getElem? (i := 906) (by decide +kernel), List.mem_of_getElem? (i := 1109) (by decide +kernel), List.mem_of_getElem? (i := 1110) (by decide +kernel)⟩
theorem lw_p36 : lw_okq (⟨"InterlockingFrameModel", "conflictLine", "()V"⟩, 42) := ⟨⟨by decide +kernel, by decide +kernel⟩, List.mem_of_getElem? (i := 906) (by decide +kernel), List.mem_of_getElem? (i := 1116) (by decide +kernel), List.mem_of_getElem? (i := 1117) (by decide +kernel)⟩
theorem lw_p37 : lw_okq (⟨"InterlockingFrameModel", "isDeclared", "(II)Z"⟩, 42) := ⟨⟨by decide +kernel, by decide +kernel⟩, List.mem_of_getElem? (i := 906) (by decide +kernel), List.mem_of_getElem? (i := 1120) (by decide +kernel), List.mem_of_getElem? (i := 1121) (by decide +kernel)⟩
theorem lw_p38 : lw_okq (⟨"InterlockingFrameModel", "isRule", "(I)Z"⟩, 42) := ⟨⟨by decide +kernel, by decide +kernel⟩, List.mem_of_getElem? (i := 906) (by decide +kernel), List.mem_of_getElem? (i := 1148) (by decide +kernel), List.mem_of_getElem? (i := 1149) (by decide +kernel)⟩
theorem lw_p39 : lw_okq (⟨"InterlockingFrameModel", "isRoute", "(I)Z"⟩, 42) := ⟨⟨by decide +kernel, by decide +kernel⟩, List.mem_of_getElem? (i := 906) (by decide +kernel), List.mem_of_getElem? (i := 1168) (by decide +kernel), List.mem_of_getElem? (i := 1169) (by decide +kernel)⟩
theorem lw_p40 : lw_okq (⟨"InterlockingFrameModel", "isLever", "(I)Z"⟩, 42) := ⟨⟨by decide +kernel, by decide +kernel⟩, List.mem_of_getElem? (i := 906) (by decide +kernel), List.mem_of_getElem? (i := 1184) (by decide +kernel), List.mem_of_getElem? (i := 1185) (by decide +kernel)⟩
theorem lw_p41 : lw_okq (⟨"InterlockingFrameModel", "isFree", "(II)Z"⟩, 42) := ⟨⟨by decide +kernel, by decide +kernel⟩, List.mem_of_getElem? (i := 906) (by decide +kernel), List.mem_of_getElem? (i := 1188) (by decide +kernel), List.mem_of_getElem? (i := 1189) (by decide +kernel)⟩
theorem lw_p42 : lw_okq (⟨"InterlockingFrameModel", "blockOf", "(II)I"⟩, 42) := ⟨⟨by decide +kernel, by decide +kernel⟩, List.mem_of_getElem? (i := 906) (by decide +kernel), List.mem_of_getElem? (i := 1192) (by decide +kernel), List.mem_of_getElem? (i := 1193) (by decide +kernel)⟩
theorem lw_p43 : lw_okq (⟨"InterlockingFrameModel", "blocks", "(III)Z"⟩, 42) := ⟨⟨by decide +kernel, by decide +kernel⟩, List.mem_of_getElem? (i := 906) (by decide +kernel), List.mem_of_getElem? (i := 1196) (by decide +kernel), List.mem_of_getElem? (i := 1197) (by decide +kernel)⟩
theorem lw_p44 : lw_okq (⟨"InterlockingFrameModel", "forbids", "(II)Z"⟩, 42) := ⟨⟨by decide +kernel, by decide +kernel⟩, List.mem_of_getElem? (i := 906) (by decide +kernel), List.mem_of_getElem? (i := 1200) (by decide +kernel), List.mem_of_getElem? (i := 1201) (by decide +kernel)⟩
theorem lw_p45 : lw_okq (⟨"InterlockingFrameModel", "isActive", "(II)Z"⟩, 42) := ⟨⟨by decide +kernel, by decide +kernel⟩, List.mem_of_getElem? (i := 906) (by decide +kernel), List.mem_of_getElem? (i := 1204) (by decide +kernel), List.mem_of_getElem? (i := 1205) (by decide +kernel)⟩
theorem lw_p46 : lw_okq (⟨"InterlockingFrameModel", "remembers", "()V"⟩, 42) := ⟨⟨by decide +kernel, by decide +kernel⟩, List.mem_of_getElem? (i := 906) (by decide +kernel), List.mem_of_getElem? (i := 1208) (by decide +kernel), List.mem_of_getElem? (i := 1209) (by decide +kernel)⟩
theorem lw_p47 : lw_okq (⟨"InterlockingFrameModel", "puts", "(IIIII)V"⟩, 42) := ⟨⟨by decide +kernel, by decide +kernel⟩, List.mem_of_getElem? (i := 906) (by decide +kernel), List.mem_of_getElem? (i := 1217) (by decide +kernel), List.mem_of_getElem? (i := 1218) (by decide +kernel)⟩
def lw_privs_3 : List (MethodName × Nat) := [(⟨"InterlockingFrameModel", "line", "()V"⟩, 42), (⟨"InterlockingFrameModel", "ruleLine", "()V"⟩, 42), (⟨"InterlockingFrameModel", "lever", "()I"⟩, 42), (⟨"InterlockingFrameModel", "routeLine", "()V"⟩, 42), (⟨"InterlockingFrameModel", "conflictLine", "()V"⟩, 42), (⟨"InterlockingFrameModel", "isDeclared", "(II)Z"⟩, 42), (⟨"InterlockingFrameModel", "isRule", "(I)Z"⟩, 42), (⟨"InterlockingFrameModel", "isRoute", "(I)Z"⟩, 42), (⟨"InterlockingFrameModel", "isLever", "(I)Z"⟩, 42), (⟨"InterlockingFrameModel", "isFree", "(II)Z"⟩, 42), (⟨"InterlockingFrameModel", "blockOf", "(II)I"⟩, 42), (⟨"InterlockingFrameModel", "blocks", "(III)Z"⟩, 42), (⟨"InterlockingFrameModel", "forbids", "(II)Z"⟩, 42), (⟨"InterlockingFrameModel", "isActive", "(II)Z"⟩, 42), (⟨"InterlockingFrameModel", "remembers", "()V"⟩, 42), (⟨"InterlockingFrameModel", "puts", "(IIIII)V"⟩, 42)]
theorem lw_r3 : ∀ q ∈ lw_privs_3, lw_okq q := List.forall_mem_cons.mpr ⟨lw_p32, List.forall_mem_cons.mpr ⟨lw_p33, List.forall_mem_cons.mpr ⟨lw_p34, List.forall_mem_cons.mpr ⟨lw_p35, List.forall_mem_cons.mpr ⟨lw_p36, List.forall_mem_cons.mpr ⟨lw_p37, List.forall_mem_cons.mpr ⟨lw_p38, List.forall_mem_cons.mpr ⟨lw_p39, List.forall_mem_cons.mpr ⟨lw_p40, List.forall_mem_cons.mpr ⟨lw_p41, List.forall_mem_cons.mpr ⟨lw_p42, List.forall_mem_cons.mpr ⟨lw_p43, List.forall_mem_cons.mpr ⟨lw_p44, List.forall_mem_cons.mpr ⟨lw_p45, List.forall_mem_cons.mpr ⟨lw_p46, List.forall_mem_cons.mpr ⟨lw_p47, fun _ h => absurd h List.not_mem_nil⟩⟩⟩⟩⟩⟩⟩⟩⟩⟩⟩⟩⟩⟩⟩⟩
theorem lw_p48 : lw_okq (⟨"InterlockingFrameModel", "isState", "(I)Z"⟩, 42) := ⟨⟨by decide +kernel, by decide +kernel⟩, List.mem_of_getElem? (i := 906) (by decide +kernel), List.mem_of_getElem? (i := 1233) (by decide +kernel), List.mem_of_getElem? (i := 1234) (by decide +kernel)⟩
theorem lw_p49 : lw_okq (⟨"InterlockingFrameModel", "laysFrom", "(I)V"⟩, 42) := ⟨⟨by decide +kernel, by decide +kernel⟩, List.mem_of_getElem? (i := 906) (by decide +kernel), List.mem_of_getElem? (i := 1249) (by decide +kernel), List.mem_of_getElem? (i := 1250) (by decide +kernel)⟩
theorem lw_p50 : lw_okq (⟨"InterlockingFrameModel", "clears", "()V"⟩, 42) := ⟨⟨by decide +kernel, by decide +kernel⟩, List.mem_of_getElem? (i := 906) (by decide +kernel), List.mem_of_getElem? (i := 1253) (by decide +kernel), List.mem_of_getElem? (i := 1254) (by decide +kernel)⟩
theorem lw_p51 : lw_okq (⟨"InterlockingFrameModel", "reaches", "(II)V"⟩, 42) := ⟨⟨by decide +kernel, by decide +kernel⟩, List.mem_of_getElem? (i := 906) (by decide +kernel), List.mem_of_getElem? (i := 1257) (by decide +kernel), List.mem_of_getElem? (i := 1258) (by decide +kernel)⟩
theorem lw_p52 : lw_okq (⟨"InterlockingFrameModel", "spreads", "()V"⟩, 42) := ⟨⟨by decide +kernel, by decide +kernel⟩, List.mem_of_getElem? (i := 906) (by decide +kernel), List.mem_of_getElem? (i := 1261) (by decide +kernel), List.mem_of_getElem? (i := 1262) (by decide +kernel)⟩
theorem lw_p53 : lw_okq (⟨"InterlockingFrameModel", "areReachable", "(II)Z"⟩, 42) := ⟨⟨by decide +kernel, by decide +kernel⟩, List.mem_of_getElem? (i := 906) (by decide +kernel), List.mem_of_getElem? (i := 1269) (by decide +kernel), List.mem_of_getElem? (i := 1270) (by decide +kernel)⟩
theorem lw_p54 : lw_okq (⟨"InterlockingFrameModel", "settingOf", "(I)I"⟩, 42) := ⟨⟨by decide +kernel, by decide +kernel⟩, List.mem_of_getElem? (i := 906) (by decide +kernel), List.mem_of_getElem? (i := 1285) (by decide +kernel), List.mem_of_getElem? (i := 1286) (by decide +kernel)⟩
theorem lw_p55 : lw_okq (⟨"InterlockingFrameModel", "sets", "(II)Z"⟩, 42) := ⟨⟨by decide +kernel, by decide +kernel⟩, List.mem_of_getElem? (i := 906) (by decide +kernel), List.mem_of_getElem? (i := 1289) (by decide +kernel), List.mem_of_getElem? (i := 1290) (by decide +kernel)⟩
theorem lw_p56 : lw_okq (⟨"InterlockingFrameModel", "joint", "(II)I"⟩, 42) := ⟨⟨by decide +kernel, by decide +kernel⟩, List.mem_of_getElem? (i := 906) (by decide +kernel), List.mem_of_getElem? (i := 1301) (by decide +kernel), List.mem_of_getElem? (i := 1302) (by decide +kernel)⟩
theorem lw_p57 : lw_okq (⟨"InterlockingFrameModel", "unprotected", "()I"⟩, 42) := ⟨⟨by decide +kernel, by decide +kernel⟩, List.mem_of_getElem? (i := 906) (by decide +kernel), List.mem_of_getElem? (i := 1309) (by decide +kernel), List.mem_of_getElem? (i := 1310) (by decide +kernel)⟩
theorem lw_p58 : lw_okq (⟨"InterlockingFrameModel", "lockFor", "(I)I"⟩, 42) := ⟨⟨by decide +kernel, by decide +kernel⟩, List.mem_of_getElem? (i := 906) (by decide +kernel), List.mem_of_getElem? (i := 1317) (by decide +kernel), List.mem_of_getElem? (i := 1318) (by decide +kernel)⟩
theorem lw_p59 : lw_okq (⟨"InterlockingFrameModel", "settable", "()I"⟩, 42) := ⟨⟨by decide +kernel, by decide +kernel⟩, List.mem_of_getElem? (i := 906) (by decide +kernel), List.mem_of_getElem? (i := 1321) (by decide +kernel), List.mem_of_getElem? (i := 1322) (by decide +kernel)⟩
theorem lw_p60 : lw_okq (⟨"InterlockingFrameModel", "completes", "()Z"⟩, 42) := ⟨⟨by decide +kernel, by decide +kernel⟩, List.mem_of_getElem? (i := 906) (by decide +kernel), List.mem_of_getElem? (i := 1329) (by decide +kernel), List.mem_of_getElem? (i := 1330) (by decide +kernel)⟩
theorem lw_p61 : lw_okq (⟨"InterlockingFrameModel", "isImpliedBy", "(I)Z"⟩, 42) := ⟨⟨by decide +kernel, by decide +kernel⟩, List.mem_of_getElem? (i := 906) (by decide +kernel), List.mem_of_getElem? (i := 1352) (by decide +kernel), List.mem_of_getElem? (i := 1353) (by decide +kernel)⟩
theorem lw_p62 : lw_okq (⟨"InterlockingFrameModel", "tellingLever", "(II)I"⟩, 42) := ⟨⟨by decide +kernel, by decide +kernel⟩, List.mem_of_getElem? (i := 906) (by decide +kernel), List.mem_of_getElem? (i := 1356) (by decide +kernel), List.mem_of_getElem? (i := 1357) (by decide +kernel)⟩
theorem lw_p63 : lw_okq (⟨"InterlockingFrameModel", "isTold", "(III)Z"⟩, 42) := ⟨⟨by decide +kernel, by decide +kernel⟩, List.mem_of_getElem? (i := 906) (by decide +kernel), List.mem_of_getElem? (i := 1360) (by decide +kernel), List.mem_of_getElem? (i := 1361) (by decide +kernel)⟩
def lw_privs_4 : List (MethodName × Nat) := [(⟨"InterlockingFrameModel", "isState", "(I)Z"⟩, 42), (⟨"InterlockingFrameModel", "laysFrom", "(I)V"⟩, 42), (⟨"InterlockingFrameModel", "clears", "()V"⟩, 42), (⟨"InterlockingFrameModel", "reaches", "(II)V"⟩, 42), (⟨"InterlockingFrameModel", "spreads", "()V"⟩, 42), (⟨"InterlockingFrameModel", "areReachable", "(II)Z"⟩, 42), (⟨"InterlockingFrameModel", "settingOf", "(I)I"⟩, 42), (⟨"InterlockingFrameModel", "sets", "(II)Z"⟩, 42), (⟨"InterlockingFrameModel", "joint", "(II)I"⟩, 42), (⟨"InterlockingFrameModel", "unprotected", "()I"⟩, 42), (⟨"InterlockingFrameModel", "lockFor", "(I)I"⟩, 42), (⟨"InterlockingFrameModel", "settable", "()I"⟩, 42), (⟨"InterlockingFrameModel", "completes", "()Z"⟩, 42), (⟨"InterlockingFrameModel", "isImpliedBy", "(I)Z"⟩, 42), (⟨"InterlockingFrameModel", "tellingLever", "(II)I"⟩, 42), (⟨"InterlockingFrameModel", "isTold", "(III)Z"⟩, 42)]
theorem lw_r4 : ∀ q ∈ lw_privs_4, lw_okq q := List.forall_mem_cons.mpr ⟨lw_p48, List.forall_mem_cons.mpr ⟨lw_p49, List.forall_mem_cons.mpr ⟨lw_p50, List.forall_mem_cons.mpr ⟨lw_p51, List.forall_mem_cons.mpr ⟨lw_p52, List.forall_mem_cons.mpr ⟨lw_p53, List.forall_mem_cons.mpr ⟨lw_p54, List.forall_mem_cons.mpr ⟨lw_p55, List.forall_mem_cons.mpr ⟨lw_p56, List.forall_mem_cons.mpr ⟨lw_p57, List.forall_mem_cons.mpr ⟨lw_p58, List.forall_mem_cons.mpr ⟨lw_p59, List.forall_mem_cons.mpr ⟨lw_p60, List.forall_mem_cons.mpr ⟨lw_p61, List.forall_mem_cons.mpr ⟨lw_p62, List.forall_mem_cons.mpr ⟨lw_p63, fun _ h => absurd h List.not_mem_nil⟩⟩⟩⟩⟩⟩⟩⟩⟩⟩⟩⟩⟩⟩⟩⟩
theorem lw_p64 : lw_okq (⟨"InterlockingFrameModel", "laysTest", "(I)V"⟩, 42) := ⟨⟨by decide +kernel, by decide +kernel⟩, List.mem_of_getElem? (i := 906) (by decide +kernel), List.mem_of_getElem? (i := 1372) (by decide +kernel), List.mem_of_getElem? (i := 1373) (by decide +kernel)⟩
theorem lw_p65 : lw_okq (⟨"InterlockingFrameModel", "nearer", "(I)I"⟩, 42) := ⟨⟨by decide +kernel, by decide +kernel⟩, List.mem_of_getElem? (i := 906) (by decide +kernel), List.mem_of_getElem? (i := 1380) (by decide +kernel), List.mem_of_getElem? (i := 1381) (by decide +kernel)⟩
theorem lw_p66 : lw_okq (⟨"InterlockingFrameModel", "laysDue", "()V"⟩, 42) := ⟨⟨by decide +kernel, by decide +kernel⟩, List.mem_of_getElem? (i := 906) (by decide +kernel), List.mem_of_getElem? (i := 1388) (by decide +kernel), List.mem_of_getElem? (i := 1389) (by decide +kernel)⟩
theorem lw_p67 : lw_okq (⟨"InterlockingFrameModel", "lower", "(II)I"⟩, 42) := ⟨⟨by decide +kernel, by decide +kernel⟩, List.mem_of_getElem? (i := 906) (by decide +kernel), List.mem_of_getElem? (i := 1392) (by decide +kernel), List.mem_of_getElem? (i := 1393) (by decide +kernel)⟩
theorem lw_p68 : lw_okq (⟨"InterlockingFrameModel", "higher", "(II)I"⟩, 42) := ⟨⟨by decide +kernel, by decide +kernel⟩, List.mem_of_getElem? (i := 906) (by decide +kernel), List.mem_of_getElem? (i := 1396) (by decide +kernel), List.mem_of_getElem? (i := 1397) (by decide +kernel)⟩
theorem lw_p69 : lw_okq (⟨"InterlockingFrameModel", "merges", "(II)V"⟩, 42) := ⟨⟨by decide +kernel, by decide +kernel⟩, List.mem_of_getElem? (i := 906) (by decide +kernel), List.mem_of_getElem? (i := 1400) (by decide +kernel), List.mem_of_getElem? (i := 1401) (by decide +kernel)⟩
theorem lw_p70 : lw_okq (⟨"InterlockingFrameModel", "isDue", "()Z"⟩, 42) := ⟨⟨by decide +kernel, by decide +kernel⟩, List.mem_of_getElem? (i := 906) (by decide +kernel), List.mem_of_getElem? (i := 1407) (by decide +kernel), List.mem_of_getElem? (i := 1408) (by decide +kernel)⟩
theorem lw_p71 : lw_okq (⟨"InterlockingFrameModel", "mergesOne", "()Z"⟩, 42) := ⟨⟨by decide +kernel, by decide +kernel⟩, List.mem_of_getElem? (i := 906) (by decide +kernel), List.mem_of_getElem? (i := 1419) (by decide +kernel), List.mem_of_getElem? (i := 1420) (by decide +kernel)⟩
theorem lw_p72 : lw_okq (⟨"InterlockingFrameModel", "copies", "(Z)V"⟩, 42) := ⟨⟨by decide +kernel, by decide +kernel⟩, List.mem_of_getElem? (i := 906) (by decide +kernel), List.mem_of_getElem? (i := 1423) (by decide +kernel), List.mem_of_getElem? (i := 1424) (by decide +kernel)⟩
def lw_privs_5 : List (MethodName × Nat) := [(⟨"InterlockingFrameModel", "laysTest", "(I)V"⟩, 42), (⟨"InterlockingFrameModel", "nearer", "(I)I"⟩, 42), (⟨"InterlockingFrameModel", "laysDue", "()V"⟩, 42), (⟨"InterlockingFrameModel", "lower", "(II)I"⟩, 42), (⟨"InterlockingFrameModel", "higher", "(II)I"⟩, 42), (⟨"InterlockingFrameModel", "merges", "(II)V"⟩, 42), (⟨"InterlockingFrameModel", "isDue", "()Z"⟩, 42), (⟨"InterlockingFrameModel", "mergesOne", "()Z"⟩, 42), (⟨"InterlockingFrameModel", "copies", "(Z)V"⟩, 42)]
theorem lw_r5 : ∀ q ∈ lw_privs_5, lw_okq q := List.forall_mem_cons.mpr ⟨lw_p64, List.forall_mem_cons.mpr ⟨lw_p65, List.forall_mem_cons.mpr ⟨lw_p66, List.forall_mem_cons.mpr ⟨lw_p67, List.forall_mem_cons.mpr ⟨lw_p68, List.forall_mem_cons.mpr ⟨lw_p69, List.forall_mem_cons.mpr ⟨lw_p70, List.forall_mem_cons.mpr ⟨lw_p71, List.forall_mem_cons.mpr ⟨lw_p72, fun _ h => absurd h List.not_mem_nil⟩⟩⟩⟩⟩⟩⟩⟩⟩
def lw_privs : List (MethodName × Nat) := lw_privs_1 ++ (lw_privs_2 ++ (lw_privs_3 ++ (lw_privs_4 ++ (lw_privs_5))))
def lw_tbl : List Cond := k2_sels lw_privs ++ tables_1
theorem lw_privs_ok : ∀ q ∈ lw_privs, lw_okq q := by
  show ∀ q ∈ lw_privs_1 ++ (lw_privs_2 ++ (lw_privs_3 ++ (lw_privs_4 ++ (lw_privs_5)))), lw_okq q
  exact List.forall_mem_append.mpr ⟨lw_r1, List.forall_mem_append.mpr ⟨lw_r2, List.forall_mem_append.mpr ⟨lw_r3, List.forall_mem_append.mpr ⟨lw_r4, lw_r5⟩⟩⟩⟩
def R_law : String := "InterlockingFrameLaw"
end
section
/-! the abstract heap: ints and longs by cell and place; a layout: cells, slots, shapes (0 ints, 1 longs, t+2 an object of class t; length), references -/
abbrev ja_S : Type := (Nat → Nat → Int32) × (Nat → Nat → Int64)
abbrev ja_L : Type := Nat × Nat × (Nat → Nat × Nat) × (Nat → Nat → Option Nat)
abbrev ja_Z : Type := Option Value × ja_L × ja_S
def ja_cv (ad : Nat → Nat) (v : Value) : Value := match v with
  | .ref k => .ref (ad k)
  | w => w
def ja_cl (ad : Nat → Nat) (l : List (Nat × Value)) : List (Nat × Value) := l.map (fun q => (q.1, ja_cv ad q.2))
/-- which fields of a class are references -/
def ja_kd (t : Nat) : List Bool := match t with
  | 0 => [false, false, false, false, true, true, true]
  | 1 => [true, true, true, false]
  | 2 => [true, true]
  | 3 => [true, true, true, false, false]
  | 4 => [true, false, false, true, true]
  | 5 => [false, false, true, false, true, false, true, true, false]
  | 6 => [false, false, true, false, false, false]
  | 7 => [true, false, true, true, true, true, false, true, false, true, true, false, false, true, false, false]
  | _ => [false, false, false, true, true, true, true, true, false, false, true, false, false, false, false, false, false, false, false, false, false, true, true, true, true, true, true, false, false, false, true, true, false, true, false, true, false, false, false, true, true, false]
def ja_fl (Λ : ja_L) (σ : ja_S) (ad : Nat → Nat) (k t : Nat) : List Value := (List.range (ja_kd t).length).map (fun j => if (ja_kd t).getD j false = true then va_rf ((Λ.2.2.2 k j).map ad) else .int (σ.1 k j))
def ja_ce (cI cJ : ClassId) (Λ : ja_L) (σ : ja_S) (ad : Nat → Nat) (k : Nat) : va_E := match Λ.2.2.1 k with
  | (0, n) => .inl (cI, n, .inl (σ.1 k))
  | (1, n) => .inl (cJ, n, .inr (.inl (σ.2 k)))
  | (t + 2, _) => .inr (t, ja_fl Λ σ ad k t)
def ja_wl (cI cJ : ClassId) (Λ : ja_L) (σ : ja_S) (ad : Nat → Nat) : va_W := (List.range Λ.1).map (fun k => (ad k, ja_ce cI cJ Λ σ ad k))
theorem ja_wl_at {cI cJ : ClassId} {Λ : ja_L} {σ : ja_S} {ad : Nat → Nat} {k : Nat} (h : k < Λ.1) : (ja_wl cI cJ Λ σ ad)[k]? = some (ad k, ja_ce cI cJ Λ σ ad k) := by
  simp [ja_wl, h]
theorem ja_wl_set {cI cJ : ClassId} {Λ Λ' : ja_L} {σ σ' : ja_S} {ad : Nat → Nat} {k : Nat} {e : va_E} (hn : Λ'.1 = Λ.1) (he : ja_ce cI cJ Λ' σ' ad k = e) (ho : ∀ j, j ≠ k → ja_ce cI cJ Λ' σ' ad j = ja_ce cI cJ Λ σ ad j) : (ja_wl cI cJ Λ σ ad).set k (ad k, e) = ja_wl cI cJ Λ' σ' ad := by
  apply List.ext_getElem?
  intro i
  by_cases hi : i < Λ.1
  · rw [ja_wl_at (by omega)]
    by_cases hk : k = i
    · subst hk
      rw [List.getElem?_set_self (by simp [ja_wl, hi]), he]
    · rw [List.getElem?_set_ne hk, ja_wl_at hi, ho i (Ne.symm hk)]
  · rw [List.getElem?_eq_none (by simp [ja_wl]; omega), List.getElem?_eq_none (by simp [ja_wl]; omega)]
theorem ja_wl_push {cI cJ : ClassId} {Λ Λ' : ja_L} {σ σ' : ja_S} {ad ad' : Nat → Nat} {q : Nat} {e : va_E} (hn : Λ'.1 = Λ.1 + 1) (hq : ad' Λ.1 = q) (he : ja_ce cI cJ Λ' σ' ad' Λ.1 = e) (ha : ∀ j, j < Λ.1 → ad' j = ad j) (ho : ∀ j, j < Λ.1 → ja_ce cI cJ Λ' σ' ad' j = ja_ce cI cJ Λ σ ad j) : ja_wl cI cJ Λ σ ad ++ [(q, e)] = ja_wl cI cJ Λ' σ' ad' := by
  unfold ja_wl
  rw [hn, List.range_succ, List.map_append, List.map_singleton, hq, he]
  congr 1
  apply List.map_congr_left
  intro j hj
  have hj' : j < Λ.1 := List.mem_range.mp hj
  rw [ha j hj', ho j hj']
def ja_si (σ : ja_S) (k j : Nat) (v : Int32) : ja_S := (va_up σ.1 k (upd (σ.1 k) j v), σ.2)
def ja_sl (σ : ja_S) (k j : Nat) (v : Int64) : ja_S := (σ.1, va_up σ.2 k (vp_updL (σ.2 k) j v))
theorem ja_ce_i {cI cJ : ClassId} {Λ : ja_L} {σ : ja_S} {ad : Nat → Nat} {k : Nat} (h : (Λ.2.2.1 k).1 = 0) : ja_ce cI cJ Λ σ ad k = .inl (cI, (Λ.2.2.1 k).2, .inl (σ.1 k)) := by
  unfold ja_ce
  generalize Λ.2.2.1 k = q at h ⊢
  obtain ⟨a, b⟩ := q
  cases h
  rfl
theorem ja_ce_l {cI cJ : ClassId} {Λ : ja_L} {σ : ja_S} {ad : Nat → Nat} {k : Nat} (h : (Λ.2.2.1 k).1 = 1) : ja_ce cI cJ Λ σ ad k = .inl (cJ, (Λ.2.2.1 k).2, .inr (.inl (σ.2 k))) := by
  unfold ja_ce
  generalize Λ.2.2.1 k = q at h ⊢
  obtain ⟨a, b⟩ := q
  cases h
  rfl
theorem ja_ce_o {cI cJ : ClassId} {Λ : ja_L} {σ : ja_S} {ad : Nat → Nat} {k t : Nat} (h : (Λ.2.2.1 k).1 = t + 2) : ja_ce cI cJ Λ σ ad k = .inr (t, ja_fl Λ σ ad k t) := by
  unfold ja_ce
  generalize Λ.2.2.1 k = q at h ⊢
  obtain ⟨a, b⟩ := q
  cases h
  rfl
theorem ja_fl_at {Λ : ja_L} {σ : ja_S} {ad : Nat → Nat} {k t j : Nat} (h : j < (ja_kd t).length) : (ja_fl Λ σ ad k t)[j]? = some (if (ja_kd t).getD j false = true then va_rf ((Λ.2.2.2 k j).map ad) else .int (σ.1 k j)) := by
  simp [ja_fl, h]
theorem ja_fl_len {Λ : ja_L} {σ : ja_S} {ad : Nat → Nat} {k t : Nat} : (ja_fl Λ σ ad k t).length = (ja_kd t).length := by simp [ja_fl]
theorem ja_fl_set {Λ Λ' : ja_L} {σ σ' : ja_S} {ad : Nat → Nat} {k t j : Nat} {v : Value} (hv : (if (ja_kd t).getD j false = true then va_rf ((Λ'.2.2.2 k j).map ad) else .int (σ'.1 k j)) = v) (ho : ∀ i, i ≠ j → Λ'.2.2.2 k i = Λ.2.2.2 k i ∧ σ'.1 k i = σ.1 k i) : (ja_fl Λ σ ad k t).set j v = ja_fl Λ' σ' ad k t := by
  apply List.ext_getElem?
  intro i
  by_cases hi : i < (ja_kd t).length
  · rw [ja_fl_at hi]
    by_cases hk : j = i
    · subst hk
      rw [List.getElem?_set_self (by rw [ja_fl_len]; exact hi), hv]
    · rw [List.getElem?_set_ne hk, ja_fl_at hi, (ho i (Ne.symm hk)).1, (ho i (Ne.symm hk)).2]
  · rw [List.getElem?_eq_none (by rw [List.length_set, ja_fl_len]; omega), List.getElem?_eq_none (by rw [ja_fl_len]; omega)]
theorem ja_cat (ad : Nat → Nat) (v : Value) : (ja_cv ad v).category = v.category := by cases v <;> rfl
theorem ja_cats (ad : Nat → Nat) (st : List Value) : ((st.map (ja_cv ad)).map fun v => v.category).sum = (st.map fun v => v.category).sum := by
  induction st with
  | nil => rfl
  | cons a l ih => simp only [List.map_cons, List.sum_cons, ja_cat, ih]
theorem ja_cl_f1 (ad : Nat → Nat) (l : List (Nat × Value)) (i : Nat) : (ja_cl ad l).filter (fun q => !(q.1 == i) && !(q.1 + 1 == i && q.2.category == 2)) = ja_cl ad (l.filter (fun q => !(q.1 == i) && !(q.1 + 1 == i && q.2.category == 2))) := by
  unfold ja_cl
  rw [List.filter_map]
  congr 1
  apply List.filter_congr
  intro q _
  simp [ja_cat]
theorem ja_cl_f2 (ad : Nat → Nat) (l : List (Nat × Value)) (i : Nat) : (ja_cl ad l).filter (fun q => !(q.1 == i) && (!(q.1 == i + 1) && !(q.1 + 1 == i && q.2.category == 2))) = ja_cl ad (l.filter (fun q => !(q.1 == i) && (!(q.1 == i + 1) && !(q.1 + 1 == i && q.2.category == 2)))) := by
  unfold ja_cl
  rw [List.filter_map]
  congr 1
  apply List.filter_congr
  intro q _
  simp [ja_cat]
theorem ja_cl_at {ad : Nat → Nat} {l : List (Nat × Value)} {k i : Nat} {v : Value} (h : l[k]? = some (i, v)) : (ja_cl ad l)[k]? = some (i, ja_cv ad v) := by
  simp [ja_cl, h]
end
section
def R_History : String := "InterlockingFrame$History"
def F_History : u_T := fun k => match k with
  | 0 => ("InterlockingFrame$History", "total", "I", false)
  | 1 => ("InterlockingFrame$History", "takenDeed", "I", false)
  | 2 => ("InterlockingFrame$History", "takenSubject", "I", false)
  | 3 => ("InterlockingFrame$History", "takenRule", "I", false)
  | 4 => ("InterlockingFrame$History", "deeds", "[I", true)
  | 5 => ("InterlockingFrame$History", "subjects", "[I", true)
  | _ => ("InterlockingFrame$History", "rules", "[I", true)
def t_History : Nat → FieldType := fun k => match k with
  | 0 => .int
  | 1 => .int
  | 2 => .int
  | 3 => .int
  | 4 => .array .int
  | 5 => .array .int
  | _ => .array .int
theorem n_History : ∀ a, a < 7 → ∀ b, b < 7 → a ≠ b → (F_History a).2.1 ≠ (F_History b).2.1 := by decide +kernel
theorem t_History_ok : ∀ k, k < 7 → parseFieldDescriptor (F_History k).2.2.1 = some (t_History k) := by decide +kernel
def R_LockPlanner : String := "InterlockingFrame$LockPlanne\x72"
def F_LockPlanner : u_T := fun k => match k with
  | 0 => ("InterlockingFrame$LockPlanne\x72", "trial", "LInterlockingFrame$Search;", true)
  | 1 => ("InterlockingFrame$LockPlanne\x72", "grown", "LInterlockingFrame$Locking;", true)
  | 2 => ("InterlockingFrame$LockPlanne\x72", "locks", "[I", true)
  | _ => ("InterlockingFrame$LockPlanne\x72", "lockTotal", "I", false)
def t_LockPlanner : Nat → FieldType := fun k => match k with
  | 0 => .object "InterlockingFrame$Search"
  | 1 => .object "InterlockingFrame$Locking"
  | 2 => .array .int
  | _ => .int
theorem n_LockPlanner : ∀ a, a < 4 → ∀ b, b < 4 → a ≠ b → (F_LockPlanner a).2.1 ≠ (F_LockPlanner b).2.1 := by decide +kernel
theorem t_LockPlanner_ok : ∀ k, k < 4 → parseFieldDescriptor (F_LockPlanner k).2.2.1 = some (t_LockPlanner k) := by decide +kernel
def R_Locking : String := "InterlockingFrame$Locking"
def F_Locking : u_T := fun k => match k with
  | 0 => ("InterlockingFrame$Locking", "illegal", "[J", true)
  | _ => ("InterlockingFrame$Locking", "held", "[J", true)
def t_Locking : Nat → FieldType := fun k => match k with
  | 0 => .array .long
  | _ => .array .long
theorem n_Locking : ∀ a, a < 2 → ∀ b, b < 2 → a ≠ b → (F_Locking a).2.1 ≠ (F_Locking b).2.1 := by decide +kernel
theorem t_Locking_ok : ∀ k, k < 2 → parseFieldDescriptor (F_Locking k).2.2.1 = some (t_Locking k) := by decide +kernel
def R_Merger : String := "InterlockingFrame$Merge\x72"
def F_Merger : u_T := fun k => match k with
  | 0 => ("InterlockingFrame$Merge\x72", "trial", "LInterlockingFrame$Search;", true)
  | 1 => ("InterlockingFrame$Merge\x72", "merged", "LInterlockingFrame$Sheet;", true)
  | 2 => ("InterlockingFrame$Merge\x72", "attempted", "LInterlockingFrame$Sheet;", true)
  | 3 => ("InterlockingFrame$Merge\x72", "settable", "I", false)
  | _ => ("InterlockingFrame$Merge\x72", "open", "I", false)
def t_Merger : Nat → FieldType := fun k => match k with
  | 0 => .object "InterlockingFrame$Search"
  | 1 => .object "InterlockingFrame$Sheet"
  | 2 => .object "InterlockingFrame$Sheet"
  | 3 => .int
  | _ => .int
theorem n_Merger : ∀ a, a < 5 → ∀ b, b < 5 → a ≠ b → (F_Merger a).2.1 ≠ (F_Merger b).2.1 := by decide +kernel
theorem t_Merger_ok : ∀ k, k < 5 → parseFieldDescriptor (F_Merger k).2.2.1 = some (t_Merger k) := by decide +kernel
def R_Search : String := "InterlockingFrame$Search"
def F_Search : u_T := fun k => match k with
  | 0 => ("InterlockingFrame$Search", "locking", "LInterlockingFrame$Locking;", true)
  | 1 => ("InterlockingFrame$Search", "total", "I", false)
  | 2 => ("InterlockingFrame$Search", "movable", "I", false)
  | 3 => ("InterlockingFrame$Search", "orde\x72", "[I", true)
  | _ => ("InterlockingFrame$Search", "ways", "[I", true)
def t_Search : Nat → FieldType := fun k => match k with
  | 0 => .object "InterlockingFrame$Locking"
  | 1 => .int
  | 2 => .int
  | 3 => .array .int
  | _ => .array .int
theorem n_Search : ∀ a, a < 5 → ∀ b, b < 5 → a ≠ b → (F_Search a).2.1 ≠ (F_Search b).2.1 := by decide +kernel
theorem t_Search_ok : ∀ k, k < 5 → parseFieldDescriptor (F_Search k).2.2.1 = some (t_Search k) := by decide +kernel
def R_Sheet : String := "InterlockingFrame$Sheet"
def F_Sheet : u_T := fun k => match k with
  | 0 => ("InterlockingFrame$Sheet", "levers", "I", false)
  | 1 => ("InterlockingFrame$Sheet", "mergedLevers", "I", false)
  | 2 => ("InterlockingFrame$Sheet", "rules", "[I", true)
  | 3 => ("InterlockingFrame$Sheet", "ruleTotal", "I", false)
  | 4 => ("InterlockingFrame$Sheet", "routes", "[I", true)
  | 5 => ("InterlockingFrame$Sheet", "routeTotal", "I", false)
  | 6 => ("InterlockingFrame$Sheet", "conflictFirst", "[I", true)
  | 7 => ("InterlockingFrame$Sheet", "conflictSecond", "[I", true)
  | _ => ("InterlockingFrame$Sheet", "conflictTotal", "I", false)
def t_Sheet : Nat → FieldType := fun k => match k with
  | 0 => .int
  | 1 => .int
  | 2 => .array .int
  | 3 => .int
  | 4 => .array .int
  | 5 => .int
  | 6 => .array .int
  | 7 => .array .int
  | _ => .int
theorem n_Sheet : ∀ a, a < 9 → ∀ b, b < 9 → a ≠ b → (F_Sheet a).2.1 ≠ (F_Sheet b).2.1 := by decide +kernel
theorem t_Sheet_ok : ∀ k, k < 9 → parseFieldDescriptor (F_Sheet k).2.2.1 = some (t_Sheet k) := by decide +kernel
def R_SheetParser : String := "InterlockingFrame$SheetParse\x72"
def F_SheetParser : u_T := fun k => match k with
  | 0 => ("InterlockingFrame$SheetParse\x72", "errorCode", "I", false)
  | 1 => ("InterlockingFrame$SheetParse\x72", "errorOffset", "I", false)
  | 2 => ("InterlockingFrame$SheetParse\x72", "text", "[I", true)
  | 3 => ("InterlockingFrame$SheetParse\x72", "length", "I", false)
  | 4 => ("InterlockingFrame$SheetParse\x72", "tokenStart", "I", false)
  | _ => ("InterlockingFrame$SheetParse\x72", "tokenEnd", "I", false)
def t_SheetParser : Nat → FieldType := fun k => match k with
  | 0 => .int
  | 1 => .int
  | 2 => .array .int
  | 3 => .int
  | 4 => .int
  | _ => .int
theorem n_SheetParser : ∀ a, a < 6 → ∀ b, b < 6 → a ≠ b → (F_SheetParser a).2.1 ≠ (F_SheetParser b).2.1 := by decide +kernel
theorem t_SheetParser_ok : ∀ k, k < 6 → parseFieldDescriptor (F_SheetParser k).2.2.1 = some (t_SheetParser k) := by decide +kernel
def R_Frame : String := "InterlockingFrame"
def F_Frame : u_T := fun k => match k with
  | 0 => ("InterlockingFrame", "text", "[I", true)
  | 1 => ("InterlockingFrame", "textLength", "I", false)
  | 2 => ("InterlockingFrame", "parse\x72", "LInterlockingFrame$SheetParser;", true)
  | 3 => ("InterlockingFrame", "sheet", "LInterlockingFrame$Sheet;", true)
  | 4 => ("InterlockingFrame", "draft", "LInterlockingFrame$Sheet;", true)
  | 5 => ("InterlockingFrame", "history", "LInterlockingFrame$History;", true)
  | 6 => ("InterlockingFrame", "current", "I", false)
  | 7 => ("InterlockingFrame", "home", "LInterlockingFrame$Search;", true)
  | 8 => ("InterlockingFrame", "homeIsKnown", "Z", false)
  | 9 => ("InterlockingFrame", "trial", "LInterlockingFrame$Search;", true)
  | 10 => ("InterlockingFrame", "planne\x72", "LInterlockingFrame$LockPlanner;", true)
  | 11 => ("InterlockingFrame", "planIsKnown", "Z", false)
  | 12 => ("InterlockingFrame", "planSize", "I", false)
  | 13 => ("InterlockingFrame", "merge\x72", "LInterlockingFrame$Merger;", true)
  | 14 => ("InterlockingFrame", "mergingIsKnown", "Z", false)
  | _ => ("InterlockingFrame", "leversLeft", "I", false)
def t_Frame : Nat → FieldType := fun k => match k with
  | 0 => .array .int
  | 1 => .int
  | 2 => .object "InterlockingFrame$SheetParse\x72"
  | 3 => .object "InterlockingFrame$Sheet"
  | 4 => .object "InterlockingFrame$Sheet"
  | 5 => .object "InterlockingFrame$History"
  | 6 => .int
  | 7 => .object "InterlockingFrame$Search"
  | 8 => .boolean
  | 9 => .object "InterlockingFrame$Search"
  | 10 => .object "InterlockingFrame$LockPlanne\x72"
  | 11 => .boolean
  | 12 => .int
  | 13 => .object "InterlockingFrame$Merge\x72"
  | 14 => .boolean
  | _ => .int
theorem n_Frame : ∀ a, a < 16 → ∀ b, b < 16 → a ≠ b → (F_Frame a).2.1 ≠ (F_Frame b).2.1 := by decide +kernel
theorem t_Frame_ok : ∀ k, k < 16 → parseFieldDescriptor (F_Frame k).2.2.1 = some (t_Frame k) := by decide +kernel
def R_Model : String := "InterlockingFrameModel"
def F_Model : u_T := fun k => match k with
  | 0 => ("InterlockingFrameModel", "levers", "I", false)
  | 1 => ("InterlockingFrameModel", "routes", "I", false)
  | 2 => ("InterlockingFrameModel", "conflicts", "I", false)
  | 3 => ("InterlockingFrameModel", "s", "[I", true)
  | 4 => ("InterlockingFrameModel", "acts", "[I", true)
  | 5 => ("InterlockingFrameModel", "route", "[I", true)
  | 6 => ("InterlockingFrameModel", "first", "[I", true)
  | 7 => ("InterlockingFrameModel", "second", "[I", true)
  | 8 => ("InterlockingFrameModel", "actMany", "I", false)
  | 9 => ("InterlockingFrameModel", "thrown", "I", false)
  | 10 => ("InterlockingFrameModel", "tape", "[I", true)
  | 11 => ("InterlockingFrameModel", "taped", "I", false)
  | 12 => ("InterlockingFrameModel", "size", "I", false)
  | 13 => ("InterlockingFrameModel", "spot", "I", false)
  | 14 => ("InterlockingFrameModel", "wrong", "I", false)
  | 15 => ("InterlockingFrameModel", "wrongAt", "I", false)
  | 16 => ("InterlockingFrameModel", "numberAt", "I", false)
  | 17 => ("InterlockingFrameModel", "newLevers", "I", false)
  | 18 => ("InterlockingFrameModel", "newRules", "I", false)
  | 19 => ("InterlockingFrameModel", "newRoutes", "I", false)
  | 20 => ("InterlockingFrameModel", "newConflicts", "I", false)
  | 21 => ("InterlockingFrameModel", "newRule", "[I", true)
  | 22 => ("InterlockingFrameModel", "newRoute", "[I", true)
  | 23 => ("InterlockingFrameModel", "newFirst", "[I", true)
  | 24 => ("InterlockingFrameModel", "newSecond", "[I", true)
  | 25 => ("InterlockingFrameModel", "\x72", "[I", true)
  | 26 => ("InterlockingFrameModel", "way", "[I", true)
  | 27 => ("InterlockingFrameModel", "many", "I", false)
  | 28 => ("InterlockingFrameModel", "used", "I", false)
  | 29 => ("InterlockingFrameModel", "gone", "I", false)
  | 30 => ("InterlockingFrameModel", "fa\x72", "[I", true)
  | 31 => ("InterlockingFrameModel", "queue", "[I", true)
  | 32 => ("InterlockingFrameModel", "queued", "I", false)
  | 33 => ("InterlockingFrameModel", "added", "[I", true)
  | 34 => ("InterlockingFrameModel", "addedMany", "I", false)
  | 35 => ("InterlockingFrameModel", "targets", "[I", true)
  | 36 => ("InterlockingFrameModel", "targetMany", "I", false)
  | 37 => ("InterlockingFrameModel", "dueRoutes", "I", false)
  | 38 => ("InterlockingFrameModel", "dueConflicts", "I", false)
  | 39 => ("InterlockingFrameModel", "wasRule", "[I", true)
  | 40 => ("InterlockingFrameModel", "wasWay", "[I", true)
  | _ => ("InterlockingFrameModel", "wasGone", "I", false)
def t_Model : Nat → FieldType := fun k => match k with
  | 0 => .int
  | 1 => .int
  | 2 => .int
  | 3 => .array .int
  | 4 => .array .int
  | 5 => .array .int
  | 6 => .array .int
  | 7 => .array .int
  | 8 => .int
  | 9 => .int
  | 10 => .array .int
  | 11 => .int
  | 12 => .int
  | 13 => .int
  | 14 => .int
  | 15 => .int
  | 16 => .int
  | 17 => .int
  | 18 => .int
  | 19 => .int
  | 20 => .int
  | 21 => .array .int
  | 22 => .array .int
  | 23 => .array .int
  | 24 => .array .int
  | 25 => .array .int
  | 26 => .array .int
  | 27 => .int
  | 28 => .int
  | 29 => .int
  | 30 => .array .int
  | 31 => .array .int
  | 32 => .int
  | 33 => .array .int
  | 34 => .int
  | 35 => .array .int
  | 36 => .int
  | 37 => .int
  | 38 => .int
  | 39 => .array .int
  | 40 => .array .int
  | _ => .int
theorem n_Model : ∀ a, a < 42 → ∀ b, b < 42 → a ≠ b → (F_Model a).2.1 ≠ (F_Model b).2.1 := by decide +kernel
theorem t_Model_ok : ∀ k, k < 42 → parseFieldDescriptor (F_Model k).2.2.1 = some (t_Model k) := by decide +kernel
/-- words that a callee may take over -/
def ja_tb : List Cond := lw_tbl.filter goodWord
theorem ja_mem (i : Nat) {w : Cond} (h : lw_tbl[i]? = some w) (hg : goodWord w = true) : w ∈ ja_tb := List.mem_filter.mpr ⟨List.mem_of_getElem? h, hg⟩
theorem ja_good {c : Cond} (h : c ∈ ja_tb) : GoodIn ja_tb (c :: ja_tb) := by
  intro w hw
  rcases List.mem_cons.mp hw with rfl | hw
  · exact ⟨h, good_of_word (List.mem_filter.mp h).2⟩
  · exact ⟨hw, good_of_word (List.mem_filter.mp hw).2⟩
theorem ja_in (ws : List Cond) (ps : List Nat) (hp : ws = ps.filterMap (fun i => lw_tbl[i]?)) (hg : ws.all goodWord = true) : ∀ w ∈ ws, w ∈ ja_tb := by
  intro w hw
  have h1 := List.all_eq_true.mp hg w hw
  rw [hp] at hw
  obtain ⟨i, -, hi⟩ := List.mem_filterMap.mp hw
  exact ja_mem i hi h1
set_option maxRecDepth 20000 in
theorem i_History : ∀ w ∈ u_ws R_History F_History 7, w ∈ ja_tb := ja_in _ [195, 197, 199, 201, 203, 205, 207] (by decide +kernel) (by decide +kernel)
set_option maxRecDepth 20000 in
theorem i_LockPlanner : ∀ w ∈ u_ws R_LockPlanner F_LockPlanner 4, w ∈ ja_tb := ja_in _ [268, 270, 272, 274] (by decide +kernel) (by decide +kernel)
set_option maxRecDepth 20000 in
theorem i_Locking : ∀ w ∈ u_ws R_Locking F_Locking 2, w ∈ ja_tb := ja_in _ [224, 226] (by decide +kernel) (by decide +kernel)
set_option maxRecDepth 20000 in
theorem i_Merger : ∀ w ∈ u_ws R_Merger F_Merger 5, w ∈ ja_tb := ja_in _ [290, 292, 294, 296, 298] (by decide +kernel) (by decide +kernel)
set_option maxRecDepth 20000 in
theorem i_Search : ∀ w ∈ u_ws R_Search F_Search 5, w ∈ ja_tb := ja_in _ [243, 245, 247, 249, 251] (by decide +kernel) (by decide +kernel)
set_option maxRecDepth 20000 in
theorem i_Sheet : ∀ w ∈ u_ws R_Sheet F_Sheet 9, w ∈ ja_tb := ja_in _ [159, 161, 163, 165, 167, 169, 171, 173, 175] (by decide +kernel) (by decide +kernel)
set_option maxRecDepth 20000 in
theorem i_SheetParser : ∀ w ∈ u_ws R_SheetParser F_SheetParser 6, w ∈ ja_tb := ja_in _ [114, 116, 118, 120, 122, 124] (by decide +kernel) (by decide +kernel)
set_option maxRecDepth 20000 in
theorem i_Frame : ∀ w ∈ u_ws R_Frame F_Frame 16, w ∈ ja_tb := ja_in _ [317, 319, 321, 323, 325, 327, 329, 331, 333, 335, 337, 339, 341, 343, 345, 347] (by decide +kernel) (by decide +kernel)
set_option maxRecDepth 20000 in
theorem i_Model : ∀ w ∈ u_ws R_Model F_Model 42, w ∈ ja_tb := ja_in _ [1030, 1032, 1034, 1036, 1038, 1040, 1042, 1044, 1046, 1048, 1050, 1052, 1054, 1056, 1058, 1060, 1062, 1064, 1066, 1068, 1070, 1072, 1074, 1076, 1078, 1080, 1082, 1084, 1086, 1088, 1090, 1092, 1094, 1096, 1098, 1100, 1102, 1104, 1106, 1108, 1110, 1112] (by decide +kernel) (by decide +kernel)
abbrev classes : List vw_C := [(R_History, F_History, 7), (R_LockPlanner, F_LockPlanner, 4), (R_Locking, F_Locking, 2), (R_Merger, F_Merger, 5), (R_Search, F_Search, 5), (R_Sheet, F_Sheet, 9), (R_SheetParser, F_SheetParser, 6), (R_Frame, F_Frame, 16), (R_Model, F_Model, 42)]
end
section
/-! a method: code, locals, its class, its name, what it returns, frames and words that it needs -/
abbrev ja_M : Type := ByteArray × Nat × String × String × Option FieldType × Nat × Nat
abbrev ja_G : Type := Program × Launch × Env × Room × State × MethodId × Array Value × List Frame × Method × Code
abbrev ja_X : Type := va_G × ClassId × ClassId
/-- where it began: addresses, cells, slots, how many of both it may make, which cells are its -/
abbrev ja_B : Type := (Nat → Nat) × Nat × Nat × Nat × Nat × (Nat → Prop)
abbrev ja_C : Type := ja_G × ja_X × ja_B × (ja_Z → State → Prop) × Nat × (Nat → Int32)
def ja_rv (j : Nat) : Int64 := match j with
  | 0 => -6148914691236517206
  | 1 => -3689348814741910324
  | 2 => -1085102592571150096
  | 3 => -71777214294589696
  | 4 => -281470681808896
  | _ => -4294967296
/-- what lies outside and never changes: the static table, the text constants -/
def ja_F (nk : List (String × Nat × MethodName × String)) (N : Nat) (len : List Nat) (byt : List (List Int32)) (rf : Nat → String × Nat × String) (ad : Nat → Nat) (A : Nat → Prop) (U : State) (H : Heap) : Prop :=
  va_Z "InterlockingFrame$Locking" "REVERSED_IN_WORD" "[J" (.ref (ad 2000)) A U H ∧ va_T .long (ad 2000) 6 (fun j => .long (ja_rv j)) A U H ∧ va_Z "java/lang/String" "COMPACT_STRINGS" "Z" (.int 1) A U H ∧ (va_Z "jdk/internal/util/Preconditions" "SIOOBE_FORMATTE\x52" "Ljava/util/function/BiFunction;" .null A U H ∨ va_Z "jdk/internal/util/Preconditions" "SIOOBE_FORMATTE\x52" "Ljava/util/function/BiFunction;" (.ref (ad 2001)) A U H) ∧ vk_S N len byt (fun i => ad (1000 + i)) (fun i => ad (1100 + i)) A U H ∧ (∀ i, i < N → vk_R (rf i).1 (rf i).2.1 (rf i).2.2 (ad (1000 + i)) U) ∧ ∀ q ∈ nk, va_Nw (.methodLinkNest q.1 q.2.1 q.2.2.1 q.2.2.2) U
def ja_ln : List Nat := [6, 1, 5, 8, 5, 4, 8, 6, 5, 8, 65]
def ja_by : List (List Int32) := [[108, 101, 118, 101, 114, 115], [59], [108, 111, 99, 107, 115], [114, 101, 108, 101, 97, 115, 101, 115], [104, 111, 108, 100, 115], [119, 104, 101, 110], [114, 101, 118, 101, 114, 115, 101, 100], [110, 111, 114, 109, 97, 108], [114, 111, 117, 116, 101], [99, 111, 110, 102, 108, 105, 99, 116], [32, 108, 101, 118, 101, 114, 115, 32, 114, 111, 117, 116, 101, 32, 99, 111, 110, 102, 108, 105, 99, 116, 32, 119, 104, 101, 110, 32, 108, 111, 99, 107, 115, 32, 114, 101, 108, 101, 97, 115, 101, 115, 32, 104, 111, 108, 100, 115, 32, 110, 111, 114, 109, 97, 108, 32, 114, 101, 118, 101, 114, 115, 101, 100, 32]]
def ja_sr (i : Nat) : String × Nat × String := match i with
  | 0 => ("InterlockingFrame$SheetParse\x72", 51, "levers")
  | 1 => ("InterlockingFrame$SheetParse\x72", 70, ";")
  | 2 => ("InterlockingFrame$SheetParse\x72", 123, "locks")
  | 3 => ("InterlockingFrame$SheetParse\x72", 125, "releases")
  | 4 => ("InterlockingFrame$SheetParse\x72", 127, "holds")
  | 5 => ("InterlockingFrame$SheetParse\x72", 107, "when")
  | 6 => ("InterlockingFrame$SheetParse\x72", 129, "reversed")
  | 7 => ("InterlockingFrame$SheetParse\x72", 131, "normal")
  | 8 => ("InterlockingFrame$SheetParse\x72", 82, "route")
  | 9 => ("InterlockingFrame$SheetParse\x72", 90, "conflict")
  | _ => ("InterlockingFrameModel", 104, " levers route conflict when locks releases holds normal reversed ")
def ja_nk : List (String × Nat × MethodName × String) := [("InterlockingFrame", 28, ⟨"InterlockingFrame$Sheet", "<init>", "()V"⟩, "InterlockingFrame"), ("InterlockingFrame", 38, ⟨"InterlockingFrame$History", "<init>", "()V"⟩, "InterlockingFrame"), ("InterlockingFrame$Search", 11, ⟨"InterlockingFrame$Locking", "<init>", "()V"⟩, "InterlockingFrame"), ("InterlockingFrame$LockPlanne\x72", 11, ⟨"InterlockingFrame$Locking", "<init>", "()V"⟩, "InterlockingFrame"), ("InterlockingFrame$Merge\x72", 11, ⟨"InterlockingFrame$Sheet", "<init>", "()V"⟩, "InterlockingFrame"), ("InterlockingFrame$LockPlanne\x72", 54, ⟨"InterlockingFrame", "leverPai\x72", "(II)I"⟩, "InterlockingFrame")]
def ja_SF : (Nat → Nat) → (Nat → Prop) → State → Heap → Prop := ja_F ja_nk 11 ja_ln ja_by ja_sr
theorem ja_SF_moved {ad : Nat → Nat} {A : Nat → Prop} {u U : State} {H : Heap} (hW : u.WarmedH U.vm) (h : ja_SF ad A u H) : ja_SF ad A U H := by
  obtain ⟨h1, h2, h3, h4, h5, h6, h7⟩ := h
  exact ⟨va_Z.moved hW.alike h1, va_T.moved hW.alike h2, va_Z.moved hW.alike h3, h4.imp (va_Z.moved hW.alike) (va_Z.moved hW.alike), vk_S.moved hW.alike h5, fun i hi => vk_R.warm hW (h6 i hi), fun q hq => va_Nw.warmM hW (h7 q hq)⟩
theorem ja_SF_same {ad : Nat → Nat} {A : Nat → Prop} {u U : State} {H : Heap} (hv : u.vm = U.vm) (h : ja_SF ad A u H) : ja_SF ad A U H := by
  obtain ⟨h1, h2, h3, h4, h5, h6, h7⟩ := h
  have hA : u.vm.Alike U.vm := hv ▸ Vm.Alike.refl u.vm
  exact ⟨va_Z.moved hA h1, va_T.moved hA h2, va_Z.moved hA h3, h4.imp (va_Z.moved hA) (va_Z.moved hA), vk_S.moved hA h5, fun i hi => vk_R.same hv.symm (h6 i hi), fun q hq => va_Nw.same rfl hv (h7 q hq)⟩
theorem ja_SF_kept {ad : Nat → Nat} {A : Nat → Prop} {U : State} {H H1 : Heap} (h : ja_SF ad A U H) (hq : ∀ a : Nat, a < H.size → ¬ A a → H1[a]? = H[a]?) : ja_SF ad A U H1 := by
  obtain ⟨h1, h2, h3, h4, h5, h6, h7⟩ := h
  exact ⟨h1.kept hq, h2.kept hq, h3.kept hq, h4.imp (fun h => h.kept hq) (fun h => h.kept hq), h5.kept hq, h6, h7⟩
theorem ja_SF_narrow {ad : Nat → Nat} {A B : Nat → Prop} {U : State} {H : Heap} (h : ja_SF ad A U H) (hAB : ∀ q, B q → A q) : ja_SF ad B U H := by
  obtain ⟨h1, h2, h3, h4, h5, h6, h7⟩ := h
  exact ⟨h1.narrow hAB, h2.narrow hAB, h3.narrow hAB, h4.imp (fun h => h.narrow hAB) (fun h => h.narrow hAB), h5.narrow hAB, h6, h7⟩
theorem ja_SF_ad {ad ad' : Nat → Nat} {A : Nat → Prop} {U : State} {H : Heap} (h : ja_SF ad A U H) (he : ∀ k, 1000 ≤ k → ad' k = ad k) : ja_SF ad' A U H := by
  obtain ⟨h1, h2, h3, h4, h5, h6, h7⟩ := h
  have e : (fun i => ad' (1000 + i)) = fun i => ad (1000 + i) := funext fun i => he _ (by omega)
  have e2 : (fun i => ad' (1100 + i)) = fun i => ad (1100 + i) := funext fun i => he _ (by omega)
  refine ⟨?_, ?_, h3, ?_, ?_, fun i hi => ?_, h7⟩
  · rw [he 2000 (by omega)]; exact h1
  · rw [he 2000 (by omega)]; exact h2
  · rw [he 2001 (by omega)]; exact h4
  · rw [e, e2]; exact h5
  · rw [he _ (by omega)]; exact h6 i hi
def ja_wf (Λ : ja_L) : Prop := ∀ k j i, k < Λ.1 → Λ.2.2.2 k j = some i → i < Λ.1
def ja_inv (C : ja_C) (ad : Nat → Nat) (Λ : ja_L) (σ : ja_S) (H : Heap) (locs : List Loc) : Prop := match C with
  | ⟨⟨_, _, _, _, s, _, _, _, _, _⟩, ⟨D, cI, cJ⟩, ⟨ad0, n0, sl0, MC, MS, A⟩, _, _⟩ =>
    va_P D classes (ja_wl cI cJ Λ σ ad) H ∧ va_D A (ja_wl cI cJ Λ σ ad) ∧ va_S A s.heap H locs ∧ (∀ k, k < n0 ∨ Λ.1 ≤ k → ad k = ad0 k) ∧ (n0 ≤ Λ.1 ∧ sl0 ≤ Λ.2.1 ∧ Λ.1 - n0 ≤ MC ∧ Λ.2.1 - sl0 ≤ MS ∧ Λ.1 ≤ 1000 ∧ ja_wf Λ)
def ja_W (C : ja_C) (Λ : ja_L) (H : Heap) (locs : List Loc) (zz : ja_Z) (pc : Nat) (ls : Array Slot) (st : List Value) : Prop := match C with
  | ⟨⟨p, l, e, R, s, m, args, below, meth, c⟩, _, ⟨_, n0, sl0, _, _, _⟩, Qf, _⟩ => W p l e R s m args below meth c H locs (Λ.1 - n0) (Λ.2.1 - sl0) (Qf zz) (F0 m pc ls st)
/-- what the instruction of a return must be, by what the method returns -/
def ja_ri (r : Option FieldType) (v : Option Value) : Option Instr := match r, v with
  | none, none => some .return_
  | some .int, some (.int _) => some .ireturn
  | some .boolean, some (.int x) => if x = 0 ∨ x = 1 then some .ireturn else none
  | some .byte, some (.int x) => if narrow .byte (.int x) = .int x then some .ireturn else none
  | some .char, some (.int x) => if narrow .char (.int x) = .int x then some .ireturn else none
  | some .long, some (.long _) => some .lreturn
  | some (.object _), some (.ref _) => some .areturn
  | _, _ => none
def ja_ok (M : ja_M) (C : ja_C) : Prop := match C with
  | ⟨⟨p, _, _, R, s, m, args, _, meth, c⟩, ⟨D, cI, cJ⟩, ⟨ad0, _, _, MC, MS, A⟩, _, ⟨L, xs⟩⟩ =>
    CallFix p m c M.1 M.2.1 s args ja_tb M.2.2.1 ∧ va_K D classes [(cI, .int), (cJ, .long)] s ∧ (∀ q, s.heap.size ≤ q → A q) ∧ ja_SF ad0 A s s.heap ∧ (M.2.2.2.2.2.1 ≤ R.frames ∧ M.2.2.2.2.2.2 ≤ R.locals ∧ MC ≤ R.cells ∧ MS ≤ R.slots) ∧ (M.2.2.2.1 = "<init>" → meth.name = "<init>") ∧ (L = 0 ∨ va_X (ad0 3000) L xs s s.heap ∧ ad0 3000 < s.heap.size ∧ ¬ A (ad0 3000)) ∧
    ∀ v ad Λ σ H locs pc ls, decode M.1 pc = .ok ((ja_ri M.2.2.2.2.1 v).getD .nop, 1) → (ja_ri M.2.2.2.2.1 v).isSome = true → ja_inv C ad Λ σ H locs → ja_W C Λ H locs (v, Λ, σ) pc ls (v.toList.map (ja_cv ad))
/-- from here the method comes to its end with zz -/
def ja_J (M : ja_M) (C : ja_C) (pc : Nat) (lv : List (Nat × Value)) (st : List Value) (Λ : ja_L) (σ : ja_S) (zz : ja_Z) : Prop :=
  ja_ok M C → ∀ ad H locs ls, ja_inv C ad Λ σ H locs → lv_has ls M.2.1 (ja_cl ad lv) → ja_W C Λ H locs zz pc ls (st.map (ja_cv ad))
section JA
variable {M : ja_M} {C : ja_C} {pc : Nat} {lv lv' : List (Nat × Value)} {st : List Value} {Λ : ja_L} {σ : ja_S} {zz : ja_Z}
theorem ja_iconst {n : Int} {v : Int32} (hd : decode M.1 pc = .ok (.iconst n, 1)) (hv : Int32.ofInt n = v) (k : ja_J M C (pc + 1) lv (.int v :: st) Λ σ zz) : ja_J M C pc lv (st) Λ σ zz := by
  obtain ⟨⟨p, l, e, R, s, m, args, below, meth, c⟩, ⟨D, cI, cJ⟩, ⟨ad0, n0, sl0, MC, MS, A⟩, Qf, L, xs⟩ := C
  intro ok ad H locs ls iv hl
  exact lv_iconst  (rest := st.map (ja_cv ad)) ok.1.1 ok.1.2.1 hd hv (k ok ad H locs ls iv hl)
theorem ja_bipush {n : Int} {v : Int32} (hd : decode M.1 pc = .ok (.bipush n, 2)) (hv : (Int8.ofInt n).toInt32 = v) (k : ja_J M C (pc + 2) lv (.int v :: st) Λ σ zz) : ja_J M C pc lv (st) Λ σ zz := by
  obtain ⟨⟨p, l, e, R, s, m, args, below, meth, c⟩, ⟨D, cI, cJ⟩, ⟨ad0, n0, sl0, MC, MS, A⟩, Qf, L, xs⟩ := C
  intro ok ad H locs ls iv hl
  exact lv_bipush  (rest := st.map (ja_cv ad)) ok.1.1 ok.1.2.1 hd hv (k ok ad H locs ls iv hl)
theorem ja_sipush {n : Int} {v : Int32} (hd : decode M.1 pc = .ok (.sipush n, 3)) (hv : (Int16.ofInt n).toInt32 = v) (k : ja_J M C (pc + 3) lv (.int v :: st) Λ σ zz) : ja_J M C pc lv (st) Λ σ zz := by
  obtain ⟨⟨p, l, e, R, s, m, args, below, meth, c⟩, ⟨D, cI, cJ⟩, ⟨ad0, n0, sl0, MC, MS, A⟩, Qf, L, xs⟩ := C
  intro ok ad H locs ls iv hl
  exact lv_sipush  (rest := st.map (ja_cv ad)) ok.1.1 ok.1.2.1 hd hv (k ok ad H locs ls iv hl)
theorem ja_lconst {n : Fin 2} {v : Int64} (hd : decode M.1 pc = .ok (.lconst n, 1)) (hv : Int64.ofNat (n : Nat) = v) (k : ja_J M C (pc + 1) lv (.long v :: st) Λ σ zz) : ja_J M C pc lv (st) Λ σ zz := by
  obtain ⟨⟨p, l, e, R, s, m, args, below, meth, c⟩, ⟨D, cI, cJ⟩, ⟨ad0, n0, sl0, MC, MS, A⟩, Qf, L, xs⟩ := C
  intro ok ad H locs ls iv hl
  exact lv_lconst  (rest := st.map (ja_cv ad)) ok.1.1 ok.1.2.1 hd hv (k ok ad H locs ls iv hl)
theorem ja_iload_n {f : Fin 4} {i : Nat} {x : Int32} (q : Nat) (hd : decode M.1 pc = .ok (.iload_n f, 1)) (hi : (f : Nat) = i) (hq : lv[q]? = some (i, .int x)) (k : ja_J M C (pc + 1) lv (.int x :: st) Λ σ zz) : ja_J M C pc lv (st) Λ σ zz := by
  obtain ⟨⟨p, l, e, R, s, m, args, below, meth, c⟩, ⟨D, cI, cJ⟩, ⟨ad0, n0, sl0, MC, MS, A⟩, Qf, L, xs⟩ := C
  intro ok ad H locs ls iv hl
  exact lv_iload_n  (rest := st.map (ja_cv ad)) ok.1.1 ok.1.2.1 hd hi (lv_at hl q (ja_cl_at hq)) (k ok ad H locs ls iv hl)
theorem ja_lload_n {f : Fin 4} {i : Nat} {x : Int64} (q : Nat) (hd : decode M.1 pc = .ok (.lload_n f, 1)) (hi : (f : Nat) = i) (hq : lv[q]? = some (i, .long x)) (k : ja_J M C (pc + 1) lv (.long x :: st) Λ σ zz) : ja_J M C pc lv (st) Λ σ zz := by
  obtain ⟨⟨p, l, e, R, s, m, args, below, meth, c⟩, ⟨D, cI, cJ⟩, ⟨ad0, n0, sl0, MC, MS, A⟩, Qf, L, xs⟩ := C
  intro ok ad H locs ls iv hl
  exact lv_lload_n  (rest := st.map (ja_cv ad)) ok.1.1 ok.1.2.1 hd hi (lv_at hl q (ja_cl_at hq)) (k ok ad H locs ls iv hl)
theorem ja_aload_n {f : Fin 4} {i : Nat} {x : Nat} (q : Nat) (hd : decode M.1 pc = .ok (.aload_n f, 1)) (hi : (f : Nat) = i) (hq : lv[q]? = some (i, .ref x)) (k : ja_J M C (pc + 1) lv (.ref x :: st) Λ σ zz) : ja_J M C pc lv (st) Λ σ zz := by
  obtain ⟨⟨p, l, e, R, s, m, args, below, meth, c⟩, ⟨D, cI, cJ⟩, ⟨ad0, n0, sl0, MC, MS, A⟩, Qf, L, xs⟩ := C
  intro ok ad H locs ls iv hl
  exact lv_aload_n  (rest := st.map (ja_cv ad)) ok.1.1 ok.1.2.1 hd hi (lv_at hl q (ja_cl_at hq)) (k ok ad H locs ls iv hl)
theorem ja_iload {i : Nat} {x : Int32} (q : Nat) (hd : decode M.1 pc = .ok (.iload i, 2)) (hq : lv[q]? = some (i, .int x)) (k : ja_J M C (pc + 2) lv (.int x :: st) Λ σ zz) : ja_J M C pc lv (st) Λ σ zz := by
  obtain ⟨⟨p, l, e, R, s, m, args, below, meth, c⟩, ⟨D, cI, cJ⟩, ⟨ad0, n0, sl0, MC, MS, A⟩, Qf, L, xs⟩ := C
  intro ok ad H locs ls iv hl
  exact lv_iload  (rest := st.map (ja_cv ad)) ok.1.1 ok.1.2.1 hd (lv_at hl q (ja_cl_at hq)) (k ok ad H locs ls iv hl)
theorem ja_lload {i : Nat} {x : Int64} (q : Nat) (hd : decode M.1 pc = .ok (.lload i, 2)) (hq : lv[q]? = some (i, .long x)) (k : ja_J M C (pc + 2) lv (.long x :: st) Λ σ zz) : ja_J M C pc lv (st) Λ σ zz := by
  obtain ⟨⟨p, l, e, R, s, m, args, below, meth, c⟩, ⟨D, cI, cJ⟩, ⟨ad0, n0, sl0, MC, MS, A⟩, Qf, L, xs⟩ := C
  intro ok ad H locs ls iv hl
  exact lv_lload  (rest := st.map (ja_cv ad)) ok.1.1 ok.1.2.1 hd (lv_at hl q (ja_cl_at hq)) (k ok ad H locs ls iv hl)
theorem ja_aload {i : Nat} {x : Nat} (q : Nat) (hd : decode M.1 pc = .ok (.aload i, 2)) (hq : lv[q]? = some (i, .ref x)) (k : ja_J M C (pc + 2) lv (.ref x :: st) Λ σ zz) : ja_J M C pc lv (st) Λ σ zz := by
  obtain ⟨⟨p, l, e, R, s, m, args, below, meth, c⟩, ⟨D, cI, cJ⟩, ⟨ad0, n0, sl0, MC, MS, A⟩, Qf, L, xs⟩ := C
  intro ok ad H locs ls iv hl
  exact lv_aload  (rest := st.map (ja_cv ad)) ok.1.1 ok.1.2.1 hd (lv_at hl q (ja_cl_at hq)) (k ok ad H locs ls iv hl)
theorem ja_istore_n {f : Fin 4} {i : Nat} {x : Int32} (hd : decode M.1 pc = .ok (.istore_n f, 1)) (hi : (f : Nat) = i) (hn : i < M.2.1) (hl' : (i, Value.int x) :: lv.filter (fun q => !(q.1 == i) && !(q.1 + 1 == i && q.2.category == 2)) = lv') (k : ja_J M C (pc + 1) lv' st Λ σ zz) : ja_J M C pc lv (.int x :: st) Λ σ zz := by
  obtain ⟨⟨p, l, e, R, s, m, args, below, meth, c⟩, ⟨D, cI, cJ⟩, ⟨ad0, n0, sl0, MC, MS, A⟩, Qf, L, xs⟩ := C
  intro ok ad H locs ls iv hl
  exact lv_istore_n (rest := st.map (ja_cv ad)) ok.1.1 ok.1.2.1 hd hi hl hn (by rw [ja_cl_f1, ← hl']; rfl) (fun ls' hl2 => k ok ad H locs ls' iv hl2)
theorem ja_lstore_n {f : Fin 4} {i : Nat} {x : Int64} (hd : decode M.1 pc = .ok (.lstore_n f, 1)) (hi : (f : Nat) = i) (hn : i + 1 < M.2.1) (hl' : (i, Value.long x) :: lv.filter (fun q => !(q.1 == i) && (!(q.1 == i + 1) && !(q.1 + 1 == i && q.2.category == 2))) = lv') (k : ja_J M C (pc + 1) lv' st Λ σ zz) : ja_J M C pc lv (.long x :: st) Λ σ zz := by
  obtain ⟨⟨p, l, e, R, s, m, args, below, meth, c⟩, ⟨D, cI, cJ⟩, ⟨ad0, n0, sl0, MC, MS, A⟩, Qf, L, xs⟩ := C
  intro ok ad H locs ls iv hl
  exact lv_lstore_n (rest := st.map (ja_cv ad)) ok.1.1 ok.1.2.1 hd hi hl hn (by rw [ja_cl_f2, ← hl']; rfl) (fun ls' hl2 => k ok ad H locs ls' iv hl2)
theorem ja_astore_n {f : Fin 4} {i : Nat} {x : Nat} (hd : decode M.1 pc = .ok (.astore_n f, 1)) (hi : (f : Nat) = i) (hn : i < M.2.1) (hl' : (i, Value.ref x) :: lv.filter (fun q => !(q.1 == i) && !(q.1 + 1 == i && q.2.category == 2)) = lv') (k : ja_J M C (pc + 1) lv' st Λ σ zz) : ja_J M C pc lv (.ref x :: st) Λ σ zz := by
  obtain ⟨⟨p, l, e, R, s, m, args, below, meth, c⟩, ⟨D, cI, cJ⟩, ⟨ad0, n0, sl0, MC, MS, A⟩, Qf, L, xs⟩ := C
  intro ok ad H locs ls iv hl
  exact lv_astore_n (rest := st.map (ja_cv ad)) ok.1.1 ok.1.2.1 hd hi hl hn (by rw [ja_cl_f1, ← hl']; rfl) (fun ls' hl2 => k ok ad H locs ls' iv hl2)
theorem ja_istore {i : Nat} {x : Int32} (hd : decode M.1 pc = .ok (.istore i, 2)) (hn : i < M.2.1) (hl' : (i, Value.int x) :: lv.filter (fun q => !(q.1 == i) && !(q.1 + 1 == i && q.2.category == 2)) = lv') (k : ja_J M C (pc + 2) lv' st Λ σ zz) : ja_J M C pc lv (.int x :: st) Λ σ zz := by
  obtain ⟨⟨p, l, e, R, s, m, args, below, meth, c⟩, ⟨D, cI, cJ⟩, ⟨ad0, n0, sl0, MC, MS, A⟩, Qf, L, xs⟩ := C
  intro ok ad H locs ls iv hl
  exact lv_istore (rest := st.map (ja_cv ad)) ok.1.1 ok.1.2.1 hd hl hn (by rw [ja_cl_f1, ← hl']; rfl) (fun ls' hl2 => k ok ad H locs ls' iv hl2)
theorem ja_lstore {i : Nat} {x : Int64} (hd : decode M.1 pc = .ok (.lstore i, 2)) (hn : i + 1 < M.2.1) (hl' : (i, Value.long x) :: lv.filter (fun q => !(q.1 == i) && (!(q.1 == i + 1) && !(q.1 + 1 == i && q.2.category == 2))) = lv') (k : ja_J M C (pc + 2) lv' st Λ σ zz) : ja_J M C pc lv (.long x :: st) Λ σ zz := by
  obtain ⟨⟨p, l, e, R, s, m, args, below, meth, c⟩, ⟨D, cI, cJ⟩, ⟨ad0, n0, sl0, MC, MS, A⟩, Qf, L, xs⟩ := C
  intro ok ad H locs ls iv hl
  exact lv_lstore (rest := st.map (ja_cv ad)) ok.1.1 ok.1.2.1 hd hl hn (by rw [ja_cl_f2, ← hl']; rfl) (fun ls' hl2 => k ok ad H locs ls' iv hl2)
theorem ja_astore {i : Nat} {x : Nat} (hd : decode M.1 pc = .ok (.astore i, 2)) (hn : i < M.2.1) (hl' : (i, Value.ref x) :: lv.filter (fun q => !(q.1 == i) && !(q.1 + 1 == i && q.2.category == 2)) = lv') (k : ja_J M C (pc + 2) lv' st Λ σ zz) : ja_J M C pc lv (.ref x :: st) Λ σ zz := by
  obtain ⟨⟨p, l, e, R, s, m, args, below, meth, c⟩, ⟨D, cI, cJ⟩, ⟨ad0, n0, sl0, MC, MS, A⟩, Qf, L, xs⟩ := C
  intro ok ad H locs ls iv hl
  exact lv_astore (rest := st.map (ja_cv ad)) ok.1.1 ok.1.2.1 hd hl hn (by rw [ja_cl_f1, ← hl']; rfl) (fun ls' hl2 => k ok ad H locs ls' iv hl2)
theorem ja_iinc {i : Nat} {n : Int} {x v : Int32} (q : Nat) (hd : decode M.1 pc = .ok (.iinc i n, 3)) (hq : lv[q]? = some (i, .int x)) (hv : x + Int32.ofInt n = v) (hn : i < M.2.1) (hl' : (i, Value.int v) :: lv.filter (fun q => !(q.1 == i) && !(q.1 + 1 == i && q.2.category == 2)) = lv') (k : ja_J M C (pc + 3) lv' st Λ σ zz) : ja_J M C pc lv st Λ σ zz := by
  obtain ⟨⟨p, l, e, R, s, m, args, below, meth, c⟩, ⟨D, cI, cJ⟩, ⟨ad0, n0, sl0, MC, MS, A⟩, Qf, L, xs⟩ := C
  intro ok ad H locs ls iv hl
  exact lv_iinc (rest := st.map (ja_cv ad)) ok.1.1 ok.1.2.1 hd hl (ja_cl_at hq) hv hn (by rw [ja_cl_f1, ← hl']; rfl) (fun ls' hl2 => k ok ad H locs ls' iv hl2)
theorem ja_iadd {x y : Int32} (hd : decode M.1 pc = .ok (.iadd, 1))  (k : ja_J M C (pc + 1) lv (.int (x + y) :: st) Λ σ zz) : ja_J M C pc lv (.int y :: .int x :: st) Λ σ zz := by
  obtain ⟨⟨p, l, e, R, s, m, args, below, meth, c⟩, ⟨D, cI, cJ⟩, ⟨ad0, n0, sl0, MC, MS, A⟩, Qf, L, xs⟩ := C
  intro ok ad H locs ls iv hl
  exact lv_iadd (x := x) (y := y) (rest := st.map (ja_cv ad)) ok.1.1 ok.1.2.1 hd  (k ok ad H locs ls iv hl)
theorem ja_isub {x y : Int32} (hd : decode M.1 pc = .ok (.isub, 1))  (k : ja_J M C (pc + 1) lv (.int (x - y) :: st) Λ σ zz) : ja_J M C pc lv (.int y :: .int x :: st) Λ σ zz := by
  obtain ⟨⟨p, l, e, R, s, m, args, below, meth, c⟩, ⟨D, cI, cJ⟩, ⟨ad0, n0, sl0, MC, MS, A⟩, Qf, L, xs⟩ := C
  intro ok ad H locs ls iv hl
  exact lv_isub (x := x) (y := y) (rest := st.map (ja_cv ad)) ok.1.1 ok.1.2.1 hd  (k ok ad H locs ls iv hl)
theorem ja_imul {x y : Int32} (hd : decode M.1 pc = .ok (.imul, 1))  (k : ja_J M C (pc + 1) lv (.int (x * y) :: st) Λ σ zz) : ja_J M C pc lv (.int y :: .int x :: st) Λ σ zz := by
  obtain ⟨⟨p, l, e, R, s, m, args, below, meth, c⟩, ⟨D, cI, cJ⟩, ⟨ad0, n0, sl0, MC, MS, A⟩, Qf, L, xs⟩ := C
  intro ok ad H locs ls iv hl
  exact lv_imul (x := x) (y := y) (rest := st.map (ja_cv ad)) ok.1.1 ok.1.2.1 hd  (k ok ad H locs ls iv hl)
theorem ja_iand {x y : Int32} (hd : decode M.1 pc = .ok (.iand, 1))  (k : ja_J M C (pc + 1) lv (.int (x &&& y) :: st) Λ σ zz) : ja_J M C pc lv (.int y :: .int x :: st) Λ σ zz := by
  obtain ⟨⟨p, l, e, R, s, m, args, below, meth, c⟩, ⟨D, cI, cJ⟩, ⟨ad0, n0, sl0, MC, MS, A⟩, Qf, L, xs⟩ := C
  intro ok ad H locs ls iv hl
  exact lv_iand (x := x) (y := y) (rest := st.map (ja_cv ad)) ok.1.1 ok.1.2.1 hd  (k ok ad H locs ls iv hl)
theorem ja_ior {x y : Int32} (hd : decode M.1 pc = .ok (.ior, 1))  (k : ja_J M C (pc + 1) lv (.int (x ||| y) :: st) Λ σ zz) : ja_J M C pc lv (.int y :: .int x :: st) Λ σ zz := by
  obtain ⟨⟨p, l, e, R, s, m, args, below, meth, c⟩, ⟨D, cI, cJ⟩, ⟨ad0, n0, sl0, MC, MS, A⟩, Qf, L, xs⟩ := C
  intro ok ad H locs ls iv hl
  exact lv_ior (x := x) (y := y) (rest := st.map (ja_cv ad)) ok.1.1 ok.1.2.1 hd  (k ok ad H locs ls iv hl)
theorem ja_ixor {x y : Int32} (hd : decode M.1 pc = .ok (.ixor, 1))  (k : ja_J M C (pc + 1) lv (.int (x ^^^ y) :: st) Λ σ zz) : ja_J M C pc lv (.int y :: .int x :: st) Λ σ zz := by
  obtain ⟨⟨p, l, e, R, s, m, args, below, meth, c⟩, ⟨D, cI, cJ⟩, ⟨ad0, n0, sl0, MC, MS, A⟩, Qf, L, xs⟩ := C
  intro ok ad H locs ls iv hl
  exact lv_ixor (x := x) (y := y) (rest := st.map (ja_cv ad)) ok.1.1 ok.1.2.1 hd  (k ok ad H locs ls iv hl)
theorem ja_ishl {x y : Int32} (hd : decode M.1 pc = .ok (.ishl, 1))  (k : ja_J M C (pc + 1) lv (.int (x <<< (y &&& 31)) :: st) Λ σ zz) : ja_J M C pc lv (.int y :: .int x :: st) Λ σ zz := by
  obtain ⟨⟨p, l, e, R, s, m, args, below, meth, c⟩, ⟨D, cI, cJ⟩, ⟨ad0, n0, sl0, MC, MS, A⟩, Qf, L, xs⟩ := C
  intro ok ad H locs ls iv hl
  exact lv_ishl (x := x) (y := y) (rest := st.map (ja_cv ad)) ok.1.1 ok.1.2.1 hd  (k ok ad H locs ls iv hl)
theorem ja_ishr {x y : Int32} (hd : decode M.1 pc = .ok (.ishr, 1))  (k : ja_J M C (pc + 1) lv (.int (x >>> (y &&& 31)) :: st) Λ σ zz) : ja_J M C pc lv (.int y :: .int x :: st) Λ σ zz := by
  obtain ⟨⟨p, l, e, R, s, m, args, below, meth, c⟩, ⟨D, cI, cJ⟩, ⟨ad0, n0, sl0, MC, MS, A⟩, Qf, L, xs⟩ := C
  intro ok ad H locs ls iv hl
  exact lv_ishr (x := x) (y := y) (rest := st.map (ja_cv ad)) ok.1.1 ok.1.2.1 hd  (k ok ad H locs ls iv hl)
theorem ja_land {x y : Int64} (hd : decode M.1 pc = .ok (.land, 1))  (k : ja_J M C (pc + 1) lv (.long (x &&& y) :: st) Λ σ zz) : ja_J M C pc lv (.long y :: .long x :: st) Λ σ zz := by
  obtain ⟨⟨p, l, e, R, s, m, args, below, meth, c⟩, ⟨D, cI, cJ⟩, ⟨ad0, n0, sl0, MC, MS, A⟩, Qf, L, xs⟩ := C
  intro ok ad H locs ls iv hl
  exact lv_land (x := x) (y := y) (rest := st.map (ja_cv ad)) ok.1.1 ok.1.2.1 hd  (k ok ad H locs ls iv hl)
theorem ja_lor {x y : Int64} (hd : decode M.1 pc = .ok (.lor, 1))  (k : ja_J M C (pc + 1) lv (.long (x ||| y) :: st) Λ σ zz) : ja_J M C pc lv (.long y :: .long x :: st) Λ σ zz := by
  obtain ⟨⟨p, l, e, R, s, m, args, below, meth, c⟩, ⟨D, cI, cJ⟩, ⟨ad0, n0, sl0, MC, MS, A⟩, Qf, L, xs⟩ := C
  intro ok ad H locs ls iv hl
  exact lv_lor (x := x) (y := y) (rest := st.map (ja_cv ad)) ok.1.1 ok.1.2.1 hd  (k ok ad H locs ls iv hl)
theorem ja_lxor {x y : Int64} (hd : decode M.1 pc = .ok (.lxor, 1))  (k : ja_J M C (pc + 1) lv (.long (x ^^^ y) :: st) Λ σ zz) : ja_J M C pc lv (.long y :: .long x :: st) Λ σ zz := by
  obtain ⟨⟨p, l, e, R, s, m, args, below, meth, c⟩, ⟨D, cI, cJ⟩, ⟨ad0, n0, sl0, MC, MS, A⟩, Qf, L, xs⟩ := C
  intro ok ad H locs ls iv hl
  exact lv_lxor (x := x) (y := y) (rest := st.map (ja_cv ad)) ok.1.1 ok.1.2.1 hd  (k ok ad H locs ls iv hl)
theorem ja_idiv {x y : Int32} (hd : decode M.1 pc = .ok (.idiv, 1)) (hne : ¬ y = 0) (k : ja_J M C (pc + 1) lv (.int (x / y) :: st) Λ σ zz) : ja_J M C pc lv (.int y :: .int x :: st) Λ σ zz := by
  obtain ⟨⟨p, l, e, R, s, m, args, below, meth, c⟩, ⟨D, cI, cJ⟩, ⟨ad0, n0, sl0, MC, MS, A⟩, Qf, L, xs⟩ := C
  intro ok ad H locs ls iv hl
  exact lv_idiv (x := x) (y := y) (rest := st.map (ja_cv ad)) ok.1.1 ok.1.2.1 hd hne (k ok ad H locs ls iv hl)
theorem ja_irem {x y : Int32} (hd : decode M.1 pc = .ok (.irem, 1)) (hne : ¬ y = 0) (k : ja_J M C (pc + 1) lv (.int (x - x / y * y) :: st) Λ σ zz) : ja_J M C pc lv (.int y :: .int x :: st) Λ σ zz := by
  obtain ⟨⟨p, l, e, R, s, m, args, below, meth, c⟩, ⟨D, cI, cJ⟩, ⟨ad0, n0, sl0, MC, MS, A⟩, Qf, L, xs⟩ := C
  intro ok ad H locs ls iv hl
  exact lv_irem (x := x) (y := y) (rest := st.map (ja_cv ad)) ok.1.1 ok.1.2.1 hd hne (k ok ad H locs ls iv hl)
theorem ja_iushr {x y : Int32} (hd : decode M.1 pc = .ok (.iushr, 1))  (k : ja_J M C (pc + 1) lv (.int ((x.toUInt32 >>> (y.toUInt32 &&& Int32.toUInt32 31)).toInt32) :: st) Λ σ zz) : ja_J M C pc lv (.int y :: .int x :: st) Λ σ zz := by
  obtain ⟨⟨p, l, e, R, s, m, args, below, meth, c⟩, ⟨D, cI, cJ⟩, ⟨ad0, n0, sl0, MC, MS, A⟩, Qf, L, xs⟩ := C
  intro ok ad H locs ls iv hl
  exact lv_iushr (x := x) (y := y) (rest := st.map (ja_cv ad)) ok.1.1 ok.1.2.1 hd rfl (k ok ad H locs ls iv hl)
theorem ja_lushr {x : Int64} {y : Int32} (hd : decode M.1 pc = .ok (.lushr, 1))  (k : ja_J M C (pc + 1) lv (.long ((x.toUInt64 >>> (y.toInt64.toUInt64 &&& Int64.toUInt64 63)).toInt64) :: st) Λ σ zz) : ja_J M C pc lv (.int y :: .long x :: st) Λ σ zz := by
  obtain ⟨⟨p, l, e, R, s, m, args, below, meth, c⟩, ⟨D, cI, cJ⟩, ⟨ad0, n0, sl0, MC, MS, A⟩, Qf, L, xs⟩ := C
  intro ok ad H locs ls iv hl
  exact lv_lushr (x := x) (y := y) (rest := st.map (ja_cv ad)) ok.1.1 ok.1.2.1 hd rfl (k ok ad H locs ls iv hl)
theorem ja_i2l {x : Int32} (hd : decode M.1 pc = .ok (.i2l, 1))  (k : ja_J M C (pc + 1) lv (.long x.toInt64 :: st) Λ σ zz) : ja_J M C pc lv (.int x :: st) Λ σ zz := by
  obtain ⟨⟨p, l, e, R, s, m, args, below, meth, c⟩, ⟨D, cI, cJ⟩, ⟨ad0, n0, sl0, MC, MS, A⟩, Qf, L, xs⟩ := C
  intro ok ad H locs ls iv hl
  exact lv_i2l (x := x) (rest := st.map (ja_cv ad)) ok.1.1 ok.1.2.1 hd rfl (k ok ad H locs ls iv hl)
theorem ja_i2c {x : Int32} (hd : decode M.1 pc = .ok (.i2c, 1))  (k : ja_J M C (pc + 1) lv (.int (x.toUInt32 % 65536).toInt32 :: st) Λ σ zz) : ja_J M C pc lv (.int x :: st) Λ σ zz := by
  obtain ⟨⟨p, l, e, R, s, m, args, below, meth, c⟩, ⟨D, cI, cJ⟩, ⟨ad0, n0, sl0, MC, MS, A⟩, Qf, L, xs⟩ := C
  intro ok ad H locs ls iv hl
  exact lv_i2c (x := x) (rest := st.map (ja_cv ad)) ok.1.1 ok.1.2.1 hd rfl (k ok ad H locs ls iv hl)
theorem ja_lcmp {x y : Int64} (hd : decode M.1 pc = .ok (.lcmp, 1))  (k : ja_J M C (pc + 1) lv (.int (lg_cmp x y) :: st) Λ σ zz) : ja_J M C pc lv (.long y :: .long x :: st) Λ σ zz := by
  obtain ⟨⟨p, l, e, R, s, m, args, below, meth, c⟩, ⟨D, cI, cJ⟩, ⟨ad0, n0, sl0, MC, MS, A⟩, Qf, L, xs⟩ := C
  intro ok ad H locs ls iv hl
  exact W.lcmp (x := x) (y := y) (rest := st.map (ja_cv ad)) ok.1.1 ok.1.2.1 hd  (k ok ad H locs ls iv hl)
theorem ja_dup {v : Value} (hd : decode M.1 pc = .ok (.dup, 1)) (hv : v.category = 1) (k : ja_J M C (pc + 1) lv (v :: v :: st) Λ σ zz) : ja_J M C pc lv (v :: st) Λ σ zz := by
  obtain ⟨⟨p, l, e, R, s, m, args, below, meth, c⟩, ⟨D, cI, cJ⟩, ⟨ad0, n0, sl0, MC, MS, A⟩, Qf, L, xs⟩ := C
  intro ok ad H locs ls iv hl
  exact lv_dup (va := ja_cv ad v) (rest := st.map (ja_cv ad)) ok.1.1 ok.1.2.1 hd ((ja_cat ad v).trans hv) (k ok ad H locs ls iv hl)
theorem ja_pop {v : Value} (hd : decode M.1 pc = .ok (.pop, 1)) (hv : v.category = 1) (k : ja_J M C (pc + 1) lv (st) Λ σ zz) : ja_J M C pc lv (v :: st) Λ σ zz := by
  obtain ⟨⟨p, l, e, R, s, m, args, below, meth, c⟩, ⟨D, cI, cJ⟩, ⟨ad0, n0, sl0, MC, MS, A⟩, Qf, L, xs⟩ := C
  intro ok ad H locs ls iv hl
  exact lv_pop (va := ja_cv ad v) (rest := st.map (ja_cv ad)) ok.1.1 ok.1.2.1 hd ((ja_cat ad v).trans hv) (k ok ad H locs ls iv hl)
theorem ja_dup_x1 {v w : Value} (hd : decode M.1 pc = .ok (.dup_x1, 1)) (hv : v.category = 1) (hw : w.category = 1) (k : ja_J M C (pc + 1) lv (v :: w :: v :: st) Λ σ zz) : ja_J M C pc lv (v :: w :: st) Λ σ zz := by
  obtain ⟨⟨p, l, e, R, s, m, args, below, meth, c⟩, ⟨D, cI, cJ⟩, ⟨ad0, n0, sl0, MC, MS, A⟩, Qf, L, xs⟩ := C
  intro ok ad H locs ls iv hl
  exact lv_dup_x1 (va := ja_cv ad v) (vb := ja_cv ad w) (rest := st.map (ja_cv ad)) ok.1.1 ok.1.2.1 hd ((ja_cat ad v).trans hv) ((ja_cat ad w).trans hw) (k ok ad H locs ls iv hl)
theorem ja_dup2 {v w : Value} (hd : decode M.1 pc = .ok (.dup2, 1)) (hv : v.category = 1) (hw : w.category = 1) (k : ja_J M C (pc + 1) lv (v :: w :: v :: w :: st) Λ σ zz) : ja_J M C pc lv (v :: w :: st) Λ σ zz := by
  obtain ⟨⟨p, l, e, R, s, m, args, below, meth, c⟩, ⟨D, cI, cJ⟩, ⟨ad0, n0, sl0, MC, MS, A⟩, Qf, L, xs⟩ := C
  intro ok ad H locs ls iv hl
  exact lv_dup2_11 (va := ja_cv ad v) (vb := ja_cv ad w) (rest := st.map (ja_cv ad)) ok.1.1 ok.1.2.1 hd ((ja_cat ad v).trans hv) ((ja_cat ad w).trans hw) (k ok ad H locs ls iv hl)
theorem ja_icmp_eq {x y : Int32} {α : Type} {X Y w : Option α} {off : Int} (tgt : Nat) (hd : decode M.1 pc = .ok (.if_icmp .eq off, 3)) (ht : (pc : Int) + off = (tgt : Int)) (hf : (if x = y then X else Y) = w) (kt : X = w → ja_J M C tgt lv st Λ σ zz) (kf : Y = w → ja_J M C (pc + 3) lv st Λ σ zz) : ja_J M C pc lv (.int y :: .int x :: st) Λ σ zz := by
  obtain ⟨⟨p, l, e, R, s, m, args, below, meth, c⟩, ⟨D, cI, cJ⟩, ⟨ad0, n0, sl0, MC, MS, A⟩, Qf, L, xs⟩ := C
  intro ok ad H locs ls iv hl
  exact lv_icmp_eq (x := x) (y := y) (rest := st.map (ja_cv ad)) ok.1.1 ok.1.2.1 hd ht (fun hc => kt (by rw [← hf, if_pos hc]) ok ad H locs ls iv hl) (fun hc => kf (by rw [← hf, if_neg hc]) ok ad H locs ls iv hl)
theorem ja_if_eq {x : Int32} {α : Type} {X Y w : Option α} {off : Int} (tgt : Nat) (hd : decode M.1 pc = .ok (.ifCond .eq off, 3)) (ht : (pc : Int) + off = (tgt : Int)) (hf : (if x = 0 then X else Y) = w) (kt : X = w → ja_J M C tgt lv st Λ σ zz) (kf : Y = w → ja_J M C (pc + 3) lv st Λ σ zz) : ja_J M C pc lv (.int x :: st) Λ σ zz := by
  obtain ⟨⟨p, l, e, R, s, m, args, below, meth, c⟩, ⟨D, cI, cJ⟩, ⟨ad0, n0, sl0, MC, MS, A⟩, Qf, L, xs⟩ := C
  intro ok ad H locs ls iv hl
  exact lv_if_eq (x := x) (rest := st.map (ja_cv ad)) ok.1.1 ok.1.2.1 hd ht (fun hc => kt (by rw [← hf, if_pos hc]) ok ad H locs ls iv hl) (fun hc => kf (by rw [← hf, if_neg hc]) ok ad H locs ls iv hl)
theorem ja_icmp_ne {x y : Int32} {α : Type} {X Y w : Option α} {off : Int} (tgt : Nat) (hd : decode M.1 pc = .ok (.if_icmp .ne off, 3)) (ht : (pc : Int) + off = (tgt : Int)) (hf : (if x = y then X else Y) = w) (kt : Y = w → ja_J M C tgt lv st Λ σ zz) (kf : X = w → ja_J M C (pc + 3) lv st Λ σ zz) : ja_J M C pc lv (.int y :: .int x :: st) Λ σ zz := by
  obtain ⟨⟨p, l, e, R, s, m, args, below, meth, c⟩, ⟨D, cI, cJ⟩, ⟨ad0, n0, sl0, MC, MS, A⟩, Qf, L, xs⟩ := C
  intro ok ad H locs ls iv hl
  exact lv_icmp_ne (x := x) (y := y) (rest := st.map (ja_cv ad)) ok.1.1 ok.1.2.1 hd ht (fun hc => kt (by rw [← hf, if_neg hc]) ok ad H locs ls iv hl) (fun hc => kf (by rw [← hf, if_pos hc]) ok ad H locs ls iv hl)
theorem ja_if_ne {x : Int32} {α : Type} {X Y w : Option α} {off : Int} (tgt : Nat) (hd : decode M.1 pc = .ok (.ifCond .ne off, 3)) (ht : (pc : Int) + off = (tgt : Int)) (hf : (if x = 0 then X else Y) = w) (kt : Y = w → ja_J M C tgt lv st Λ σ zz) (kf : X = w → ja_J M C (pc + 3) lv st Λ σ zz) : ja_J M C pc lv (.int x :: st) Λ σ zz := by
  obtain ⟨⟨p, l, e, R, s, m, args, below, meth, c⟩, ⟨D, cI, cJ⟩, ⟨ad0, n0, sl0, MC, MS, A⟩, Qf, L, xs⟩ := C
  intro ok ad H locs ls iv hl
  exact lv_if_ne (x := x) (rest := st.map (ja_cv ad)) ok.1.1 ok.1.2.1 hd ht (fun hc => kt (by rw [← hf, if_neg hc]) ok ad H locs ls iv hl) (fun hc => kf (by rw [← hf, if_pos hc]) ok ad H locs ls iv hl)
theorem ja_icmp_lt {x y : Int32} {α : Type} {X Y w : Option α} {off : Int} (tgt : Nat) (hd : decode M.1 pc = .ok (.if_icmp .lt off, 3)) (ht : (pc : Int) + off = (tgt : Int)) (hf : (if x < y then X else Y) = w) (kt : X = w → ja_J M C tgt lv st Λ σ zz) (kf : Y = w → ja_J M C (pc + 3) lv st Λ σ zz) : ja_J M C pc lv (.int y :: .int x :: st) Λ σ zz := by
  obtain ⟨⟨p, l, e, R, s, m, args, below, meth, c⟩, ⟨D, cI, cJ⟩, ⟨ad0, n0, sl0, MC, MS, A⟩, Qf, L, xs⟩ := C
  intro ok ad H locs ls iv hl
  exact lv_icmp_lt (x := x) (y := y) (rest := st.map (ja_cv ad)) ok.1.1 ok.1.2.1 hd ht (fun hc => kt (by rw [← hf, if_pos hc]) ok ad H locs ls iv hl) (fun hc => kf (by rw [← hf, if_neg hc]) ok ad H locs ls iv hl)
theorem ja_if_lt {x : Int32} {α : Type} {X Y w : Option α} {off : Int} (tgt : Nat) (hd : decode M.1 pc = .ok (.ifCond .lt off, 3)) (ht : (pc : Int) + off = (tgt : Int)) (hf : (if x < 0 then X else Y) = w) (kt : X = w → ja_J M C tgt lv st Λ σ zz) (kf : Y = w → ja_J M C (pc + 3) lv st Λ σ zz) : ja_J M C pc lv (.int x :: st) Λ σ zz := by
  obtain ⟨⟨p, l, e, R, s, m, args, below, meth, c⟩, ⟨D, cI, cJ⟩, ⟨ad0, n0, sl0, MC, MS, A⟩, Qf, L, xs⟩ := C
  intro ok ad H locs ls iv hl
  exact lv_if_lt (x := x) (rest := st.map (ja_cv ad)) ok.1.1 ok.1.2.1 hd ht (fun hc => kt (by rw [← hf, if_pos hc]) ok ad H locs ls iv hl) (fun hc => kf (by rw [← hf, if_neg hc]) ok ad H locs ls iv hl)
theorem ja_icmp_ge {x y : Int32} {α : Type} {X Y w : Option α} {off : Int} (tgt : Nat) (hd : decode M.1 pc = .ok (.if_icmp .ge off, 3)) (ht : (pc : Int) + off = (tgt : Int)) (hf : (if y ≤ x then X else Y) = w) (kt : X = w → ja_J M C tgt lv st Λ σ zz) (kf : Y = w → ja_J M C (pc + 3) lv st Λ σ zz) : ja_J M C pc lv (.int y :: .int x :: st) Λ σ zz := by
  obtain ⟨⟨p, l, e, R, s, m, args, below, meth, c⟩, ⟨D, cI, cJ⟩, ⟨ad0, n0, sl0, MC, MS, A⟩, Qf, L, xs⟩ := C
  intro ok ad H locs ls iv hl
  exact lv_icmp_ge (x := x) (y := y) (rest := st.map (ja_cv ad)) ok.1.1 ok.1.2.1 hd ht (fun hc => kt (by rw [← hf, if_pos hc]) ok ad H locs ls iv hl) (fun hc => kf (by rw [← hf, if_neg hc]) ok ad H locs ls iv hl)
theorem ja_if_ge {x : Int32} {α : Type} {X Y w : Option α} {off : Int} (tgt : Nat) (hd : decode M.1 pc = .ok (.ifCond .ge off, 3)) (ht : (pc : Int) + off = (tgt : Int)) (hf : (if 0 ≤ x then X else Y) = w) (kt : X = w → ja_J M C tgt lv st Λ σ zz) (kf : Y = w → ja_J M C (pc + 3) lv st Λ σ zz) : ja_J M C pc lv (.int x :: st) Λ σ zz := by
  obtain ⟨⟨p, l, e, R, s, m, args, below, meth, c⟩, ⟨D, cI, cJ⟩, ⟨ad0, n0, sl0, MC, MS, A⟩, Qf, L, xs⟩ := C
  intro ok ad H locs ls iv hl
  exact lv_if_ge (x := x) (rest := st.map (ja_cv ad)) ok.1.1 ok.1.2.1 hd ht (fun hc => kt (by rw [← hf, if_pos hc]) ok ad H locs ls iv hl) (fun hc => kf (by rw [← hf, if_neg hc]) ok ad H locs ls iv hl)
theorem ja_icmp_gt {x y : Int32} {α : Type} {X Y w : Option α} {off : Int} (tgt : Nat) (hd : decode M.1 pc = .ok (.if_icmp .gt off, 3)) (ht : (pc : Int) + off = (tgt : Int)) (hf : (if y < x then X else Y) = w) (kt : X = w → ja_J M C tgt lv st Λ σ zz) (kf : Y = w → ja_J M C (pc + 3) lv st Λ σ zz) : ja_J M C pc lv (.int y :: .int x :: st) Λ σ zz := by
  obtain ⟨⟨p, l, e, R, s, m, args, below, meth, c⟩, ⟨D, cI, cJ⟩, ⟨ad0, n0, sl0, MC, MS, A⟩, Qf, L, xs⟩ := C
  intro ok ad H locs ls iv hl
  exact lv_icmp_gt (x := x) (y := y) (rest := st.map (ja_cv ad)) ok.1.1 ok.1.2.1 hd ht (fun hc => kt (by rw [← hf, if_pos hc]) ok ad H locs ls iv hl) (fun hc => kf (by rw [← hf, if_neg hc]) ok ad H locs ls iv hl)
theorem ja_if_gt {x : Int32} {α : Type} {X Y w : Option α} {off : Int} (tgt : Nat) (hd : decode M.1 pc = .ok (.ifCond .gt off, 3)) (ht : (pc : Int) + off = (tgt : Int)) (hf : (if 0 < x then X else Y) = w) (kt : X = w → ja_J M C tgt lv st Λ σ zz) (kf : Y = w → ja_J M C (pc + 3) lv st Λ σ zz) : ja_J M C pc lv (.int x :: st) Λ σ zz := by
  obtain ⟨⟨p, l, e, R, s, m, args, below, meth, c⟩, ⟨D, cI, cJ⟩, ⟨ad0, n0, sl0, MC, MS, A⟩, Qf, L, xs⟩ := C
  intro ok ad H locs ls iv hl
  exact lv_if_gt (x := x) (rest := st.map (ja_cv ad)) ok.1.1 ok.1.2.1 hd ht (fun hc => kt (by rw [← hf, if_pos hc]) ok ad H locs ls iv hl) (fun hc => kf (by rw [← hf, if_neg hc]) ok ad H locs ls iv hl)
theorem ja_icmp_le {x y : Int32} {α : Type} {X Y w : Option α} {off : Int} (tgt : Nat) (hd : decode M.1 pc = .ok (.if_icmp .le off, 3)) (ht : (pc : Int) + off = (tgt : Int)) (hf : (if x ≤ y then X else Y) = w) (kt : X = w → ja_J M C tgt lv st Λ σ zz) (kf : Y = w → ja_J M C (pc + 3) lv st Λ σ zz) : ja_J M C pc lv (.int y :: .int x :: st) Λ σ zz := by
  obtain ⟨⟨p, l, e, R, s, m, args, below, meth, c⟩, ⟨D, cI, cJ⟩, ⟨ad0, n0, sl0, MC, MS, A⟩, Qf, L, xs⟩ := C
  intro ok ad H locs ls iv hl
  exact lv_icmp_le (x := x) (y := y) (rest := st.map (ja_cv ad)) ok.1.1 ok.1.2.1 hd ht (fun hc => kt (by rw [← hf, if_pos hc]) ok ad H locs ls iv hl) (fun hc => kf (by rw [← hf, if_neg hc]) ok ad H locs ls iv hl)
theorem ja_if_le {x : Int32} {α : Type} {X Y w : Option α} {off : Int} (tgt : Nat) (hd : decode M.1 pc = .ok (.ifCond .le off, 3)) (ht : (pc : Int) + off = (tgt : Int)) (hf : (if x ≤ 0 then X else Y) = w) (kt : X = w → ja_J M C tgt lv st Λ σ zz) (kf : Y = w → ja_J M C (pc + 3) lv st Λ σ zz) : ja_J M C pc lv (.int x :: st) Λ σ zz := by
  obtain ⟨⟨p, l, e, R, s, m, args, below, meth, c⟩, ⟨D, cI, cJ⟩, ⟨ad0, n0, sl0, MC, MS, A⟩, Qf, L, xs⟩ := C
  intro ok ad H locs ls iv hl
  exact lv_if_le (x := x) (rest := st.map (ja_cv ad)) ok.1.1 ok.1.2.1 hd ht (fun hc => kt (by rw [← hf, if_pos hc]) ok ad H locs ls iv hl) (fun hc => kf (by rw [← hf, if_neg hc]) ok ad H locs ls iv hl)
theorem ja_goto {off : Int} (tgt : Nat) (hd : decode M.1 pc = .ok (.goto off, 3)) (ht : (pc : Int) + off = (tgt : Int)) (k : ja_J M C tgt lv st Λ σ zz) : ja_J M C pc lv st Λ σ zz := by
  obtain ⟨⟨p, l, e, R, s, m, args, below, meth, c⟩, ⟨D, cI, cJ⟩, ⟨ad0, n0, sl0, MC, MS, A⟩, Qf, L, xs⟩ := C
  intro ok ad H locs ls iv hl
  exact lv_goto ok.1.1 ok.1.2.1 hd ht (k ok ad H locs ls iv hl)
theorem ja_ret (v : Option Value) (i : Instr) (hd : decode M.1 pc = .ok (i, 1)) (hi : ja_ri M.2.2.2.2.1 v = some i) (hz : zz = (v, Λ, σ)) : ja_J M C pc lv v.toList Λ σ zz := by
  intro ok ad H locs ls iv hl
  subst hz
  have ok2 := ok
  obtain ⟨⟨p, l, e, R, s, m, args, below, meth, c⟩, ⟨D, cI, cJ⟩, ⟨ad0, n0, sl0, MC, MS, A⟩, Qf, L, xs⟩ := C
  exact ok.2.2.2.2.2.2.2 v ad Λ σ H locs pc ls (by rw [hi]; exact hd) (by rw [hi]; rfl) iv
end JA
theorem ja_bind {α β : Type} {o : Option α} {g : α → Option β} {w : β} {P : Prop} (hf : o.bind g = some w) (k : ∀ a, o = some a → g a = some w → P) : P := by
  cases o with
  | none => cases hf
  | some a => exact k a rfl hf
end
section
/-! rows of the heap -/
/-- a field: class t, place j, its type, whether it is a reference, whether final -/
def ja_fd (own : String) (idx t j : Nat) (isref fin : Bool) (ty : FieldType) : Prop := ∃ (Cn : String) (T : u_T) (NN : Nat) (ty0 : Nat → FieldType), classes[t]? = some (Cn, T, NN) ∧ (∀ w ∈ u_ws Cn T NN, w ∈ ja_tb) ∧ j < NN ∧ Cond.fieldLink own idx (T j).1 (T j).2.1 (T j).2.2.1 ∈ ja_tb ∧ (ja_kd t).getD j false = isref ∧ (ja_kd t).length = NN ∧ (∀ k, k < NN → parseFieldDescriptor (T k).2.2.1 = some (ty0 k)) ∧ (∀ a, a < NN → ∀ b, b < NN → a ≠ b → (T a).2.1 ≠ (T b).2.1) ∧ (T j).2.2.2 = fin ∧ ty0 j = ty ∧ (fin = true → (T j).1 = own)
/-- the cell k is an object of class t; a row of ints; of longs -/
def ja_ob (Λ : ja_L) (t k : Nat) : Prop := k < Λ.1 ∧ (Λ.2.2.1 k).1 = t + 2
def ja_ai (Λ : ja_L) (k : Nat) : Prop := k < Λ.1 ∧ (Λ.2.2.1 k).1 = 0
def ja_al (Λ : ja_L) (k : Nat) : Prop := k < Λ.1 ∧ (Λ.2.2.1 k).1 = 1
def ja_len (Λ : ja_L) (k : Nat) : Nat := (Λ.2.2.1 k).2
theorem ja_wl_o {cI cJ : ClassId} {Λ : ja_L} {σ : ja_S} {ad : Nat → Nat} {k t : Nat} (hk : ja_ob Λ t k) : (ja_wl cI cJ Λ σ ad)[k]? = some (ad k, .inr (t, ja_fl Λ σ ad k t)) := by rw [ja_wl_at hk.1, ja_ce_o hk.2]
theorem ja_wl_i {cI cJ : ClassId} {Λ : ja_L} {σ : ja_S} {ad : Nat → Nat} {k : Nat} (hk : ja_ai Λ k) : (ja_wl cI cJ Λ σ ad)[k]? = some (ad k, .inl (cI, ja_len Λ k, .inl (σ.1 k))) := by rw [ja_wl_at hk.1, ja_ce_i hk.2]; rfl
theorem ja_wl_l {cI cJ : ClassId} {Λ : ja_L} {σ : ja_S} {ad : Nat → Nat} {k : Nat} (hk : ja_al Λ k) : (ja_wl cI cJ Λ σ ad)[k]? = some (ad k, .inl (cJ, ja_len Λ k, .inr (.inl (σ.2 k)))) := by rw [ja_wl_at hk.1, ja_ce_l hk.2]; rfl
def ja_ld (Λ : ja_L) (σ : ja_S) (k : Nat) (i : Int32) : Option Int32 := if 0 ≤ i.toInt ∧ i.toInt < ja_len Λ k then some (σ.1 k i.toInt.toNat) else none
def ja_ldl (Λ : ja_L) (σ : ja_S) (k : Nat) (i : Int32) : Option Int64 := if 0 ≤ i.toInt ∧ i.toInt < ja_len Λ k then some (σ.2 k i.toInt.toNat) else none
def ja_st (Λ : ja_L) (σ : ja_S) (k : Nat) (i : Int32) (v : Int32) : Option ja_S := if 0 ≤ i.toInt ∧ i.toInt < ja_len Λ k then some (ja_si σ k i.toInt.toNat v) else none
def ja_stl (Λ : ja_L) (σ : ja_S) (k : Nat) (i : Int32) (v : Int64) : Option ja_S := if 0 ≤ i.toInt ∧ i.toInt < ja_len Λ k then some (ja_sl σ k i.toInt.toNat v) else none
def ja_ldt (i : Int32) : Option Int64 := if 0 ≤ i.toInt ∧ i.toInt < 6 then some (ja_rv i.toInt.toNat) else none
def ja_cpi (Λ : ja_L) (σ : ja_S) (a : Nat) (sp : Int32) (b : Nat) (dp n : Int32) : Option ja_S := if 0 ≤ sp.toInt ∧ 0 ≤ dp.toInt ∧ 0 ≤ n.toInt ∧ sp.toInt + n.toInt ≤ ja_len Λ a ∧ dp.toInt + n.toInt ≤ ja_len Λ b then some (va_up σ.1 b (va_cpy (σ.1 a) (σ.1 b) sp.toInt.toNat dp.toInt.toNat n.toInt.toNat), σ.2) else none
def ja_cpl (Λ : ja_L) (σ : ja_S) (a : Nat) (sp : Int32) (b : Nat) (dp n : Int32) : Option ja_S := if 0 ≤ sp.toInt ∧ 0 ≤ dp.toInt ∧ 0 ≤ n.toInt ∧ sp.toInt + n.toInt ≤ ja_len Λ a ∧ dp.toInt + n.toInt ≤ ja_len Λ b then some (σ.1, va_up σ.2 b (va_cpy (σ.2 a) (σ.2 b) sp.toInt.toNat dp.toInt.toNat n.toInt.toNat)) else none
theorem ja_ite {α : Type} {p : Prop} {_ : Decidable p} {a b : α} (h : (if p then some a else none) = some b) : p ∧ a = b := by
  by_cases hp : p
  · rw [if_pos hp] at h
    exact ⟨hp, Option.some.inj h⟩
  · rw [if_neg hp] at h
    cases h
theorem ja_vp {i : Int32} {n : Nat} (h : 0 ≤ i.toInt ∧ i.toInt < n) : vp_in i n := vp_in_iff.mpr h
theorem ja_nn {z : Int32} (h : 0 ≤ z.toInt) : ¬ z < 0 := by
  intro q
  have := Int32.lt_iff_toInt_lt.mp q
  rw [Int32.toInt_zero] at this
  omega
section JH
variable {M : ja_M} {C : ja_C} {pc : Nat} {lv : List (Nat × Value)} {st : List Value} {Λ : ja_L} {σ : ja_S} {zz : ja_Z}
theorem ja_geti {idx t j k : Nat} {fin : Bool} {ty : FieldType} (hd : decode M.1 pc = .ok (.getfield idx, 3)) (hF : ja_fd M.2.2.1 idx t j false fin ty) (hk : ja_ob Λ t k) (kk : ja_J M C (pc + 3) lv (.int (σ.1 k j) :: st) Λ σ zz) : ja_J M C pc lv (.ref k :: st) Λ σ zz := by
  obtain ⟨⟨p, l, e, R, s, m, args, below, meth, c⟩, ⟨D, cI, cJ⟩, ⟨ad0, n0, sl0, MC, MS, A⟩, Qf, L, xs⟩ := C
  intro ok ad H locs ls iv hl
  obtain ⟨Cn, T, NN, ty0, h1, h2, h3, h4, h5, h6, -⟩ := hF
  exact va_get (rest := st.map (ja_cv ad)) ok.1.1 ok.1.2.1 ok.1.2.2.2.2 h2 ok.1.2.2.2.1 ok.2.1 iv.1 k (ja_wl_o hk) h1 j h3 (ok.1.2.2.2.2 _ h4) (fun _ h => h) ((ja_fl_at (by omega)).trans (by rw [h5]; rfl)) hd (kk ok ad H locs ls iv hl)
theorem ja_getr {idx t j k k' : Nat} {fin : Bool} {ty : FieldType} (hd : decode M.1 pc = .ok (.getfield idx, 3)) (hF : ja_fd M.2.2.1 idx t j true fin ty) (hk : ja_ob Λ t k) (hr : Λ.2.2.2 k j = some k') (kk : ja_J M C (pc + 3) lv (.ref k' :: st) Λ σ zz) : ja_J M C pc lv (.ref k :: st) Λ σ zz := by
  obtain ⟨⟨p, l, e, R, s, m, args, below, meth, c⟩, ⟨D, cI, cJ⟩, ⟨ad0, n0, sl0, MC, MS, A⟩, Qf, L, xs⟩ := C
  intro ok ad H locs ls iv hl
  obtain ⟨Cn, T, NN, ty0, h1, h2, h3, h4, h5, h6, -⟩ := hF
  exact va_get (rest := st.map (ja_cv ad)) ok.1.1 ok.1.2.1 ok.1.2.2.2.2 h2 ok.1.2.2.2.1 ok.2.1 iv.1 k (ja_wl_o hk) h1 j h3 (ok.1.2.2.2.2 _ h4) (fun _ h => h) ((ja_fl_at (by omega)).trans (by rw [h5, hr]; rfl)) hd (kk ok ad H locs ls iv hl)
theorem ja_ce_si {cI cJ : ClassId} {Λ : ja_L} {σ : ja_S} {ad : Nat → Nat} {k j : Nat} {v : Int32} : ∀ i, i ≠ k → ja_ce cI cJ Λ (ja_si σ k j v) ad i = ja_ce cI cJ Λ σ ad i := by
  intro i hi
  have e : (ja_si σ k j v).1 i = σ.1 i := va_up_ne _ _ hi
  unfold ja_ce
  rw [e, show (ja_si σ k j v).2 = σ.2 from rfl]
  split <;> (try rfl)
  unfold ja_fl
  rw [e]
theorem ja_ce_sl {cI cJ : ClassId} {Λ : ja_L} {σ : ja_S} {ad : Nat → Nat} {k j : Nat} {v : Int64} : ∀ i, i ≠ k → ja_ce cI cJ Λ (ja_sl σ k j v) ad i = ja_ce cI cJ Λ σ ad i := by
  intro i hi
  have e : (ja_sl σ k j v).2 i = σ.2 i := va_up_ne _ _ hi
  unfold ja_ce
  rw [e, show (ja_sl σ k j v).1 = σ.1 from rfl]
  rfl
theorem ja_puti {idx t j k : Nat} {v : Int32} {ty : FieldType} (hd : decode M.1 pc = .ok (.putfield idx, 3)) (hF : ja_fd M.2.2.1 idx t j false false ty) (hk : ja_ob Λ t k) (hv : narrow ty (.int v) = .int v ∧ fits ty (.int v) = true) (kk : ja_J M C (pc + 3) lv st Λ (ja_si σ k j v) zz) : ja_J M C pc lv (.int v :: .ref k :: st) Λ σ zz := by
  obtain ⟨⟨p, l, e, R, s, m, args, below, meth, c⟩, ⟨D, cI, cJ⟩, ⟨ad0, n0, sl0, MC, MS, A⟩, Qf, L, xs⟩ := C
  intro ok ad H locs ls iv hl
  obtain ⟨Cn, T, NN, ty0, h1, h2, h3, h4, h5, h6, h7, h8, h9, h10, -⟩ := hF
  obtain ⟨iP, iD, iS, i4⟩ := iv
  refine va_put (v := .int v) (rest := st.map (ja_cv ad)) ok.1.1 ok.1.2.1 ok.1.2.2.2.2 h2 ty0 h7 h8 ok.1.2.2.2.1 ok.2.1 iP iD iS k (ja_wl_o hk) h1 j h3 (ok.1.2.2.2.2 _ h4) (fun _ h => h) h9 (ty := ty) (by rw [h7 j h3, h10]) hv.1 hv.2 (by rw [ja_fl_len]; omega) hd (fun H1 locs1 hP hD hS => ?_)
  have e : (ja_wl cI cJ Λ σ ad).set k (ad k, .inr (t, (ja_fl Λ σ ad k t).set j (.int v))) = ja_wl cI cJ Λ (ja_si σ k j v) ad := by
    refine ja_wl_set rfl ?_ ja_ce_si
    rw [ja_ce_o hk.2]
    congr 2
    refine (ja_fl_set ?_ ?_).symm
    · rw [h5]
      show Value.int (va_up σ.1 k _ k j) = _
      rw [va_up_self]
      simp [upd]
    · intro i hi
      refine ⟨rfl, ?_⟩
      show va_up σ.1 k _ k i = _
      rw [va_up_self]
      simp [upd, hi]
  rw [e] at hP hD
  exact kk ok ad H1 locs1 ls ⟨hP, hD, hS, i4⟩ hl
theorem ja_iald {k : Nat} {i v : Int32} (hd : decode M.1 pc = .ok (.iaload, 1)) (hk : ja_ai Λ k) (hv : ja_ld Λ σ k i = some v) (kk : ja_J M C (pc + 1) lv (.int v :: st) Λ σ zz) : ja_J M C pc lv (.int i :: .ref k :: st) Λ σ zz := by
  obtain ⟨⟨p, l, e, R, s, m, args, below, meth, c⟩, ⟨D, cI, cJ⟩, ⟨ad0, n0, sl0, MC, MS, A⟩, Qf, L, xs⟩ := C
  intro ok ad H locs ls iv hl
  obtain ⟨hb, rfl⟩ := ja_ite hv
  exact va_iald (rest := st.map (ja_cv ad)) ok.1.1 ok.1.2.1 ok.2.1 iv.1 k 0 (ja_wl_i hk) rfl (ja_vp hb) hd (kk ok ad H locs ls iv hl)
theorem ja_lald {k : Nat} {i : Int32} {v : Int64} (hd : decode M.1 pc = .ok (.laload, 1)) (hk : ja_al Λ k) (hv : ja_ldl Λ σ k i = some v) (kk : ja_J M C (pc + 1) lv (.long v :: st) Λ σ zz) : ja_J M C pc lv (.int i :: .ref k :: st) Λ σ zz := by
  obtain ⟨⟨p, l, e, R, s, m, args, below, meth, c⟩, ⟨D, cI, cJ⟩, ⟨ad0, n0, sl0, MC, MS, A⟩, Qf, L, xs⟩ := C
  intro ok ad H locs ls iv hl
  obtain ⟨hb, rfl⟩ := ja_ite hv
  exact va_lald (rest := st.map (ja_cv ad)) ok.1.1 ok.1.2.1 ok.2.1 iv.1 k 1 (ja_wl_l hk) rfl (ja_vp hb) hd (kk ok ad H locs ls iv hl)
theorem ja_alen {k : Nat} (hd : decode M.1 pc = .ok (.arraylength, 1)) (hk : ja_ai Λ k ∨ ja_al Λ k) (kk : ja_J M C (pc + 1) lv (.int (Int32.ofNat (ja_len Λ k)) :: st) Λ σ zz) : ja_J M C pc lv (.ref k :: st) Λ σ zz := by
  obtain ⟨⟨p, l, e, R, s, m, args, below, meth, c⟩, ⟨D, cI, cJ⟩, ⟨ad0, n0, sl0, MC, MS, A⟩, Qf, L, xs⟩ := C
  intro ok ad H locs ls iv hl
  rcases hk with hk | hk
  · exact va_alen (rest := st.map (ja_cv ad)) ok.1.1 ok.1.2.1 ok.2.1 iv.1 k 0 (ja_wl_i hk) rfl rfl hd (kk ok ad H locs ls iv hl)
  · exact va_alen (rest := st.map (ja_cv ad)) ok.1.1 ok.1.2.1 ok.2.1 iv.1 k 1 (ja_wl_l hk) rfl rfl hd (kk ok ad H locs ls iv hl)
theorem ja_iast {k : Nat} {i x : Int32} {σ' : ja_S} (hd : decode M.1 pc = .ok (.iastore, 1)) (hk : ja_ai Λ k) (hv : ja_st Λ σ k i x = some σ') (kk : ja_J M C (pc + 1) lv st Λ σ' zz) : ja_J M C pc lv (.int x :: .int i :: .ref k :: st) Λ σ zz := by
  obtain ⟨⟨p, l, e, R, s, m, args, below, meth, c⟩, ⟨D, cI, cJ⟩, ⟨ad0, n0, sl0, MC, MS, A⟩, Qf, L, xs⟩ := C
  intro ok ad H locs ls iv hl
  obtain ⟨hb, rfl⟩ := ja_ite hv
  obtain ⟨iP, iD, iS, i4⟩ := iv
  refine va_iast (rest := st.map (ja_cv ad)) ok.1.1 ok.1.2.1 ok.2.1 iP iD iS k 0 (ja_wl_i hk) rfl (ja_vp hb) hd (fun H1 locs1 hP hD hS => ?_)
  have e : (ja_wl cI cJ Λ σ ad).set k (ad k, .inl (cI, ja_len Λ k, .inl (upd (σ.1 k) i.toNatClampNeg x))) = ja_wl cI cJ Λ (ja_si σ k i.toInt.toNat x) ad := by
    refine ja_wl_set rfl ?_ ja_ce_si
    rw [ja_ce_i hk.2]
    show Sum.inl (cI, _, Sum.inl (va_up σ.1 k _ k)) = _
    rw [va_up_self]
    rfl
  rw [e] at hP hD
  exact kk ok ad H1 locs1 ls ⟨hP, hD, hS, i4⟩ hl
theorem ja_last {k : Nat} {i : Int32} {x : Int64} {σ' : ja_S} (hd : decode M.1 pc = .ok (.lastore, 1)) (hk : ja_al Λ k) (hv : ja_stl Λ σ k i x = some σ') (kk : ja_J M C (pc + 1) lv st Λ σ' zz) : ja_J M C pc lv (.long x :: .int i :: .ref k :: st) Λ σ zz := by
  obtain ⟨⟨p, l, e, R, s, m, args, below, meth, c⟩, ⟨D, cI, cJ⟩, ⟨ad0, n0, sl0, MC, MS, A⟩, Qf, L, xs⟩ := C
  intro ok ad H locs ls iv hl
  obtain ⟨hb, rfl⟩ := ja_ite hv
  obtain ⟨iP, iD, iS, i4⟩ := iv
  refine va_last (rest := st.map (ja_cv ad)) ok.1.1 ok.1.2.1 ok.2.1 iP iD iS k 1 (ja_wl_l hk) rfl (ja_vp hb) hd (fun H1 locs1 hP hD hS => ?_)
  have e : (ja_wl cI cJ Λ σ ad).set k (ad k, .inl (cJ, ja_len Λ k, .inr (.inl (vp_updL (σ.2 k) i.toNatClampNeg x)))) = ja_wl cI cJ Λ (ja_sl σ k i.toInt.toNat x) ad := by
    refine ja_wl_set rfl ?_ ja_ce_sl
    rw [ja_ce_l hk.2]
    show Sum.inl (cJ, _, Sum.inr (Sum.inl (va_up σ.2 k _ k))) = _
    rw [va_up_self]
    rfl
  rw [e] at hP hD
  exact kk ok ad H1 locs1 ls ⟨hP, hD, hS, i4⟩ hl
/-- the static table -/
theorem ja_gets {idx : Nat} (hd : decode M.1 pc = .ok (.getstatic idx, 3)) (hlink : Cond.fieldLink M.2.2.1 idx "InterlockingFrame$Locking" "REVERSED_IN_WORD" "[J" ∈ ja_tb) (kk : ja_J M C (pc + 3) lv (.ref 2000 :: st) Λ σ zz) : ja_J M C pc lv st Λ σ zz := by
  obtain ⟨⟨p, l, e, R, s, m, args, below, meth, c⟩, ⟨D, cI, cJ⟩, ⟨ad0, n0, sl0, MC, MS, A⟩, Qf, L, xs⟩ := C
  intro ok ad H locs ls iv hl
  refine va_gets (rest := st.map (ja_cv ad)) (v := .ref (ad0 2000)) ok.1.1 ok.1.2.1 ok.2.2.2.1.1 iv.2.2.1 ok.1.2.2.2.1 (ok.1.2.2.2.2 _ hlink) (fun _ h => h) hd ?_
  have hk := kk ok ad H locs ls iv hl
  rw [show ad0 2000 = ad 2000 from (iv.2.2.2.1 2000 (Or.inr (by have := iv.2.2.2.2.2.2.2.2.1; omega))).symm]
  exact hk
theorem ja_tald {i : Int32} {v : Int64} (hd : decode M.1 pc = .ok (.laload, 1)) (hv : ja_ldt i = some v) (kk : ja_J M C (pc + 1) lv (.long v :: st) Λ σ zz) : ja_J M C pc lv (.int i :: .ref 2000 :: st) Λ σ zz := by
  obtain ⟨⟨p, l, e, R, s, m, args, below, meth, c⟩, ⟨D, cI, cJ⟩, ⟨ad0, n0, sl0, MC, MS, A⟩, Qf, L, xs⟩ := C
  intro ok ad H locs ls iv hl
  obtain ⟨hb, rfl⟩ := ja_ite hv
  have hT := ok.2.2.2.1.2.1
  rw [show ad0 2000 = ad 2000 from (iv.2.2.2.1 2000 (Or.inr (by have := iv.2.2.2.2.2.2.2.2.1; omega))).symm] at hT
  exact va_tl (rest := st.map (ja_cv ad)) ok.1.1 ok.1.2.1 hT iv.2.2.1 (ja_vp hb) rfl hd (kk ok ad H locs ls iv hl)
/-- a text constant -/
theorem ja_ldcs {idx : Nat} (i : Nat) (hi : i < 11) (hd : decode M.1 pc = .ok (.ldc idx, 2)) (hr : (ja_sr i).1 = M.2.2.1 ∧ (ja_sr i).2.1 = idx) (kk : ja_J M C (pc + 2) lv (.ref (1000 + i) :: st) Λ σ zz) : ja_J M C pc lv st Λ σ zz := by
  obtain ⟨⟨p, l, e, R, s, m, args, below, meth, c⟩, ⟨D, cI, cJ⟩, ⟨ad0, n0, sl0, MC, MS, A⟩, Qf, L, xs⟩ := C
  intro ok ad H locs ls iv hl
  have hR := ok.2.2.2.1.2.2.2.2.2.1 i hi
  rw [hr.1, hr.2, show ad0 (1000 + i) = ad (1000 + i) from (iv.2.2.2.1 _ (Or.inr (by have := iv.2.2.2.2.2.2.2.2.1; omega))).symm] at hR
  exact va_ldcS (rest := st.map (ja_cv ad)) ok.1.1 ok.1.2.1 ok.1.2.2.2.1 hR hd (kk ok ad H locs ls iv hl)
theorem ja_ldc2 {idx : Nat} {v : Int64} (hd : decode M.1 pc = .ok (.ldc2_w idx, 3)) (hw : Cond.constantLong M.2.2.1 idx v ∈ ja_tb) (kk : ja_J M C (pc + 3) lv (.long v :: st) Λ σ zz) : ja_J M C pc lv st Λ σ zz := by
  obtain ⟨⟨p, l, e, R, s, m, args, below, meth, c⟩, ⟨D, cI, cJ⟩, ⟨ad0, n0, sl0, MC, MS, A⟩, Qf, L, xs⟩ := C
  intro ok ad H locs ls iv hl
  exact lv_ldc2 (rest := st.map (ja_cv ad)) ok.1.1 ok.1.2.1 ok.1.2.2.2.1 (ok.1.2.2.2.2 _ hw) hd (kk ok ad H locs ls iv hl)
theorem ja_ldcw {idx : Nat} {v : Int32} (hd : decode M.1 pc = .ok (.ldc_w idx, 3)) (hw : Cond.constant M.2.2.1 idx v ∈ ja_tb) (kk : ja_J M C (pc + 3) lv (.int v :: st) Λ σ zz) : ja_J M C pc lv st Λ σ zz := by
  obtain ⟨⟨p, l, e, R, s, m, args, below, meth, c⟩, ⟨D, cI, cJ⟩, ⟨ad0, n0, sl0, MC, MS, A⟩, Qf, L, xs⟩ := C
  intro ok ad H locs ls iv hl
  exact lv_ldcw (rest := st.map (ja_cv ad)) ok.1.1 ok.1.2.1 ok.1.2.2.2.1 (ok.1.2.2.2.2 _ hw) hd (kk ok ad H locs ls iv hl)
end JH
end
section
/-! contracts: what a method does with the whole abstract heap; how a walk gives one, how a call uses one -/
def ja_Pc (x : ja_X) (as : List Value) (Λ : ja_L) (σ : ja_S) (ad : Nat → Nat) (sz : Nat) : Array Value → State → Prop := va_Pc (as.map (ja_cv ad)) (fun U => U.heap.size = sz ∧ va_P x.1 classes (ja_wl x.2.1 x.2.2 Λ σ ad) U.heap ∧ va_K x.1 classes [(x.2.1, .int), (x.2.2, .long)] U ∧ va_D (fun _ => True) (ja_wl x.2.1 x.2.2 Λ σ ad) ∧ ja_SF ad (va_A (ja_wl x.2.1 x.2.2 Λ σ ad) sz) U U.heap)
def ja_Qc (x : ja_X) (zz : ja_Z) (n0 sl0 : Nat) (ad : Nat → Nat) (A : Nat → Prop) : Array Value → State → Outcome → State → Prop := fun _ st oc t => (∃ ad' : Nat → Nat, oc = .returned (zz.1.map (ja_cv ad')) ∧ (∀ k, k < n0 ∨ zz.2.1.1 ≤ k → ad' k = ad k) ∧ va_P x.1 classes (ja_wl x.2.1 x.2.2 zz.2.1 zz.2.2 ad') t.heap ∧ va_D A (ja_wl x.2.1 x.2.2 zz.2.1 zz.2.2 ad') ∧ (n0 ≤ zz.2.1.1 ∧ sl0 ≤ zz.2.1.2.1 ∧ zz.2.1.1 ≤ 1000 ∧ ja_wf zz.2.1)) ∧ va_F A st t
def ja_rm (M : ja_M) (mc ms : Nat) : Room := { frames := M.2.2.2.2.2.1, cells := mc, slots := ms, locals := M.2.2.2.2.2.2 }
def ja_Ct (l : Launch) (x : ja_X) (y : MethodName) (M : ja_M) (as : List Value) (Λ : ja_L) (σ : ja_S) (zz : ja_Z) : Prop := Λ.1 ≤ 1000 ∧ ja_wf Λ → ∀ (ad : Nat → Nat) (sz : Nat), Met l y (.code y M.1 M.2.1 M.2.2.2.2.1 :: ja_tb) (ja_rm M (zz.2.1.1 - Λ.1) (zz.2.1.2.1 - Λ.2.1)) (ja_Pc x as Λ σ ad sz) (ja_Qc x zz Λ.1 Λ.2.1 ad (va_A (ja_wl x.2.1 x.2.2 Λ σ ad) sz)) (zz.2.1.1 - Λ.1) (zz.2.1.2.1 - Λ.2.1) (va_A (ja_wl x.2.1 x.2.2 Λ σ ad) sz)
theorem ja_args (ad : Nat → Nat) : ∀ (as : List Value) (i : Nat), lv_args i (as.map (ja_cv ad)) = ja_cl ad (lv_args i as)
  | [], _ => rfl
  | a :: l, i => by
    rw [List.map_cons, lv_args, lv_args, ja_args ad l, ja_cat]
    rfl
theorem ja_slen (ad : Nat → Nat) : ∀ (as : List Value), (lg_sl (as.map (ja_cv ad))).length = (lg_sl as).length
  | [] => rfl
  | a :: l => by
    have h := ja_slen ad l
    unfold lg_sl at h ⊢
    rw [List.map_cons, List.flatMap_cons, List.flatMap_cons, List.length_append, List.length_append, h, ja_cat]
    by_cases hc : a.category = 2
    · rw [if_pos hc, if_pos hc]; rfl
    · rw [if_neg hc, if_neg hc]; rfl
/-- a walk from the entry gives the contract -/
theorem ja_mk {M : ja_M} {l : Launch} {x : ja_X} {y : MethodName} {as : List Value} {lv : List (Nat × Value)} {Λ : ja_L} {σ : ja_S} {zz : ja_Z} (hy : plainName y.cls = true ∧ y.cls = M.2.2.1 ∧ y.name = M.2.2.2.1) (hn : (lg_sl as).length ≤ M.2.1) (hlv : lv_args 0 as = lv)
    (hJ : ∀ C : ja_C, C.1.2.1 = l → C.2.1 = x → C.2.2.1.2.1 = Λ.1 → C.2.2.1.2.2.1 = Λ.2.1 → C.2.2.1.2.2.2.1 = zz.2.1.1 - Λ.1 → C.2.2.1.2.2.2.2.1 = zz.2.1.2.1 - Λ.2.1 → ja_J M C 0 lv [] Λ σ zz) : ja_Ct l x y M as Λ σ zz := by
  intro hΛ ad sz
  obtain ⟨D, cI, cJ⟩ := x
  refine Met.ofW (cc := M.1) (maxL := M.2.1) (ret := M.2.2.2.2.1) hy.1 rfl ?_
  intro p e s m args below meth c s₁ B hml hv
  obtain ⟨rfl, hsz, hP, hK, hD0, hSF⟩ := hv
  have hts := atoms_spec (ws := .code y M.1 M.2.1 M.2.2.2.2.1 :: ja_tb) B.pre
  have hown : s.vm.findClass M.2.2.1 = some m.cls := hy.2.1 ▸ findClass_of_methodNamed B.named
  have hlocks := B.notSynchronized
  have hr := B.returns
  subst hsz
  have hD := hD0.self (sz := s.heap.size)
  have hl := lv_entry (as.map (ja_cv ad)) (n := M.2.1) (by rw [ja_slen]; exact hn)
  rw [ja_args, hlv] at hl
  rw [lg_entry_eq]
  generalize hA0 : va_A (ja_wl cI cJ Λ σ ad) s.heap.size = A at hSF hD ⊢
  generalize (lg_sl (as.map (ja_cv ad)) ++ List.replicate (M.2.1 - (lg_sl (as.map (ja_cv ad))).length) Slot.unset).toArray = ls at hl ⊢
  have key := hJ ((p, l, e, ja_rm M (zz.2.1.1 - Λ.1) (zz.2.1.2.1 - Λ.2.1), s, m, (as.map (ja_cv ad)).toArray, below, meth, c), (D, cI, cJ), (ad, Λ.1, Λ.2.1, zz.2.1.1 - Λ.1, zz.2.1.2.1 - Λ.2.1, A), (fun z2 => MQ below (ja_Qc (D, cI, cJ) z2 Λ.1 Λ.2.1 ad A) (as.map (ja_cv ad)).toArray s (z2.2.1.1 - Λ.1) (z2.2.1.2.1 - Λ.2.1) A), 0, fun _ => 0) rfl rfl rfl rfl rfl rfl
  have hok : ja_ok M ((p, l, e, ja_rm M (zz.2.1.1 - Λ.1) (zz.2.1.2.1 - Λ.2.1), s, m, (as.map (ja_cv ad)).toArray, below, meth, c), (D, cI, cJ), (ad, Λ.1, Λ.2.1, zz.2.1.1 - Λ.1, zz.2.1.2.1 - Λ.2.1, A), (fun z2 => MQ below (ja_Qc (D, cI, cJ) z2 Λ.1 Λ.2.1 ad A) (as.map (ja_cv ad)).toArray s (z2.2.1.1 - Λ.1) (z2.2.1.2.1 - Λ.2.1) A), 0, fun _ => 0) := by
    refine ⟨⟨B.exec, B.bytes, hml, hown, fun w hw => hts w (List.mem_cons_of_mem _ hw)⟩, hK, fun q hq => by rw [← hA0]; exact Or.inr hq, hSF, ⟨Nat.le_refl _, Nat.le_refl _, Nat.le_refl _, Nat.le_refl _⟩, fun h => by rw [(name_of_methodNamed B.named B.method).1, hy.2.2]; exact h, Or.inl rfl, ?_⟩
    intro v ad2 Λ2 σ2 H locs pc ls2 hd hi iv
    have hq : ∀ t : State, t.heap = H → s.WarmedH t.vm → ja_Qc (D, cI, cJ) (v, Λ2, σ2) Λ.1 Λ.2.1 ad A (as.map (ja_cv ad)).toArray s (.returned (v.map (ja_cv ad2))) t := by
      intro t ht hW
      exact ⟨⟨ad2, rfl, iv.2.2.2.1, by rw [ht]; exact iv.1, iv.2.1, iv.2.2.2.2.1, iv.2.2.2.2.2.1, iv.2.2.2.2.2.2.2.2.1, iv.2.2.2.2.2.2.2.2.2⟩, iv.2.2.1.F ht⟩
    have hf := iv.2.2.1.2.2
    generalize hrr : M.2.2.2.2.1 = rr at hi hd hr
    cases v with
    | none =>
      cases rr with
      | none => exact W.vret B.exec B.bytes hr hq hf hd
      | some ty => simp [ja_ri] at hi
    | some v =>
      cases rr with
      | none => simp [ja_ri] at hi
      | some ty =>
        cases ty <;> cases v <;> (try (simp [ja_ri] at hi; done))
        · rename_i z
          have hz : narrow .byte (.int z) = .int z := by
            by_cases h : narrow .byte (.int z) = .int z
            · exact h
            · simp [ja_ri, h] at hi
          have hd2 : decode M.1 pc = .ok (.ireturn, 1) := by
            rw [hd]; simp [ja_ri, hz]
          exact W.zret (ty := .byte) B.exec B.bytes hr hz hq hf hd2
        · rename_i z
          have hz : narrow .char (.int z) = .int z := by
            by_cases h : narrow .char (.int z) = .int z
            · exact h
            · simp [ja_ri, h] at hi
          have hd2 : decode M.1 pc = .ok (.ireturn, 1) := by
            rw [hd]; simp [ja_ri, hz]
          exact W.zret (ty := .char) B.exec B.bytes hr hz hq hf hd2
        · exact W.iret B.exec B.bytes hr hq hf hd
        · exact W.lret B.exec B.bytes hr hq hf hd
        · rename_i z
          have hz : z = 0 ∨ z = 1 := by
            by_cases h : z = 0 ∨ z = 1
            · exact h
            · simp [ja_ri, h] at hi
          have hd2 : decode M.1 pc = .ok (.ireturn, 1) := by
            rw [hd]; simp [ja_ri, hz]
          refine W.zret (ty := .boolean) B.exec B.bytes hr ?_ hq hf hd2
          rcases hz with rfl | rfl <;> rfl
        · exact W.aret B.exec B.bytes hr (Or.inl ⟨_, rfl⟩) (Or.inr ⟨_, rfl⟩) hq hf hd
  have h2 := key hok ad s.heap [] ls ⟨hP, hD, va_S.rf, fun _ _ => rfl, Nat.le_refl _, Nat.le_refl _, by omega, by omega, hΛ.1, hΛ.2⟩ hl
  have e1 : Λ.1 - Λ.1 = 0 := Nat.sub_self _
  have e2 : Λ.2.1 - Λ.2.1 = 0 := Nat.sub_self _
  unfold ja_W at h2
  dsimp only at h2
  rw [e1, e2] at h2
  exact h2
/-- behind a call -/
theorem ja_after {p : Program} {l : Launch} {e : Env} {R : Room} {s : State} {m : MethodId} {args : Array Value} {below : List Frame} {meth : Method} {c : Code} {H : Heap} {locs : List Loc} {cells slots : Nat} {Q : State → Prop} {pc : Nat} {ls : Array Slot} {rest st0 : List Value} {a : Array Value} {A0 A1 : Nat → Prop} {H0 : Heap} {mc ms n1 sl1 : Nat} {free : Addr → Prop} {x : ja_X} {z1 : ja_Z} {ad : Nat → Nat}
    (hr : va_Run p l e R s m args below meth c H locs cells slots mc ms (F0 m pc ls st0) rest (ja_Qc x z1 n1 sl1 ad A1 a) free) (hS : va_S A0 H0 H locs) (hA : ∀ q, q < H.size → A1 q → A0 q) (hf : ∀ q, free q → A0 q)
    (kk : ∀ (ad' : Nat → Nat) (H1 : Heap) (locs1 : List Loc), (∀ k, k < n1 ∨ z1.2.1.1 ≤ k → ad' k = ad k) → va_P x.1 classes (ja_wl x.2.1 x.2.2 z1.2.1 z1.2.2 ad') H1 → va_D A1 (ja_wl x.2.1 x.2.2 z1.2.1 z1.2.2 ad') → (n1 ≤ z1.2.1.1 ∧ sl1 ≤ z1.2.1.2.1 ∧ z1.2.1.1 ≤ 1000 ∧ ja_wf z1.2.1) → va_S A0 H0 H1 locs1 → W p l e R s m args below meth c H1 locs1 (cells + mc) (slots + ms) Q (F0 m (pc + 3) ls ((z1.1.map (ja_cv ad')).toList ++ rest))) : W p l e R s m args below meth c H locs cells slots Q (F0 m pc ls st0) := by
  intro T hT X
  obtain ⟨v, st₀, t, T', L, h0, X', hL, e1, e2, ⟨⟨ad', hv, h1, h2, h3, h4⟩, hz, hk⟩, st⟩ := hr T hT X
  cases hv
  rw [h0] at hz hk
  obtain ⟨t2, a1, b1⟩ := kk ad' T'.heap (locs ++ L) h1 (by rw [e1]; exact h2) h3 h4
    ⟨Nat.le_trans hS.1 (by rw [e1]; exact hz), fun q g1 g2 => by rw [e1, hk q (Nat.lt_of_lt_of_le g1 hS.1) (fun z => g2 (hA q (Nat.lt_of_lt_of_le g1 hS.1) z))]; exact hS.2.1 q g1 g2, fun q hq => by
      rcases List.mem_append.mp hq with h | h
      · exact hS.2.2 q h
      · exact hf _ (hL q h)⟩ T' rfl X'
  exact ⟨t2, st t2 a1, b1⟩
theorem ja_blind {x : ja_X} {as : List Value} {Λ : ja_L} {σ : ja_S} {ad : Nat → Nat} {sz : Nat} : FrameBlind (ja_Pc x as Λ σ ad sz) := by
  intro a U g mk q
  obtain ⟨q0, q1, qP, qK, qD, qS⟩ := q
  exact ⟨q0, q1, qP, va_K.moved (u := U) (U := U.calling g mk a) (Vm.Alike.refl U.vm) qK, qD, ja_SF_same rfl qS⟩
/-- what a call of y says of the tables -/
def ja_kB (y : MethodName) (M' : ja_M) (n : Nat) : Prop := Cond.initialized y.cls ∈ ja_tb ∧ Cond.code y M'.1 M'.2.1 M'.2.2.2.2.1 ∈ ja_tb ∧ y.cls ≠ "java/lang/invoke/MethodHandle" ∧ y.cls ≠ "java/lang/invoke/VarHandle" ∧ (parseMethodDescriptor y.desc).map (fun d => d.parameters.length) = some n
def ja_kV (y : MethodName) (M' : ja_M) (n t : Nat) : Prop := ja_kB y M' n ∧ Cond.instanceMethod y ∈ ja_tb ∧ Cond.selects y.cls y y ∈ ja_tb ∧ ∃ q, classes[t]? = some q ∧ q.1 = y.cls
def ja_kS (y : MethodName) (M' : ja_M) (n : Nat) : Prop := ja_kB y M' n ∧ Cond.static y ∈ ja_tb
def ja_rr (M M' : ja_M) : Prop := M'.2.2.2.2.2.1 + 1 ≤ M.2.2.2.2.2.1 ∧ 8 + (M'.2.1 + 11) + M'.2.2.2.2.2.2 ≤ M.2.2.2.2.2.2
section JC
variable {M M' : ja_M} {C : ja_C} {pc idx t b n : Nat} {lv : List (Nat × Value)} {st st0 as : List Value} {Λ : ja_L} {σ σ1 : ja_S} {zz : ja_Z} {y : MethodName} {v1 : Option Value}
theorem ja_callV0 (hd : decode M.1 pc = .ok (.invokevirtual idx, 3)) (hk : ja_kV y M' n t) (hlink : Cond.methodLink M.2.2.1 idx y ∈ ja_tb) (hro : ja_rr M M') (hM : ja_Ct C.1.2.1 C.2.1 y M' (.ref b :: as) Λ σ (v1, Λ, σ1)) (hb : ja_ob Λ t b) (hn : as.length = n) (hst : (st.map fun v => v.category).sum ≤ 8) (hs : st0 = as.reverse ++ .ref b :: st) (kk : ja_J M C (pc + 3) lv (v1.toList ++ st) Λ σ1 zz) : ja_J M C pc lv st0 Λ σ zz := by
  obtain ⟨⟨p, l, e, R, s, m, args, below, meth, c⟩, ⟨D, cI, cJ⟩, ⟨ad0, n0, sl0, MC, MS, A⟩, Qf, L, xs⟩ := C
  intro ok ad H locs ls iv hl
  subst hs
  obtain ⟨iP, iD, iS, i4, i5⟩ := iv
  obtain ⟨⟨k1, k2, k3⟩, k4, k5, q, k6, k7⟩ := hk
  have hM := hM ⟨i5.2.2.2.2.1, i5.2.2.2.2.2⟩ ad H.size
  have hts := ok.1.2.2.2.2
  have hFc : ∀ q, va_A (ja_wl cI cJ Λ σ ad) H.size q → A q := by
    intro q h
    rcases h with ⟨k, e, h⟩ | h
    · exact iD.2 _ _ h
    · exact ok.2.2.1 q (Nat.le_trans iS.1 h)
  have z0 : (v1, Λ, σ1).2.1.1 - Λ.1 = 0 := Nat.sub_self _
  have z1 : (v1, Λ, σ1).2.1.2.1 - Λ.2.1 = 0 := Nat.sub_self _
  have hrun := va_runV (p := p) (e := e) (R := R) (below := below) (meth := meth) (H := H) (locs := locs) (cells := Λ.1 - n0) (slots := Λ.2.1 - sl0) (b := ad b) (As := as.map (ja_cv ad)) (rest := st.map (ja_cv ad)) (g := F0 m pc ls ((as.reverse ++ .ref b :: st).map (ja_cv ad))) (n := n) (C := y.cls) (index := idx) ok.1 hM ⟨callB_of (Ts := ja_tb) n hts (ja_good k2) rfl rfl rfl (hts _ k1) (hts _ hlink) k3 ⟨Nat.le_trans hro.1 ok.2.2.2.2.1.1, Nat.le_trans hro.2 ok.2.2.2.2.1.2.1⟩, hts _ k4, hts _ k5⟩
    ⟨ja_blind, by have h := va_recv ok.2.1 iP k6 (ja_wl_o hb); rw [k7] at h; exact h, fun U hU hW => ⟨rfl, by rw [hU], by rw [hU]; exact iP, va_K.moved hW.alike ok.2.1, iD.weaken (fun _ _ _ _ => trivial), by
      have h1 := ja_SF_narrow (ja_SF_moved hW (ja_SF_kept (ja_SF_ad ok.2.2.2.1 (fun k hk => i4 k (Or.inr (by omega)))) iS.2.1)) hFc
      rw [hU]
      exact h1⟩⟩
    rfl (by rw [List.length_map]; exact hn) hl.1 (by simp [ja_cv]) (lv_room (by rw [ja_cats]; exact hst)) hd ⟨by rw [z0]; have := ok.2.2.2.2.1.2.2.1; omega, by rw [z1]; have := ok.2.2.2.2.1.2.2.2; omega⟩
  refine ja_after (x := (D, cI, cJ)) hrun iS (fun q _ h => hFc q h) hFc (fun ad' H1 locs1 h1 h2 h3 h4 h5 => ?_)
  have ha : ad' = ad := funext fun k => h1 k (by show k < Λ.1 ∨ Λ.1 ≤ k; omega)
  subst ha
  have h6 := kk ok ad' H1 locs1 ls ⟨h2, h3.weaken (fun _ _ _ h => hFc _ h), h5, i4, i5⟩ hl
  rw [z0, z1, Nat.add_zero, Nat.add_zero]
  have e1 : (v1.map (ja_cv ad')).toList ++ st.map (ja_cv ad') = (v1.toList ++ st).map (ja_cv ad') := by cases v1 <;> rfl
  show W p l e R s m args below meth c H1 locs1 (Λ.1 - n0) (Λ.2.1 - sl0) (Qf zz) (F0 m (pc + 3) ls ((v1.map (ja_cv ad')).toList ++ st.map (ja_cv ad')))
  rw [e1]
  exact h6
theorem ja_callS0 (hd : decode M.1 pc = .ok (.invokestatic idx, 3)) (hk : ja_kS y M' n) (hlink : Cond.methodLink M.2.2.1 idx y ∈ ja_tb) (hro : ja_rr M M') (hM : ja_Ct C.1.2.1 C.2.1 y M' as Λ σ (v1, Λ, σ1)) (hn : as.length = n) (hst : (st.map fun v => v.category).sum ≤ 8) (hs : st0 = as.reverse ++ st) (kk : ja_J M C (pc + 3) lv (v1.toList ++ st) Λ σ1 zz) : ja_J M C pc lv st0 Λ σ zz := by
  obtain ⟨⟨p, l, e, R, s, m, args, below, meth, c⟩, ⟨D, cI, cJ⟩, ⟨ad0, n0, sl0, MC, MS, A⟩, Qf, L, xs⟩ := C
  intro ok ad H locs ls iv hl
  subst hs
  obtain ⟨iP, iD, iS, i4, i5⟩ := iv
  obtain ⟨⟨k1, k2, k3⟩, k4⟩ := hk
  have hM := hM ⟨i5.2.2.2.2.1, i5.2.2.2.2.2⟩ ad H.size
  have hts := ok.1.2.2.2.2
  have hFc : ∀ q, va_A (ja_wl cI cJ Λ σ ad) H.size q → A q := by
    intro q h
    rcases h with ⟨k, e, h⟩ | h
    · exact iD.2 _ _ h
    · exact ok.2.2.1 q (Nat.le_trans iS.1 h)
  have z0 : (v1, Λ, σ1).2.1.1 - Λ.1 = 0 := Nat.sub_self _
  have z1 : (v1, Λ, σ1).2.1.2.1 - Λ.2.1 = 0 := Nat.sub_self _
  have hrun := va_runS (p := p) (e := e) (R := R) (below := below) (meth := meth) (H := H) (locs := locs) (cells := Λ.1 - n0) (slots := Λ.2.1 - sl0) (As := as.map (ja_cv ad)) (rest := st.map (ja_cv ad)) (g := F0 m pc ls ((as.reverse ++ st).map (ja_cv ad))) (n := n) (index := idx) ok.1 hM ⟨callB_of (Ts := ja_tb) n hts (ja_good k2) rfl rfl rfl (hts _ k1) (hts _ hlink) k3 ⟨Nat.le_trans hro.1 ok.2.2.2.2.1.1, Nat.le_trans hro.2 ok.2.2.2.2.1.2.1⟩, hts _ k4⟩
    ⟨ja_blind, fun U hU hW => ⟨rfl, by rw [hU], by rw [hU]; exact iP, va_K.moved hW.alike ok.2.1, iD.weaken (fun _ _ _ _ => trivial), by
      have h1 := ja_SF_narrow (ja_SF_moved hW (ja_SF_kept (ja_SF_ad ok.2.2.2.1 (fun k hk => i4 k (Or.inr (by omega)))) iS.2.1)) hFc
      rw [hU]
      exact h1⟩⟩
    rfl (by rw [List.length_map]; exact hn) hl.1 (by simp) (lv_room (by rw [ja_cats]; exact hst)) hd ⟨by rw [z0]; have := ok.2.2.2.2.1.2.2.1; omega, by rw [z1]; have := ok.2.2.2.2.1.2.2.2; omega⟩
  refine ja_after (x := (D, cI, cJ)) hrun iS (fun q _ h => hFc q h) hFc (fun ad' H1 locs1 h1 h2 h3 h4 h5 => ?_)
  have ha : ad' = ad := funext fun k => h1 k (by show k < Λ.1 ∨ Λ.1 ≤ k; omega)
  subst ha
  have h6 := kk ok ad' H1 locs1 ls ⟨h2, h3.weaken (fun _ _ _ h => hFc _ h), h5, i4, i5⟩ hl
  rw [z0, z1, Nat.add_zero, Nat.add_zero]
  have e1 : (v1.map (ja_cv ad')).toList ++ st.map (ja_cv ad') = (v1.toList ++ st).map (ja_cv ad') := by cases v1 <;> rfl
  show W p l e R s m args below meth c H1 locs1 (Λ.1 - n0) (Λ.2.1 - sl0) (Qf zz) (F0 m (pc + 3) ls ((v1.map (ja_cv ad')).toList ++ st.map (ja_cv ad')))
  rw [e1]
  exact h6
end JC
end
section
/-! fewer locals; copies; Math.min and max; calls by what they answer -/
theorem ja_pick (ad : Nat → Nat) (lv : List (Nat × Value)) (ks : List Nat) : lv_pick (ja_cl ad lv) ks = ja_cl ad (lv_pick lv ks) := by
  unfold lv_pick ja_cl
  induction ks with
  | nil => rfl
  | cons k l ih =>
    simp only [List.filterMap_cons, List.getElem?_map]
    cases h : lv[k]? with
    | none => simpa using ih
    | some q => simpa using ih
theorem ja_ce_congr {cI cJ : ClassId} {Λ Λ' : ja_L} {σ σ' : ja_S} {ad ad' : Nat → Nat} {i : Nat} (h1 : Λ'.2.2.1 i = Λ.2.2.1 i) (h2 : ∀ j, (Λ'.2.2.2 i j).map ad' = (Λ.2.2.2 i j).map ad) (h3 : σ'.1 i = σ.1 i) (h4 : σ'.2 i = σ.2 i) : ja_ce cI cJ Λ' σ' ad' i = ja_ce cI cJ Λ σ ad i := by
  unfold ja_ce ja_fl
  rw [h1, h3, h4]
  simp only [h2]
theorem ja_ce_up1 {cI cJ : ClassId} {Λ : ja_L} {σ : ja_S} {ad : Nat → Nat} {k : Nat} {f : Nat → Int32} : ∀ i, i ≠ k → ja_ce cI cJ Λ (va_up σ.1 k f, σ.2) ad i = ja_ce cI cJ Λ σ ad i := fun _ hi => ja_ce_congr rfl (fun _ => rfl) (va_up_ne _ _ hi) rfl
theorem ja_ce_up2 {cI cJ : ClassId} {Λ : ja_L} {σ : ja_S} {ad : Nat → Nat} {k : Nat} {f : Nat → Int64} : ∀ i, i ≠ k → ja_ce cI cJ Λ (σ.1, va_up σ.2 k f) ad i = ja_ce cI cJ Λ σ ad i := fun _ hi => ja_ce_congr rfl (fun _ => rfl) rfl (va_up_ne _ _ hi)
theorem ja_tn {z : Int32} : z.toNatClampNeg = z.toInt.toNat := rfl
section JM
variable {M M' : ja_M} {C : ja_C} {pc idx t b n : Nat} {lv lv' : List (Nat × Value)} {st st0 as : List Value} {Λ : ja_L} {σ σ1 : ja_S} {zz : ja_Z} {y : MethodName} {v1 : Option Value}
theorem ja_lv (ks : List Nat) (h : lv_pick lv ks = lv') (k : ja_J M C pc lv' st Λ σ zz) : ja_J M C pc lv st Λ σ zz := by
  intro ok ad H locs ls iv hl
  exact k ok ad H locs ls iv (lv_sub hl ks (by rw [ja_pick, h]))
/-- arraycopy's words -/
def ja_kC (own : String) (idx : Nat) : Prop := Cond.methodLink own idx arraycopyName ∈ ja_tb ∧ Cond.native arraycopyName ∈ ja_tb ∧ Cond.static arraycopyName ∈ ja_tb ∧ Cond.initialized "java/lang/System" ∈ ja_tb
theorem ja_cpyi {a b : Nat} {sp dp n : Int32} {σ' : ja_S} (hd : decode M.1 pc = .ok (.invokestatic idx, 3)) (hk : ja_kC M.2.2.1 idx) (hro : 1 ≤ M.2.2.2.2.2.1 ∧ 26 ≤ M.2.2.2.2.2.2) (ha : ja_ai Λ a) (hb : ja_ai Λ b) (hst : (st.map fun v => v.category).sum ≤ 8) (hv : ja_cpi Λ σ a sp b dp n = some σ') (kk : ja_J M C (pc + 3) lv st Λ σ' zz) : ja_J M C pc lv (.int n :: .int dp :: .ref b :: .int sp :: .ref a :: st) Λ σ zz := by
  obtain ⟨⟨p, l, e, R, s, m, args, below, meth, c⟩, ⟨D, cI, cJ⟩, ⟨ad0, n0, sl0, MC, MS, A⟩, Qf, L, xs⟩ := C
  intro ok ad H locs ls iv hl
  obtain ⟨⟨g1, g2, g3, g4, g5⟩, rfl⟩ := ja_ite hv
  obtain ⟨iP, iD, iS, i4⟩ := iv
  obtain ⟨k1, k2, k3, k4⟩ := hk
  have hts := ok.1.2.2.2.2
  have hfr := ok.2.2.2.2.1
  refine va_copyi (rest := st.map (ja_cv ad)) ok.1.1 ok.1.2.1 (ok.1.2.2.1.trans hl.1.symm) ok.1.2.2.2.1 (hts _ k1) (hts _ k2) (hts _ k3) (hts _ k4) ok.2.1 iP iD iS a b 0 0 (ja_wl_i ha) (ja_wl_i hb) rfl rfl (by rfl) (ja_nn g1) (ja_nn g2) (ja_nn g3) (by rw [ja_tn, ja_tn]; omega) (by rw [ja_tn, ja_tn]; omega) (fun _ _ => rfl) (Nat.le_trans hro.1 hfr.1) (by rw [ja_cats]; show _ + 18 ≤ _; omega) hd (fun H1 locs1 hP hD hS => ?_)
  have e : (ja_wl cI cJ Λ σ ad).set b (ad b, .inl (cI, ja_len Λ b, .inl (va_cpy (σ.1 a) (σ.1 b) sp.toNatClampNeg dp.toNatClampNeg n.toNatClampNeg))) = ja_wl cI cJ Λ (va_up σ.1 b (va_cpy (σ.1 a) (σ.1 b) sp.toInt.toNat dp.toInt.toNat n.toInt.toNat), σ.2) ad := by
    refine ja_wl_set rfl ?_ ja_ce_up1
    rw [ja_ce_i hb.2]
    show Sum.inl (cI, _, Sum.inl (va_up σ.1 b _ b)) = _
    rw [va_up_self]
    rfl
  rw [e] at hP hD
  exact kk ok ad H1 locs1 ls ⟨hP, hD, hS, i4⟩ hl
theorem ja_cpyl {a b : Nat} {sp dp n : Int32} {σ' : ja_S} (hd : decode M.1 pc = .ok (.invokestatic idx, 3)) (hk : ja_kC M.2.2.1 idx) (hro : 1 ≤ M.2.2.2.2.2.1 ∧ 26 ≤ M.2.2.2.2.2.2) (ha : ja_al Λ a) (hb : ja_al Λ b) (hst : (st.map fun v => v.category).sum ≤ 8) (hv : ja_cpl Λ σ a sp b dp n = some σ') (kk : ja_J M C (pc + 3) lv st Λ σ' zz) : ja_J M C pc lv (.int n :: .int dp :: .ref b :: .int sp :: .ref a :: st) Λ σ zz := by
  obtain ⟨⟨p, l, e, R, s, m, args, below, meth, c⟩, ⟨D, cI, cJ⟩, ⟨ad0, n0, sl0, MC, MS, A⟩, Qf, L, xs⟩ := C
  intro ok ad H locs ls iv hl
  obtain ⟨⟨g1, g2, g3, g4, g5⟩, rfl⟩ := ja_ite hv
  obtain ⟨iP, iD, iS, i4⟩ := iv
  obtain ⟨k1, k2, k3, k4⟩ := hk
  have hts := ok.1.2.2.2.2
  have hfr := ok.2.2.2.2.1
  refine va_copyl (rest := st.map (ja_cv ad)) ok.1.1 ok.1.2.1 (ok.1.2.2.1.trans hl.1.symm) ok.1.2.2.2.1 (hts _ k1) (hts _ k2) (hts _ k3) (hts _ k4) ok.2.1 iP iD iS a b 1 1 (ja_wl_l ha) (ja_wl_l hb) rfl rfl (by rfl) (ja_nn g1) (ja_nn g2) (ja_nn g3) (by rw [ja_tn, ja_tn]; omega) (by rw [ja_tn, ja_tn]; omega) (fun _ _ => rfl) (Nat.le_trans hro.1 hfr.1) (by rw [ja_cats]; show _ + 18 ≤ _; omega) hd (fun H1 locs1 hP hD hS => ?_)
  have e : (ja_wl cI cJ Λ σ ad).set b (ad b, .inl (cJ, ja_len Λ b, .inr (.inl (va_cpy (σ.2 a) (σ.2 b) sp.toNatClampNeg dp.toNatClampNeg n.toNatClampNeg)))) = ja_wl cI cJ Λ (σ.1, va_up σ.2 b (va_cpy (σ.2 a) (σ.2 b) sp.toInt.toNat dp.toInt.toNat n.toInt.toNat)) ad := by
    refine ja_wl_set rfl ?_ ja_ce_up2
    rw [ja_ce_l hb.2]
    show Sum.inl (cJ, _, Sum.inr (Sum.inl (va_up σ.2 b _ b))) = _
    rw [va_up_self]
    rfl
  rw [e] at hP hD
  exact kk ok ad H1 locs1 ls ⟨hP, hD, hS, i4⟩ hl
theorem ja_max {x y : Int32} (hd : decode M.1 pc = .ok (.invokestatic idx, 3)) (hk : Cond.methodLink M.2.2.1 idx Lib.Math.max.name ∈ ja_tb ∧ Cond.static Lib.Math.max.name ∈ ja_tb ∧ Cond.initialized "java/lang/Math" ∈ ja_tb ∧ Cond.code Lib.Math.max.name Lib.Math.max.code 2 (some .int) ∈ ja_tb) (hro : 1 ≤ M.2.2.2.2.2.1 ∧ 26 ≤ M.2.2.2.2.2.2) (hst : (st.map fun v => v.category).sum ≤ 8) (kk : ja_J M C (pc + 3) lv (.int (if x < y then y else x) :: st) Λ σ zz) : ja_J M C pc lv (.int y :: .int x :: st) Λ σ zz := by
  obtain ⟨⟨p, l, e, R, s, m, args, below, meth, c⟩, ⟨D, cI, cJ⟩, ⟨ad0, n0, sl0, MC, MS, A⟩, Qf, L, xs⟩ := C
  intro ok ad H locs ls iv hl
  obtain ⟨k1, k2, k3, k4⟩ := hk
  have hts := ok.1.2.2.2.2
  have hfr := ok.2.2.2.2.1
  have hi5 := iv.2.2.2.2
  exact va_mmax (rest := st.map (ja_cv ad)) ok.1.1 ok.1.2.1 (ok.1.2.2.1.trans hl.1.symm) ok.1.2.2.2.1 (hts _ k1) (hts _ k2) (hts _ k3) (hts _ k4) (Nat.le_trans hro.1 hfr.1) (by rw [ja_cats]; omega) (by omega) (by omega) hd (kk ok ad H locs ls iv hl)
theorem ja_min {x y : Int32} (hd : decode M.1 pc = .ok (.invokestatic idx, 3)) (hk : Cond.methodLink M.2.2.1 idx Lib.Math.min.name ∈ ja_tb ∧ Cond.static Lib.Math.min.name ∈ ja_tb ∧ Cond.initialized "java/lang/Math" ∈ ja_tb ∧ Cond.code Lib.Math.min.name Lib.Math.min.code 2 (some .int) ∈ ja_tb) (hro : 1 ≤ M.2.2.2.2.2.1 ∧ 26 ≤ M.2.2.2.2.2.2) (hst : (st.map fun v => v.category).sum ≤ 8) (kk : ja_J M C (pc + 3) lv (.int (if y < x then y else x) :: st) Λ σ zz) : ja_J M C pc lv (.int y :: .int x :: st) Λ σ zz := by
  obtain ⟨⟨p, l, e, R, s, m, args, below, meth, c⟩, ⟨D, cI, cJ⟩, ⟨ad0, n0, sl0, MC, MS, A⟩, Qf, L, xs⟩ := C
  intro ok ad H locs ls iv hl
  obtain ⟨k1, k2, k3, k4⟩ := hk
  have hts := ok.1.2.2.2.2
  have hfr := ok.2.2.2.2.1
  have hi5 := iv.2.2.2.2
  exact va_mmin (rest := st.map (ja_cv ad)) ok.1.1 ok.1.2.1 (ok.1.2.2.1.trans hl.1.symm) ok.1.2.2.2.1 (hts _ k1) (hts _ k2) (hts _ k3) (hts _ k4) (Nat.le_trans hro.1 hfr.1) (by rw [ja_cats]; omega) (by omega) (by omega) hd (kk ok ad H locs ls iv hl)
/-- a static method of a nest mate -/
theorem ja_callN0 (q : Nat) {host : String} (hd : decode M.1 pc = .ok (.invokestatic idx, 3)) (hk : ja_kS y M' n) (hlink : ja_nk[q]? = some (M.2.2.1, idx, y, host)) (hro : ja_rr M M') (hM : ja_Ct C.1.2.1 C.2.1 y M' as Λ σ (v1, Λ, σ1)) (hn : as.length = n) (hst : (st.map fun v => v.category).sum ≤ 8) (hs : st0 = as.reverse ++ st) (kk : ja_J M C (pc + 3) lv (v1.toList ++ st) Λ σ1 zz) : ja_J M C pc lv st0 Λ σ zz := by
  obtain ⟨⟨p, l, e, R, s, m, args, below, meth, c⟩, ⟨D, cI, cJ⟩, ⟨ad0, n0, sl0, MC, MS, A⟩, Qf, L, xs⟩ := C
  intro ok ad H locs ls iv hl
  subst hs
  obtain ⟨iP, iD, iS, i4, i5⟩ := iv
  obtain ⟨⟨k1, k2, k3⟩, k4⟩ := hk
  have hM := hM ⟨i5.2.2.2.2.1, i5.2.2.2.2.2⟩ ad H.size
  have hts := ok.1.2.2.2.2
  have hFc : ∀ q, va_A (ja_wl cI cJ Λ σ ad) H.size q → A q := by
    intro q h
    rcases h with ⟨k, e, h⟩ | h
    · exact iD.2 _ _ h
    · exact ok.2.2.1 q (Nat.le_trans iS.1 h)
  have z0 : (v1, Λ, σ1).2.1.1 - Λ.1 = 0 := Nat.sub_self _
  have z1 : (v1, Λ, σ1).2.1.2.1 - Λ.2.1 = 0 := Nat.sub_self _
  have hrun := va_runSN (p := p) (e := e) (R := R) (below := below) (meth := meth) (H := H) (locs := locs) (cells := Λ.1 - n0) (slots := Λ.2.1 - sl0) (As := as.map (ja_cv ad)) (rest := st.map (ja_cv ad)) (g := F0 m pc ls ((as.reverse ++ st).map (ja_cv ad))) (n := n) (index := idx) ok.1 hM ⟨va_cnB (Ts := ja_tb) n hts (ja_good k2) rfl rfl rfl (ok.2.2.2.1.2.2.2.2.2.2 _ (List.mem_of_getElem? hlink)) (hts _ k1) k3 ⟨Nat.le_trans hro.1 ok.2.2.2.2.1.1, Nat.le_trans hro.2 ok.2.2.2.2.1.2.1⟩, hts _ k4, trivial⟩
    ⟨ja_blind, fun U hU hW => ⟨rfl, by rw [hU], by rw [hU]; exact iP, va_K.moved hW.alike ok.2.1, iD.weaken (fun _ _ _ _ => trivial), by
      have h1 := ja_SF_narrow (ja_SF_moved hW (ja_SF_kept (ja_SF_ad ok.2.2.2.1 (fun k hk => i4 k (Or.inr (by omega)))) iS.2.1)) hFc
      rw [hU]
      exact h1⟩⟩
    rfl (by rw [List.length_map]; exact hn) hl.1 (by simp) (lv_room (by rw [ja_cats]; exact hst)) hd ⟨by rw [z0]; have := ok.2.2.2.2.1.2.2.1; omega, by rw [z1]; have := ok.2.2.2.2.1.2.2.2; omega⟩
  refine ja_after (x := (D, cI, cJ)) hrun iS (fun q _ h => hFc q h) hFc (fun ad' H1 locs1 h1 h2 h3 h4 h5 => ?_)
  have ha : ad' = ad := funext fun k => h1 k (by show k < Λ.1 ∨ Λ.1 ≤ k; omega)
  subst ha
  have h6 := kk ok ad' H1 locs1 ls ⟨h2, h3.weaken (fun _ _ _ h => hFc _ h), h5, i4, i5⟩ hl
  rw [z0, z1, Nat.add_zero, Nat.add_zero]
  have e1 : (v1.map (ja_cv ad')).toList ++ st.map (ja_cv ad') = (v1.toList ++ st).map (ja_cv ad') := by cases v1 <;> rfl
  show W p l e R s m args below meth c H1 locs1 (Λ.1 - n0) (Λ.2.1 - sl0) (Qf zz) (F0 m (pc + 3) ls ((v1.map (ja_cv ad')).toList ++ st.map (ja_cv ad')))
  rw [e1]
  exact h6
end JM
/-- the ends of the printed functions -/
def ja_pu (σ : ja_S) (k j : Nat) (v : Int32) : Option ja_S := some (ja_si σ k j v)
def ja_rb (v : Int32) (σ : ja_S) : Option (Int32 × ja_S) := if v = 0 ∨ v = 1 then some (v, σ) else none
def ja_dv (x y : Int32) : Option Int32 := if y = 0 then none else some (x / y)
def ja_rmd (x y : Int32) : Option Int32 := if y = 0 then none else some (x - x / y * y)
def ja_FU : Nat := 10000
end
