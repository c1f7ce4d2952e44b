section
-- ===== PART A: goes FIRST, ahead of the names: the tables' words, and 'selects' of the private methods out of them =====
/-- a private method of a class that the tables say can be made, by its rows of tables_1 -/
def lw_okq (q : MethodName × Nat) : Prop := (q.1.cls ≠ "java/lang/invoke/MethodHandle" ∧ q.1.cls ≠ "java/lang/invoke/VarHandle") ∧ Cond.instantiable q.1.cls q.2 ∈ tables_1 ∧ Cond.privateMethod q.1 ∈ tables_1 ∧ Cond.instanceMethod q.1 ∈ tables_1
theorem lw_p0 : lw_okq (⟨"FrameProver", "startAnew", "()V"⟩, 9) := ⟨⟨by decide +kernel, by decide +kernel⟩, List.mem_of_getElem? (i := 16) (by decide +kernel), List.mem_of_getElem? (i := 304) (by decide +kernel), List.mem_of_getElem? (i := 305) (by decide +kernel)⟩
theorem lw_p1 : lw_okq (⟨"FrameProver", "refuse", "(I)I"⟩, 9) := ⟨⟨by decide +kernel, by decide +kernel⟩, List.mem_of_getElem? (i := 16) (by decide +kernel), List.mem_of_getElem? (i := 380) (by decide +kernel), List.mem_of_getElem? (i := 381) (by decide +kernel)⟩
theorem lw_p2 : lw_okq (⟨"FrameProver", "addSign", "(ILFrameProver$Signs;)I"⟩, 9) := ⟨⟨by decide +kernel, by decide +kernel⟩, List.mem_of_getElem? (i := 16) (by decide +kernel), List.mem_of_getElem? (i := 434) (by decide +kernel), List.mem_of_getElem? (i := 435) (by decide +kernel)⟩
theorem lw_p3 : lw_okq (⟨"FrameProver$Machine", "lanesIn", "(II)I"⟩, 14) := ⟨⟨by decide +kernel, by decide +kernel⟩, List.mem_of_getElem? (i := 24) (by decide +kernel), List.mem_of_getElem? (i := 482) (by decide +kernel), List.mem_of_getElem? (i := 483) (by decide +kernel)⟩
theorem lw_p4 : lw_okq (⟨"FrameProver$Steps", "renewFrom", "(LFrameProver$StateSet;)V"⟩, 11) := ⟨⟨by decide +kernel, by decide +kernel⟩, List.mem_of_getElem? (i := 108) (by decide +kernel), List.mem_of_getElem? (i := 549) (by decide +kernel), List.mem_of_getElem? (i := 550) (by decide +kernel)⟩
theorem lw_p5 : lw_okq (⟨"FrameProver$Proof", "begin", "()V"⟩, 10) := ⟨⟨by decide +kernel, by decide +kernel⟩, List.mem_of_getElem? (i := 220) (by decide +kernel), List.mem_of_getElem? (i := 560) (by decide +kernel), List.mem_of_getElem? (i := 561) (by decide +kernel)⟩
theorem lw_p6 : lw_okq (⟨"FrameProver$Proof", "addTrouble", "(II)V"⟩, 10) := ⟨⟨by decide +kernel, by decide +kernel⟩, List.mem_of_getElem? (i := 220) (by decide +kernel), List.mem_of_getElem? (i := 575) (by decide +kernel), List.mem_of_getElem? (i := 576) (by decide +kernel)⟩
theorem lw_p7 : lw_okq (⟨"FrameProver$Proof", "push", "()V"⟩, 10) := ⟨⟨by decide +kernel, by decide +kernel⟩, List.mem_of_getElem? (i := 220) (by decide +kernel), List.mem_of_getElem? (i := 579) (by decide +kernel), List.mem_of_getElem? (i := 580) (by decide +kernel)⟩
theorem lw_p8 : lw_okq (⟨"FrameProver$Proof", "look", "()V"⟩, 10) := ⟨⟨by decide +kernel, by decide +kernel⟩, List.mem_of_getElem? (i := 220) (by decide +kernel), List.mem_of_getElem? (i := 638) (by decide +kernel), List.mem_of_getElem? (i := 639) (by decide +kernel)⟩
theorem lw_p9 : lw_okq (⟨"FrameProver", "isCube", "(II)Z"⟩, 9) := ⟨⟨by decide +kernel, by decide +kernel⟩, List.mem_of_getElem? (i := 16) (by decide +kernel), List.mem_of_getElem? (i := 776) (by decide +kernel), List.mem_of_getElem? (i := 777) (by decide +kernel)⟩
theorem lw_p10 : lw_okq (⟨"FrameProver$Steps", "beginReach", "()V"⟩, 11) := ⟨⟨by decide +kernel, by decide +kernel⟩, List.mem_of_getElem? (i := 108) (by decide +kernel), List.mem_of_getElem? (i := 799) (by decide +kernel), List.mem_of_getElem? (i := 800) (by decide +kernel)⟩
theorem lw_p11 : lw_okq (⟨"FrameProver$Steps", "reachOn", "()Z"⟩, 11) := ⟨⟨by decide +kernel, by decide +kernel⟩, List.mem_of_getElem? (i := 108) (by decide +kernel), List.mem_of_getElem? (i := 805) (by decide +kernel), List.mem_of_getElem? (i := 806) (by decide +kernel)⟩
theorem lw_p12 : lw_okq (⟨"FrameProver$Machine", "markSign", "(I)V"⟩, 14) := ⟨⟨by decide +kernel, by decide +kernel⟩, List.mem_of_getElem? (i := 24) (by decide +kernel), List.mem_of_getElem? (i := 853) (by decide +kernel), List.mem_of_getElem? (i := 854) (by decide +kernel)⟩
theorem lw_p13 : lw_okq (⟨"FrameProver$Machine", "markPass", "()V"⟩, 14) := ⟨⟨by decide +kernel, by decide +kernel⟩, List.mem_of_getElem? (i := 24) (by decide +kernel), List.mem_of_getElem? (i := 858) (by decide +kernel), List.mem_of_getElem? (i := 859) (by decide +kernel)⟩
theorem lw_p14 : lw_okq (⟨"FrameProver$Machine", "isMarked", "(I)Z"⟩, 14) := ⟨⟨by decide +kernel, by decide +kernel⟩, List.mem_of_getElem? (i := 24) (by decide +kernel), List.mem_of_getElem? (i := 862) (by decide +kernel), List.mem_of_getElem? (i := 863) (by decide +kernel)⟩
theorem lw_p15 : lw_okq (⟨"FrameProver$Steps", "closeLeads", "()V"⟩, 11) := ⟨⟨by decide +kernel, by decide +kernel⟩, List.mem_of_getElem? (i := 108) (by decide +kernel), List.mem_of_getElem? (i := 875) (by decide +kernel), List.mem_of_getElem? (i := 876) (by decide +kernel)⟩
def lw_privs_1 : List (MethodName × Nat) := [(⟨"FrameProver", "startAnew", "()V"⟩, 9), (⟨"FrameProver", "refuse", "(I)I"⟩, 9), (⟨"FrameProver", "addSign", "(ILFrameProver$Signs;)I"⟩, 9), (⟨"FrameProver$Machine", "lanesIn", "(II)I"⟩, 14), (⟨"FrameProver$Steps", "renewFrom", "(LFrameProver$StateSet;)V"⟩, 11), (⟨"FrameProver$Proof", "begin", "()V"⟩, 10), (⟨"FrameProver$Proof", "addTrouble", "(II)V"⟩, 10), (⟨"FrameProver$Proof", "push", "()V"⟩, 10), (⟨"FrameProver$Proof", "look", "()V"⟩, 10), (⟨"FrameProver", "isCube", "(II)Z"⟩, 9), (⟨"FrameProver$Steps", "beginReach", "()V"⟩, 11), (⟨"FrameProver$Steps", "reachOn", "()Z"⟩, 11), (⟨"FrameProver$Machine", "markSign", "(I)V"⟩, 14), (⟨"FrameProver$Machine", "markPass", "()V"⟩, 14), (⟨"FrameProver$Machine", "isMarked", "(I)Z"⟩, 14), (⟨"FrameProver$Steps", "closeLeads", "()V"⟩, 11)]
theorem lw_r1 : ∀ q ∈ lw_privs_1, lw_okq q := List.forall_mem_cons.mpr ⟨lw_p0, List.forall_mem_cons.mpr ⟨lw_p1, List.forall_mem_cons.mpr ⟨lw_p2, List.forall_mem_cons.mpr ⟨lw_p3, List.forall_mem_cons.mpr ⟨lw_p4, List.forall_mem_cons.mpr ⟨lw_p5, List.forall_mem_cons.mpr ⟨lw_p6, List.forall_mem_cons.mpr ⟨lw_p7, List.forall_mem_cons.mpr ⟨lw_p8, List.forall_mem_cons.mpr ⟨lw_p9, List.forall_mem_cons.mpr ⟨lw_p10, List.forall_mem_cons.mpr ⟨lw_p11, List.forall_mem_cons.mpr ⟨lw_p12, List.forall_mem_cons.mpr ⟨lw_p13, List.forall_mem_cons.mpr ⟨lw_p14, List.forall_mem_cons.mpr ⟨lw_p15, fun _ h => absurd h List.not_mem_nil⟩⟩⟩⟩⟩⟩⟩⟩⟩⟩⟩⟩⟩⟩⟩⟩
theorem lw_p16 : lw_okq (⟨"FrameProver$Steps", "leadsFrom", "(I)LFrameProver$StateSet;"⟩, 11) := ⟨⟨by decide +kernel, by decide +kernel⟩, List.mem_of_getElem? (i := 108) (by decide +kernel), List.mem_of_getElem? (i := 879) (by decide +kernel), List.mem_of_getElem? (i := 880) (by decide +kernel)⟩
theorem lw_p17 : lw_okq (⟨"FrameProver$Steps", "findCircle", "(I)V"⟩, 11) := ⟨⟨by decide +kernel, by decide +kernel⟩, List.mem_of_getElem? (i := 108) (by decide +kernel), List.mem_of_getElem? (i := 884) (by decide +kernel), List.mem_of_getElem? (i := 885) (by decide +kernel)⟩
theorem lw_p18 : lw_okq (⟨"FrameProver$Steps", "isCircleFair", "()Z"⟩, 11) := ⟨⟨by decide +kernel, by decide +kernel⟩, List.mem_of_getElem? (i := 108) (by decide +kernel), List.mem_of_getElem? (i := 888) (by decide +kernel), List.mem_of_getElem? (i := 889) (by decide +kernel)⟩
theorem lw_p19 : lw_okq (⟨"FrameProver$Steps", "isInCircle", "(I)Z"⟩, 11) := ⟨⟨by decide +kernel, by decide +kernel⟩, List.mem_of_getElem? (i := 108) (by decide +kernel), List.mem_of_getElem? (i := 893) (by decide +kernel), List.mem_of_getElem? (i := 894) (by decide +kernel)⟩
theorem lw_p20 : lw_okq (⟨"FrameProver$Clauses", "findLeft", "()V"⟩, 4) := ⟨⟨by decide +kernel, by decide +kernel⟩, List.mem_of_getElem? (i := 170) (by decide +kernel), List.mem_of_getElem? (i := 911) (by decide +kernel), List.mem_of_getElem? (i := 912) (by decide +kernel)⟩
theorem lw_p21 : lw_okq (⟨"FrameProver$Judge", "leastThatLeadsOut", "()I"⟩, 5) := ⟨⟨by decide +kernel, by decide +kernel⟩, List.mem_of_getElem? (i := 262) (by decide +kernel), List.mem_of_getElem? (i := 933) (by decide +kernel), List.mem_of_getElem? (i := 934) (by decide +kernel)⟩
theorem lw_p22 : lw_okq (⟨"FrameProverModel", "no", "(I)I"⟩, 47) := ⟨⟨by decide +kernel, by decide +kernel⟩, List.mem_of_getElem? (i := 1019) (by decide +kernel), List.mem_of_getElem? (i := 1172) (by decide +kernel), List.mem_of_getElem? (i := 1173) (by decide +kernel)⟩
theorem lw_p23 : lw_okq (⟨"FrameProverModel", "adds", "(III)I"⟩, 47) := ⟨⟨by decide +kernel, by decide +kernel⟩, List.mem_of_getElem? (i := 1019) (by decide +kernel), List.mem_of_getElem? (i := 1176) (by decide +kernel), List.mem_of_getElem? (i := 1177) (by decide +kernel)⟩
theorem lw_p24 : lw_okq (⟨"FrameProverModel", "changes", "()V"⟩, 47) := ⟨⟨by decide +kernel, by decide +kernel⟩, List.mem_of_getElem? (i := 1019) (by decide +kernel), List.mem_of_getElem? (i := 1180) (by decide +kernel), List.mem_of_getElem? (i := 1181) (by decide +kernel)⟩
theorem lw_p25 : lw_okq (⟨"FrameProverModel", "isSign", "(I)Z"⟩, 47) := ⟨⟨by decide +kernel, by decide +kernel⟩, List.mem_of_getElem? (i := 1019) (by decide +kernel), List.mem_of_getElem? (i := 1192) (by decide +kernel), List.mem_of_getElem? (i := 1193) (by decide +kernel)⟩
theorem lw_p26 : lw_okq (⟨"FrameProverModel", "sorted", "(I)I"⟩, 47) := ⟨⟨by decide +kernel, by decide +kernel⟩, List.mem_of_getElem? (i := 1019) (by decide +kernel), List.mem_of_getElem? (i := 1224) (by decide +kernel), List.mem_of_getElem? (i := 1225) (by decide +kernel)⟩
theorem lw_p27 : lw_okq (⟨"FrameProverModel", "ways", "()I"⟩, 47) := ⟨⟨by decide +kernel, by decide +kernel⟩, List.mem_of_getElem? (i := 1019) (by decide +kernel), List.mem_of_getElem? (i := 1236) (by decide +kernel), List.mem_of_getElem? (i := 1237) (by decide +kernel)⟩
theorem lw_p28 : lw_okq (⟨"FrameProverModel", "table", "()V"⟩, 47) := ⟨⟨by decide +kernel, by decide +kernel⟩, List.mem_of_getElem? (i := 1019) (by decide +kernel), List.mem_of_getElem? (i := 1240) (by decide +kernel), List.mem_of_getElem? (i := 1241) (by decide +kernel)⟩
theorem lw_p29 : lw_okq (⟨"FrameProverModel", "states", "()I"⟩, 47) := ⟨⟨by decide +kernel, by decide +kernel⟩, List.mem_of_getElem? (i := 1019) (by decide +kernel), List.mem_of_getElem? (i := 1244) (by decide +kernel), List.mem_of_getElem? (i := 1245) (by decide +kernel)⟩
theorem lw_p30 : lw_okq (⟨"FrameProverModel", "show", "(II)V"⟩, 47) := ⟨⟨by decide +kernel, by decide +kernel⟩, List.mem_of_getElem? (i := 1019) (by decide +kernel), List.mem_of_getElem? (i := 1248) (by decide +kernel), List.mem_of_getElem? (i := 1249) (by decide +kernel)⟩
theorem lw_p31 : lw_okq (⟨"FrameProverModel", "is", "(I)Z"⟩, 47) := ⟨⟨by decide +kernel, by decide +kernel⟩, List.mem_of_getElem? (i := 1019) (by decide +kernel), List.mem_of_getElem? (i := 1252) (by decide +kernel), List.mem_of_getElem? (i := 1253) (by decide +kernel)⟩
def lw_privs_2 : List (MethodName × Nat) := [(⟨"FrameProver$Steps", "leadsFrom", "(I)LFrameProver$StateSet;"⟩, 11), (⟨"FrameProver$Steps", "findCircle", "(I)V"⟩, 11), (⟨"FrameProver$Steps", "isCircleFair", "()Z"⟩, 11), (⟨"FrameProver$Steps", "isInCircle", "(I)Z"⟩, 11), (⟨"FrameProver$Clauses", "findLeft", "()V"⟩, 4), (⟨"FrameProver$Judge", "leastThatLeadsOut", "()I"⟩, 5), (⟨"FrameProverModel", "no", "(I)I"⟩, 47), (⟨"FrameProverModel", "adds", "(III)I"⟩, 47), (⟨"FrameProverModel", "changes", "()V"⟩, 47), (⟨"FrameProverModel", "isSign", "(I)Z"⟩, 47), (⟨"FrameProverModel", "sorted", "(I)I"⟩, 47), (⟨"FrameProverModel", "ways", "()I"⟩, 47), (⟨"FrameProverModel", "table", "()V"⟩, 47), (⟨"FrameProverModel", "states", "()I"⟩, 47), (⟨"FrameProverModel", "show", "(II)V"⟩, 47), (⟨"FrameProverModel", "is", "(I)Z"⟩, 47)]
theorem lw_r2 : ∀ q ∈ lw_privs_2, lw_okq q := List.forall_mem_cons.mpr ⟨lw_p16, List.forall_mem_cons.mpr ⟨lw_p17, List.forall_mem_cons.mpr ⟨lw_p18, List.forall_mem_cons.mpr ⟨lw_p19, List.forall_mem_cons.mpr ⟨lw_p20, List.forall_mem_cons.mpr ⟨lw_p21, List.forall_mem_cons.mpr ⟨lw_p22, List.forall_mem_cons.mpr ⟨lw_p23, List.forall_mem_cons.mpr ⟨lw_p24, List.forall_mem_cons.mpr ⟨lw_p25, List.forall_mem_cons.mpr ⟨lw_p26, List.forall_mem_cons.mpr ⟨lw_p27, List.forall_mem_cons.mpr ⟨lw_p28, List.forall_mem_cons.mpr ⟨lw_p29, List.forall_mem_cons.mpr ⟨lw_p30, List.forall_mem_cons.mpr ⟨lw_p31, fun _ h => absurd h List.not_mem_nil⟩⟩⟩⟩⟩⟩⟩⟩⟩⟩⟩⟩⟩⟩⟩⟩
theorem lw_p32 : lw_okq (⟨"FrameProverModel", "isRight", "()Z"⟩, 47) := ⟨⟨by decide +kernel, by decide +kernel⟩, List.mem_of_getElem? (i := 1019) (by decide +kernel), List.mem_of_getElem? (i := 1256) (by decide +kernel), List.mem_of_getElem? (i := 1257) (by decide +kernel)⟩
theorem lw_p33 : lw_okq (⟨"FrameProverModel", "comes", "()I"⟩, 47) := ⟨⟨by decide +kernel, by decide +kernel⟩, List.mem_of_getElem? (i := 1019) (by decide +kernel), List.mem_of_getElem? (i := 1260) (by decide +kernel), List.mem_of_getElem? (i := 1261) (by decide +kernel)⟩
theorem lw_p34 : lw_okq (⟨"FrameProverModel", "isState", "(I)Z"⟩, 47) := ⟨⟨by decide +kernel, by decide +kernel⟩, List.mem_of_getElem? (i := 1019) (by decide +kernel), List.mem_of_getElem? (i := 1272) (by decide +kernel), List.mem_of_getElem? (i := 1273) (by decide +kernel)⟩
theorem lw_p35 : lw_okq (⟨"FrameProverModel", "isBadState", "(I)Z"⟩, 47) := ⟨⟨by decide +kernel, by decide +kernel⟩, List.mem_of_getElem? (i := 1019) (by decide +kernel), List.mem_of_getElem? (i := 1281) (by decide +kernel), List.mem_of_getElem? (i := 1282) (by decide +kernel)⟩
theorem lw_p36 : lw_okq (⟨"FrameProverModel", "meet", "(II)V"⟩, 47) := ⟨⟨by decide +kernel, by decide +kernel⟩, List.mem_of_getElem? (i := 1019) (by decide +kernel), List.mem_of_getElem? (i := 1285) (by decide +kernel), List.mem_of_getElem? (i := 1286) (by decide +kernel)⟩
theorem lw_p37 : lw_okq (⟨"FrameProverModel", "tellWay", "()V"⟩, 47) := ⟨⟨by decide +kernel, by decide +kernel⟩, List.mem_of_getElem? (i := 1019) (by decide +kernel), List.mem_of_getElem? (i := 1289) (by decide +kernel), List.mem_of_getElem? (i := 1290) (by decide +kernel)⟩
theorem lw_p38 : lw_okq (⟨"FrameProverModel", "hasTrouble", "()Z"⟩, 47) := ⟨⟨by decide +kernel, by decide +kernel⟩, List.mem_of_getElem? (i := 1019) (by decide +kernel), List.mem_of_getElem? (i := 1293) (by decide +kernel), List.mem_of_getElem? (i := 1294) (by decide +kernel)⟩
theorem lw_p39 : lw_okq (⟨"FrameProverModel", "isInFrame", "(II)Z"⟩, 47) := ⟨⟨by decide +kernel, by decide +kernel⟩, List.mem_of_getElem? (i := 1019) (by decide +kernel), List.mem_of_getElem? (i := 1297) (by decide +kernel), List.mem_of_getElem? (i := 1298) (by decide +kernel)⟩
theorem lw_p40 : lw_okq (⟨"FrameProverModel", "pushAll", "()V"⟩, 47) := ⟨⟨by decide +kernel, by decide +kernel⟩, List.mem_of_getElem? (i := 1019) (by decide +kernel), List.mem_of_getElem? (i := 1304) (by decide +kernel), List.mem_of_getElem? (i := 1305) (by decide +kernel)⟩
theorem lw_p41 : lw_okq (⟨"FrameProverModel", "push", "(I)V"⟩, 47) := ⟨⟨by decide +kernel, by decide +kernel⟩, List.mem_of_getElem? (i := 1019) (by decide +kernel), List.mem_of_getElem? (i := 1308) (by decide +kernel), List.mem_of_getElem? (i := 1309) (by decide +kernel)⟩
theorem lw_p42 : lw_okq (⟨"FrameProverModel", "has", "(III)Z"⟩, 47) := ⟨⟨by decide +kernel, by decide +kernel⟩, List.mem_of_getElem? (i := 1019) (by decide +kernel), List.mem_of_getElem? (i := 1312) (by decide +kernel), List.mem_of_getElem? (i := 1313) (by decide +kernel)⟩
theorem lw_p43 : lw_okq (⟨"FrameProverModel", "isShut", "(III)Z"⟩, 47) := ⟨⟨by decide +kernel, by decide +kernel⟩, List.mem_of_getElem? (i := 1019) (by decide +kernel), List.mem_of_getElem? (i := 1316) (by decide +kernel), List.mem_of_getElem? (i := 1317) (by decide +kernel)⟩
theorem lw_p44 : lw_okq (⟨"FrameProverModel", "leadsInto", "(III)Z"⟩, 47) := ⟨⟨by decide +kernel, by decide +kernel⟩, List.mem_of_getElem? (i := 1019) (by decide +kernel), List.mem_of_getElem? (i := 1320) (by decide +kernel), List.mem_of_getElem? (i := 1321) (by decide +kernel)⟩
theorem lw_p45 : lw_okq (⟨"FrameProverModel", "keep", "(III)V"⟩, 47) := ⟨⟨by decide +kernel, by decide +kernel⟩, List.mem_of_getElem? (i := 1019) (by decide +kernel), List.mem_of_getElem? (i := 1324) (by decide +kernel), List.mem_of_getElem? (i := 1325) (by decide +kernel)⟩
theorem lw_p46 : lw_okq (⟨"FrameProverModel", "hasAll", "(I)Z"⟩, 47) := ⟨⟨by decide +kernel, by decide +kernel⟩, List.mem_of_getElem? (i := 1019) (by decide +kernel), List.mem_of_getElem? (i := 1328) (by decide +kernel), List.mem_of_getElem? (i := 1329) (by decide +kernel)⟩
theorem lw_p47 : lw_okq (⟨"FrameProverModel", "lookAt", "()V"⟩, 47) := ⟨⟨by decide +kernel, by decide +kernel⟩, List.mem_of_getElem? (i := 1019) (by decide +kernel), List.mem_of_getElem? (i := 1332) (by decide +kernel), List.mem_of_getElem? (i := 1333) (by decide +kernel)⟩
def lw_privs_3 : List (MethodName × Nat) := [(⟨"FrameProverModel", "isRight", "()Z"⟩, 47), (⟨"FrameProverModel", "comes", "()I"⟩, 47), (⟨"FrameProverModel", "isState", "(I)Z"⟩, 47), (⟨"FrameProverModel", "isBadState", "(I)Z"⟩, 47), (⟨"FrameProverModel", "meet", "(II)V"⟩, 47), (⟨"FrameProverModel", "tellWay", "()V"⟩, 47), (⟨"FrameProverModel", "hasTrouble", "()Z"⟩, 47), (⟨"FrameProverModel", "isInFrame", "(II)Z"⟩, 47), (⟨"FrameProverModel", "pushAll", "()V"⟩, 47), (⟨"FrameProverModel", "push", "(I)V"⟩, 47), (⟨"FrameProverModel", "has", "(III)Z"⟩, 47), (⟨"FrameProverModel", "isShut", "(III)Z"⟩, 47), (⟨"FrameProverModel", "leadsInto", "(III)Z"⟩, 47), (⟨"FrameProverModel", "keep", "(III)V"⟩, 47), (⟨"FrameProverModel", "hasAll", "(I)Z"⟩, 47), (⟨"FrameProverModel", "lookAt", "()V"⟩, 47)]
theorem lw_r3 : ∀ q ∈ lw_privs_3, lw_okq q := List.forall_mem_cons.mpr ⟨lw_p32, List.forall_mem_cons.mpr ⟨lw_p33, List.forall_mem_cons.mpr ⟨lw_p34, List.forall_mem_cons.mpr ⟨lw_p35, List.forall_mem_cons.mpr ⟨lw_p36, List.forall_mem_cons.mpr ⟨lw_p37, List.forall_mem_cons.mpr ⟨lw_p38, List.forall_mem_cons.mpr ⟨lw_p39, List.forall_mem_cons.mpr ⟨lw_p40, List.forall_mem_cons.mpr ⟨lw_p41, List.forall_mem_cons.mpr ⟨lw_p42, List.forall_mem_cons.mpr ⟨lw_p43, List.forall_mem_cons.mpr ⟨lw_p44, List.forall_mem_cons.mpr ⟨lw_p45, List.forall_mem_cons.mpr ⟨lw_p46, List.forall_mem_cons.mpr ⟨lw_p47, fun _ h => absurd h List.not_mem_nil⟩⟩⟩⟩⟩⟩⟩⟩⟩⟩⟩⟩⟩⟩⟩⟩
theorem lw_p48 : lw_okq (⟨"FrameProverModel", "forerunner", "(II)I"⟩, 47) := ⟨⟨by decide +kernel, by decide +kernel⟩, List.mem_of_getElem? (i := 1019) (by decide +kernel), List.mem_of_getElem? (i := 1336) (by decide +kernel), List.mem_of_getElem? (i := 1337) (by decide +kernel)⟩
theorem lw_p49 : lw_okq (⟨"FrameProverModel", "leads", "(II)Z"⟩, 47) := ⟨⟨by decide +kernel, by decide +kernel⟩, List.mem_of_getElem? (i := 1019) (by decide +kernel), List.mem_of_getElem? (i := 1340) (by decide +kernel), List.mem_of_getElem? (i := 1341) (by decide +kernel)⟩
theorem lw_p50 : lw_okq (⟨"FrameProverModel", "widened", "(III)I"⟩, 47) := ⟨⟨by decide +kernel, by decide +kernel⟩, List.mem_of_getElem? (i := 1019) (by decide +kernel), List.mem_of_getElem? (i := 1344) (by decide +kernel), List.mem_of_getElem? (i := 1345) (by decide +kernel)⟩
theorem lw_p51 : lw_okq (⟨"FrameProverModel", "asked", "(III)I"⟩, 47) := ⟨⟨by decide +kernel, by decide +kernel⟩, List.mem_of_getElem? (i := 1019) (by decide +kernel), List.mem_of_getElem? (i := 1348) (by decide +kernel), List.mem_of_getElem? (i := 1349) (by decide +kernel)⟩
theorem lw_p52 : lw_okq (⟨"FrameProverModel", "isCube", "(II)Z"⟩, 47) := ⟨⟨by decide +kernel, by decide +kernel⟩, List.mem_of_getElem? (i := 1019) (by decide +kernel), List.mem_of_getElem? (i := 1388) (by decide +kernel), List.mem_of_getElem? (i := 1389) (by decide +kernel)⟩
theorem lw_p53 : lw_okq (⟨"FrameProverModel", "findFar", "(I)V"⟩, 47) := ⟨⟨by decide +kernel, by decide +kernel⟩, List.mem_of_getElem? (i := 1019) (by decide +kernel), List.mem_of_getElem? (i := 1400) (by decide +kernel), List.mem_of_getElem? (i := 1401) (by decide +kernel)⟩
theorem lw_p54 : lw_okq (⟨"FrameProverModel", "findComes", "()V"⟩, 47) := ⟨⟨by decide +kernel, by decide +kernel⟩, List.mem_of_getElem? (i := 1019) (by decide +kernel), List.mem_of_getElem? (i := 1420) (by decide +kernel), List.mem_of_getElem? (i := 1421) (by decide +kernel)⟩
theorem lw_p55 : lw_okq (⟨"FrameProverModel", "fairAround", "(I)I"⟩, 47) := ⟨⟨by decide +kernel, by decide +kernel⟩, List.mem_of_getElem? (i := 1019) (by decide +kernel), List.mem_of_getElem? (i := 1424) (by decide +kernel), List.mem_of_getElem? (i := 1425) (by decide +kernel)⟩
theorem lw_p56 : lw_okq (⟨"FrameProverModel", "judged", "(I)I"⟩, 47) := ⟨⟨by decide +kernel, by decide +kernel⟩, List.mem_of_getElem? (i := 1019) (by decide +kernel), List.mem_of_getElem? (i := 1448) (by decide +kernel), List.mem_of_getElem? (i := 1449) (by decide +kernel)⟩
theorem lw_p57 : lw_okq (⟨"FrameProverModel", "isLeft", "(II)Z"⟩, 47) := ⟨⟨by decide +kernel, by decide +kernel⟩, List.mem_of_getElem? (i := 1019) (by decide +kernel), List.mem_of_getElem? (i := 1452) (by decide +kernel), List.mem_of_getElem? (i := 1453) (by decide +kernel)⟩
def lw_privs_4 : List (MethodName × Nat) := [(⟨"FrameProverModel", "forerunner", "(II)I"⟩, 47), (⟨"FrameProverModel", "leads", "(II)Z"⟩, 47), (⟨"FrameProverModel", "widened", "(III)I"⟩, 47), (⟨"FrameProverModel", "asked", "(III)I"⟩, 47), (⟨"FrameProverModel", "isCube", "(II)Z"⟩, 47), (⟨"FrameProverModel", "findFar", "(I)V"⟩, 47), (⟨"FrameProverModel", "findComes", "()V"⟩, 47), (⟨"FrameProverModel", "fairAround", "(I)I"⟩, 47), (⟨"FrameProverModel", "judged", "(I)I"⟩, 47), (⟨"FrameProverModel", "isLeft", "(II)Z"⟩, 47)]
theorem lw_r4 : ∀ q ∈ lw_privs_4, lw_okq q := List.forall_mem_cons.mpr ⟨lw_p48, List.forall_mem_cons.mpr ⟨lw_p49, List.forall_mem_cons.mpr ⟨lw_p50, List.forall_mem_cons.mpr ⟨lw_p51, List.forall_mem_cons.mpr ⟨lw_p52, List.forall_mem_cons.mpr ⟨lw_p53, List.forall_mem_cons.mpr ⟨lw_p54, List.forall_mem_cons.mpr ⟨lw_p55, List.forall_mem_cons.mpr ⟨lw_p56, List.forall_mem_cons.mpr ⟨lw_p57, fun _ h => absurd h List.not_mem_nil⟩⟩⟩⟩⟩⟩⟩⟩⟩⟩
def lw_privs : List (MethodName × Nat) := lw_privs_1 ++ (lw_privs_2 ++ (lw_privs_3 ++ (lw_privs_4)))
def lw_tbl : List Cond := k2_sels lw_privs ++ tables_1
theorem lw_privs_ok : ∀ q ∈ lw_privs, lw_okq q := by
  show ∀ q ∈ lw_privs_1 ++ (lw_privs_2 ++ (lw_privs_3 ++ (lw_privs_4))), lw_okq q
  exact List.forall_mem_append.mpr ⟨lw_r1, List.forall_mem_append.mpr ⟨lw_r2, List.forall_mem_append.mpr ⟨lw_r3, lw_r4⟩⟩⟩
-- ===== end of PART A; then your names; then what follows =====
end
section
def RX0 : String := "FrameProver$Clauses"
def TX0 : u_T := fun k => match k with
  | 0 => ("FrameProver$Clauses", "cubes", "[I", true)
  | 1 => ("FrameProver$Clauses", "left", "LFrameProver$StateSet;", true)
  | 2 => ("FrameProver$Clauses", "size", "I", false)
  | _ => ("FrameProver$Clauses", "states", "I", false)
def tyX0 : Nat → FieldType := fun k => match k with
  | 0 => .array .int
  | 1 => .object "FrameProver$StateSet"
  | 2 => .int
  | _ => .int
abbrev wsX00 : List Cond := u_ws RX0 TX0 4
theorem nmX0 : ∀ a, a < 4 → ∀ b, b < 4 → a ≠ b → (TX0 a).2.1 ≠ (TX0 b).2.1 := by decide +kernel
theorem tyX0_ok : ∀ k, k < 4 → parseFieldDescriptor (TX0 k).2.2.1 = some (tyX0 k) := by decide +kernel
abbrev cX0_init : ByteArray := prog_2_method_1_code
def yX0_init : MethodName := ⟨RX0, "<init>", "(I)V"⟩
abbrev cX0_restart : ByteArray := prog_2_method_2_code
def yX0_restart : MethodName := ⟨RX0, "restart", "(I)V"⟩
abbrev cX0_isFull : ByteArray := prog_2_method_3_code
def yX0_isFull : MethodName := ⟨RX0, "isFull", "()Z"⟩
abbrev cX0_hasIndex : ByteArray := prog_2_method_4_code
def yX0_hasIndex : MethodName := ⟨RX0, "hasIndex", "(I)Z"⟩
abbrev cX0_cubeAt : ByteArray := prog_2_method_5_code
def yX0_cubeAt : MethodName := ⟨RX0, "cubeAt", "(I)I"⟩
abbrev cX0_put : ByteArray := prog_2_method_6_code
def yX0_put : MethodName := ⟨RX0, "put", "(I)Z"⟩
abbrev cX0_hasCube : ByteArray := prog_2_method_7_code
def yX0_hasCube : MethodName := ⟨RX0, "hasCube", "(I)Z"⟩
abbrev cX0_hasAllOf : ByteArray := prog_2_method_8_code
def yX0_hasAllOf : MethodName := ⟨RX0, "hasAllOf", "(LFrameProver$Clauses;)Z"⟩
abbrev cX0_becomeLike : ByteArray := prog_2_method_9_code
def yX0_becomeLike : MethodName := ⟨RX0, "becomeLike", "(LFrameProver$Clauses;)V"⟩
abbrev cX0_change : ByteArray := prog_2_method_10_code
def yX0_change : MethodName := ⟨RX0, "change", "(II)V"⟩
abbrev cX0_takeOut : ByteArray := prog_2_method_11_code
def yX0_takeOut : MethodName := ⟨RX0, "takeOut", "(I)V"⟩
abbrev cX0_putBack : ByteArray := prog_2_method_12_code
def yX0_putBack : MethodName := ⟨RX0, "putBack", "(II)V"⟩
abbrev cX0_findLeft : ByteArray := prog_2_method_13_code
def yX0_findLeft : MethodName := ⟨RX0, "findLeft", "()V"⟩
def RX1 : String := "FrameProver$Frames"
def TX1 : u_T := fun k => match k with
  | 0 => ("FrameProver$Frames", "machine", "LFrameProver$Machine;", true)
  | 1 => ("FrameProver$Frames", "steps", "LFrameProver$Steps;", true)
  | 2 => ("FrameProver$Frames", "all", "[LFrameProver$Clauses;", true)
  | 3 => ("FrameProver$Frames", "none", "LFrameProver$Clauses;", true)
  | 4 => ("FrameProver$Frames", "target", "LFrameProver$StateSet;", true)
  | _ => ("FrameProver$Frames", "coming", "LFrameProver$StateSet;", true)
def tyX1 : Nat → FieldType := fun k => match k with
  | 0 => .object "FrameProver$Machine"
  | 1 => .object "FrameProver$Steps"
  | 2 => .array (.object "FrameProver$Clauses")
  | 3 => .object "FrameProver$Clauses"
  | 4 => .object "FrameProver$StateSet"
  | _ => .object "FrameProver$StateSet"
abbrev wsX10 : List Cond := u_ws RX1 TX1 6
theorem nmX1 : ∀ a, a < 6 → ∀ b, b < 6 → a ≠ b → (TX1 a).2.1 ≠ (TX1 b).2.1 := by decide +kernel
theorem tyX1_ok : ∀ k, k < 6 → parseFieldDescriptor (TX1 k).2.2.1 = some (tyX1 k) := by decide +kernel
abbrev cX1_init : ByteArray := prog_3_method_1_code
def yX1_init : MethodName := ⟨RX1, "<init>", "(LFrameProver$Machine;LFrameProver$Steps;)V"⟩
abbrev cX1_restart : ByteArray := prog_3_method_2_code
def yX1_restart : MethodName := ⟨RX1, "restart", "()V"⟩
abbrev cX1_frame : ByteArray := prog_3_method_3_code
def yX1_frame : MethodName := ⟨RX1, "frame", "(I)LFrameProver$Clauses;"⟩
abbrev cX1_leastInto : ByteArray := prog_3_method_4_code
def yX1_leastInto : MethodName := ⟨RX1, "leastInto", "(II)I"⟩
abbrev cX1_canKeepOut : ByteArray := prog_3_method_5_code
def yX1_canKeepOut : MethodName := ⟨RX1, "canKeepOut", "(II)Z"⟩
abbrev cX1_widened : ByteArray := prog_3_method_6_code
def yX1_widened : MethodName := ⟨RX1, "widened", "(II)I"⟩
abbrev cX1_putUpTo : ByteArray := prog_3_method_7_code
def yX1_putUpTo : MethodName := ⟨RX1, "putUpTo", "(II)Z"⟩
abbrev cX1_pushOn : ByteArray := prog_3_method_8_code
def yX1_pushOn : MethodName := ⟨RX1, "pushOn", "(I)Z"⟩
def RX2 : String := "FrameProver$Judge"
def TX2 : u_T := fun k => match k with
  | 0 => ("FrameProver$Judge", "machine", "LFrameProver$Machine;", true)
  | 1 => ("FrameProver$Judge", "steps", "LFrameProver$Steps;", true)
  | 2 => ("FrameProver$Judge", "list", "LFrameProver$Clauses;", true)
  | 3 => ("FrameProver$Judge", "failedWith", "I", false)
  | _ => ("FrameProver$Judge", "failedTo", "I", false)
def tyX2 : Nat → FieldType := fun k => match k with
  | 0 => .object "FrameProver$Machine"
  | 1 => .object "FrameProver$Steps"
  | 2 => .object "FrameProver$Clauses"
  | 3 => .int
  | _ => .int
abbrev wsX20 : List Cond := u_ws RX2 TX2 5
theorem nmX2 : ∀ a, a < 5 → ∀ b, b < 5 → a ≠ b → (TX2 a).2.1 ≠ (TX2 b).2.1 := by decide +kernel
theorem tyX2_ok : ∀ k, k < 5 → parseFieldDescriptor (TX2 k).2.2.1 = some (tyX2 k) := by decide +kernel
abbrev cX2_init : ByteArray := prog_4_method_1_code
def yX2_init : MethodName := ⟨RX2, "<init>", "(LFrameProver$Machine;LFrameProver$Steps;LFrameProver$Clauses;)V"⟩
abbrev cX2_fault : ByteArray := prog_4_method_2_code
def yX2_fault : MethodName := ⟨RX2, "fault", "()I"⟩
abbrev cX2_leastThatLeadsOut : ByteArray := prog_4_method_3_code
def yX2_leastThatLeadsOut : MethodName := ⟨RX2, "leastThatLeadsOut", "()I"⟩
abbrev cX2_judgeList : ByteArray := prog_4_method_4_code
def yX2_judgeList : MethodName := ⟨RX2, "judgeList", "()I"⟩
abbrev cX2_shrinkList : ByteArray := prog_4_method_5_code
def yX2_shrinkList : MethodName := ⟨RX2, "shrinkList", "()I"⟩
def RX3 : String := "FrameProver$Machine"
def TX3 : u_T := fun k => match k with
  | 0 => ("FrameProver$Machine", "kinds", "[I", true)
  | 1 => ("FrameProver$Machine", "firstSigns", "[I", true)
  | 2 => ("FrameProver$Machine", "secondSigns", "[I", true)
  | 3 => ("FrameProver$Machine", "places", "[I", true)
  | 4 => ("FrameProver$Machine", "partsOfBits", "[I", true)
  | 5 => ("FrameProver$Machine", "lanes", "[I", true)
  | 6 => ("FrameProver$Machine", "hangs", "[Z", true)
  | 7 => ("FrameProver$Machine", "assumed", "LFrameProver$Signs;", true)
  | 8 => ("FrameProver$Machine", "fairs", "LFrameProver$Signs;", true)
  | 9 => ("FrameProver$Machine", "badSign", "I", false)
  | 10 => ("FrameProver$Machine", "parts", "I", false)
  | 11 => ("FrameProver$Machine", "bits", "I", false)
  | 12 => ("FrameProver$Machine", "inputs", "I", false)
  | _ => ("FrameProver$Machine", "beginning", "I", false)
def tyX3 : Nat → FieldType := fun k => match k with
  | 0 => .array .int
  | 1 => .array .int
  | 2 => .array .int
  | 3 => .array .int
  | 4 => .array .int
  | 5 => .array .int
  | 6 => .array .boolean
  | 7 => .object "FrameProver$Signs"
  | 8 => .object "FrameProver$Signs"
  | 9 => .int
  | 10 => .int
  | 11 => .int
  | 12 => .int
  | _ => .int
abbrev wsX30 : List Cond := u_ws RX3 TX3 14
theorem nmX3 : ∀ a, a < 14 → ∀ b, b < 14 → a ≠ b → (TX3 a).2.1 ≠ (TX3 b).2.1 := by decide +kernel
theorem tyX3_ok : ∀ k, k < 14 → parseFieldDescriptor (TX3 k).2.2.1 = some (tyX3 k) := by decide +kernel
abbrev cX3_init : ByteArray := prog_5_method_1_code
def yX3_init : MethodName := ⟨RX3, "<init>", "()V"⟩
abbrev cX3_isFull : ByteArray := prog_5_method_2_code
def yX3_isFull : MethodName := ⟨RX3, "isFull", "()Z"⟩
abbrev cX3_addPart : ByteArray := prog_5_method_3_code
def yX3_addPart : MethodName := ⟨RX3, "addPart", "(III)I"⟩
abbrev cX3_addBit : ByteArray := prog_5_method_4_code
def yX3_addBit : MethodName := ⟨RX3, "addBit", "(ZZ)I"⟩
abbrev cX3_addInput : ByteArray := prog_5_method_5_code
def yX3_addInput : MethodName := ⟨RX3, "addInput", "()I"⟩
abbrev cX3_setNext : ByteArray := prog_5_method_6_code
def yX3_setNext : MethodName := ⟨RX3, "setNext", "(II)I"⟩
abbrev cX3_hasPart : ByteArray := prog_5_method_7_code
def yX3_hasPart : MethodName := ⟨RX3, "hasPart", "(I)Z"⟩
abbrev cX3_hasSign : ByteArray := prog_5_method_8_code
def yX3_hasSign : MethodName := ⟨RX3, "hasSign", "(I)Z"⟩
abbrev cX3_states : ByteArray := prog_5_method_9_code
def yX3_states : MethodName := ⟨RX3, "states", "()I"⟩
abbrev cX3_choicesInAll : ByteArray := prog_5_method_10_code
def yX3_choicesInAll : MethodName := ⟨RX3, "choicesInAll", "()I"⟩
abbrev cX3_hasState : ByteArray := prog_5_method_11_code
def yX3_hasState : MethodName := ⟨RX3, "hasState", "(I)Z"⟩
abbrev cX3_hasChoices : ByteArray := prog_5_method_12_code
def yX3_hasChoices : MethodName := ⟨RX3, "hasChoices", "(I)Z"⟩
abbrev cX3_kindOf : ByteArray := prog_5_method_13_code
def yX3_kindOf : MethodName := ⟨RX3, "kindOf", "(I)I"⟩
abbrev cX3_firstSign : ByteArray := prog_5_method_14_code
def yX3_firstSign : MethodName := ⟨RX3, "firstSign", "(I)I"⟩
abbrev cX3_secondSign : ByteArray := prog_5_method_15_code
def yX3_secondSign : MethodName := ⟨RX3, "secondSign", "(I)I"⟩
abbrev cX3_evaluate : ByteArray := prog_5_method_16_code
def yX3_evaluate : MethodName := ⟨RX3, "evaluate", "(I)V"⟩
abbrev cX3_lanesIn : ByteArray := prog_5_method_17_code
def yX3_lanesIn : MethodName := ⟨RX3, "lanesIn", "(II)I"⟩
abbrev cX3_partLanes : ByteArray := prog_5_method_18_code
def yX3_partLanes : MethodName := ⟨RX3, "partLanes", "(I)I"⟩
abbrev cX3_signLanes : ByteArray := prog_5_method_19_code
def yX3_signLanes : MethodName := ⟨RX3, "signLanes", "(I)I"⟩
abbrev cX3_rightLanes : ByteArray := prog_5_method_20_code
def yX3_rightLanes : MethodName := ⟨RX3, "rightLanes", "()I"⟩
abbrev cX3_badLanes : ByteArray := prog_5_method_21_code
def yX3_badLanes : MethodName := ⟨RX3, "badLanes", "()I"⟩
abbrev cX3_isRight : ByteArray := prog_5_method_22_code
def yX3_isRight : MethodName := ⟨RX3, "isRight", "(I)Z"⟩
abbrev cX3_stateAfter : ByteArray := prog_5_method_23_code
def yX3_stateAfter : MethodName := ⟨RX3, "stateAfter", "(I)I"⟩
abbrev cX3_leastChoicesTo : ByteArray := prog_5_method_24_code
def yX3_leastChoicesTo : MethodName := ⟨RX3, "leastChoicesTo", "(I)I"⟩
abbrev cX3_leastChoicesOfBad : ByteArray := prog_5_method_25_code
def yX3_leastChoicesOfBad : MethodName := ⟨RX3, "leastChoicesOfBad", "()I"⟩
abbrev cX3_coneBits : ByteArray := prog_5_method_26_code
def yX3_coneBits : MethodName := ⟨RX3, "coneBits", "()I"⟩
abbrev cX3_markPass : ByteArray := prog_5_method_27_code
def yX3_markPass : MethodName := ⟨RX3, "markPass", "()V"⟩
abbrev cX3_isMarked : ByteArray := prog_5_method_28_code
def yX3_isMarked : MethodName := ⟨RX3, "isMarked", "(I)Z"⟩
abbrev cX3_markSign : ByteArray := prog_5_method_29_code
def yX3_markSign : MethodName := ⟨RX3, "markSign", "(I)V"⟩
def RX4 : String := "FrameProver$Proof"
def TX4 : u_T := fun k => match k with
  | 0 => ("FrameProver$Proof", "machine", "LFrameProver$Machine;", true)
  | 1 => ("FrameProver$Proof", "steps", "LFrameProver$Steps;", true)
  | 2 => ("FrameProver$Proof", "frames", "LFrameProver$Frames;", true)
  | 3 => ("FrameProver$Proof", "troubleStates", "[I", true)
  | 4 => ("FrameProver$Proof", "troubleFrames", "[I", true)
  | 5 => ("FrameProver$Proof", "troubles", "I", false)
  | 6 => ("FrameProver$Proof", "ended", "I", false)
  | 7 => ("FrameProver$Proof", "n", "I", false)
  | 8 => ("FrameProver$Proof", "looks", "I", false)
  | _ => ("FrameProver$Proof", "wallFrame", "I", false)
def tyX4 : Nat → FieldType := fun k => match k with
  | 0 => .object "FrameProver$Machine"
  | 1 => .object "FrameProver$Steps"
  | 2 => .object "FrameProver$Frames"
  | 3 => .array .int
  | 4 => .array .int
  | 5 => .int
  | 6 => .int
  | 7 => .int
  | 8 => .int
  | _ => .int
abbrev wsX40 : List Cond := u_ws RX4 TX4 10
theorem nmX4 : ∀ a, a < 10 → ∀ b, b < 10 → a ≠ b → (TX4 a).2.1 ≠ (TX4 b).2.1 := by decide +kernel
theorem tyX4_ok : ∀ k, k < 10 → parseFieldDescriptor (TX4 k).2.2.1 = some (tyX4 k) := by decide +kernel
abbrev cX4_init : ByteArray := prog_6_method_1_code
def yX4_init : MethodName := ⟨RX4, "<init>", "(LFrameProver$Machine;LFrameProver$Steps;LFrameProver$Frames;)V"⟩
abbrev cX4_forget : ByteArray := prog_6_method_2_code
def yX4_forget : MethodName := ⟨RX4, "forget", "()V"⟩
abbrev cX4_goOn : ByteArray := prog_6_method_3_code
def yX4_goOn : MethodName := ⟨RX4, "goOn", "(I)I"⟩
abbrev cX4_begin : ByteArray := prog_6_method_4_code
def yX4_begin : MethodName := ⟨RX4, "begin", "()V"⟩
abbrev cX4_look : ByteArray := prog_6_method_5_code
def yX4_look : MethodName := ⟨RX4, "look", "()V"⟩
abbrev cX4_addTrouble : ByteArray := prog_6_method_6_code
def yX4_addTrouble : MethodName := ⟨RX4, "addTrouble", "(II)V"⟩
abbrev cX4_push : ByteArray := prog_6_method_7_code
def yX4_push : MethodName := ⟨RX4, "push", "()V"⟩
abbrev cX4_troubleState : ByteArray := prog_6_method_8_code
def yX4_troubleState : MethodName := ⟨RX4, "troubleState", "(I)I"⟩
abbrev cX4_troubleFrame : ByteArray := prog_6_method_9_code
def yX4_troubleFrame : MethodName := ⟨RX4, "troubleFrame", "(I)I"⟩
abbrev cX4_hasWall : ByteArray := prog_6_method_10_code
def yX4_hasWall : MethodName := ⟨RX4, "hasWall", "()Z"⟩
abbrev cX4_hasWay : ByteArray := prog_6_method_11_code
def yX4_hasWay : MethodName := ⟨RX4, "hasWay", "()Z"⟩
abbrev cX4_waySteps : ByteArray := prog_6_method_12_code
def yX4_waySteps : MethodName := ⟨RX4, "waySteps", "()I"⟩
abbrev cX4_stateOfWay : ByteArray := prog_6_method_13_code
def yX4_stateOfWay : MethodName := ⟨RX4, "stateOfWay", "(I)I"⟩
abbrev cX4_choiceOfWay : ByteArray := prog_6_method_14_code
def yX4_choiceOfWay : MethodName := ⟨RX4, "choiceOfWay", "(I)I"⟩
def RX5 : String := "FrameProver$Row"
def TX5 : u_T := fun k => match k with
  | 0 => ("FrameProver$Row", "numbers", "[I", true)
  | 1 => ("FrameProver$Row", "size", "I", false)
  | _ => ("FrameProver$Row", "isThere", "Z", false)
def tyX5 : Nat → FieldType := fun k => match k with
  | 0 => .array .int
  | 1 => .int
  | _ => .boolean
abbrev wsX50 : List Cond := u_ws RX5 TX5 3
theorem nmX5 : ∀ a, a < 3 → ∀ b, b < 3 → a ≠ b → (TX5 a).2.1 ≠ (TX5 b).2.1 := by decide +kernel
theorem tyX5_ok : ∀ k, k < 3 → parseFieldDescriptor (TX5 k).2.2.1 = some (tyX5 k) := by decide +kernel
abbrev cX5_init : ByteArray := prog_7_method_1_code
def yX5_init : MethodName := ⟨RX5, "<init>", "()V"⟩
abbrev cX5_layOut : ByteArray := prog_7_method_2_code
def yX5_layOut : MethodName := ⟨RX5, "layOut", "(LFrameProver$Machine;I)V"⟩
abbrev cX5_number : ByteArray := prog_7_method_3_code
def yX5_number : MethodName := ⟨RX5, "number", "(I)I"⟩
abbrev cX5_hasStretch : ByteArray := prog_7_method_4_code
def yX5_hasStretch : MethodName := ⟨RX5, "hasStretch", "(II)Z"⟩
abbrev cX5_moveStretch : ByteArray := prog_7_method_5_code
def yX5_moveStretch : MethodName := ⟨RX5, "moveStretch", "(III)V"⟩
def RX6 : String := "FrameProver$Signs"
def TX6 : u_T := fun k => match k with
  | 0 => ("FrameProver$Signs", "signs", "[I", true)
  | _ => ("FrameProver$Signs", "size", "I", false)
def tyX6 : Nat → FieldType := fun k => match k with
  | 0 => .array .int
  | _ => .int
abbrev wsX60 : List Cond := u_ws RX6 TX6 2
theorem nmX6 : ∀ a, a < 2 → ∀ b, b < 2 → a ≠ b → (TX6 a).2.1 ≠ (TX6 b).2.1 := by decide +kernel
theorem tyX6_ok : ∀ k, k < 2 → parseFieldDescriptor (TX6 k).2.2.1 = some (tyX6 k) := by decide +kernel
abbrev cX6_init : ByteArray := prog_8_method_1_code
def yX6_init : MethodName := ⟨RX6, "<init>", "(I)V"⟩
abbrev cX6_put : ByteArray := prog_8_method_2_code
def yX6_put : MethodName := ⟨RX6, "put", "(I)Z"⟩
abbrev cX6_signAt : ByteArray := prog_8_method_3_code
def yX6_signAt : MethodName := ⟨RX6, "signAt", "(I)I"⟩
def RX7 : String := "FrameProver$StateSet"
def TX7 : u_T := fun k => match k with
  | _ => ("FrameProver$StateSet", "words", "[J", true)
def tyX7 : Nat → FieldType := fun k => match k with
  | _ => .array .long
abbrev wsX70 : List Cond := u_ws RX7 TX7 1
theorem nmX7 : ∀ a, a < 1 → ∀ b, b < 1 → a ≠ b → (TX7 a).2.1 ≠ (TX7 b).2.1 := by decide +kernel
theorem tyX7_ok : ∀ k, k < 1 → parseFieldDescriptor (TX7 k).2.2.1 = some (tyX7 k) := by decide +kernel
abbrev cX7_init : ByteArray := prog_9_method_1_code
def yX7_init : MethodName := ⟨RX7, "<init>", "()V"⟩
abbrev cX7_has : ByteArray := prog_9_method_2_code
def yX7_has : MethodName := ⟨RX7, "has", "(I)Z"⟩
abbrev cX7_put : ByteArray := prog_9_method_3_code
def yX7_put : MethodName := ⟨RX7, "put", "(I)V"⟩
abbrev cX7_becomeEmpty : ByteArray := prog_9_method_4_code
def yX7_becomeEmpty : MethodName := ⟨RX7, "becomeEmpty", "()V"⟩
abbrev cX7_becomeOnly : ByteArray := prog_9_method_5_code
def yX7_becomeOnly : MethodName := ⟨RX7, "becomeOnly", "(I)V"⟩
abbrev cX7_becomeFirst : ByteArray := prog_9_method_6_code
def yX7_becomeFirst : MethodName := ⟨RX7, "becomeFirst", "(I)V"⟩
abbrev cX7_becomeCube : ByteArray := prog_9_method_7_code
def yX7_becomeCube : MethodName := ⟨RX7, "becomeCube", "(I)V"⟩
abbrev cX7_wordOfCube : ByteArray := prog_9_method_8_code
def yX7_wordOfCube : MethodName := ⟨RX7, "wordOfCube", "(III)J"⟩
abbrev cX7_becomeLike : ByteArray := prog_9_method_9_code
def yX7_becomeLike : MethodName := ⟨RX7, "becomeLike", "(LFrameProver$StateSet;)V"⟩
abbrev cX7_putAll : ByteArray := prog_9_method_10_code
def yX7_putAll : MethodName := ⟨RX7, "putAll", "(LFrameProver$StateSet;)V"⟩
abbrev cX7_dropAll : ByteArray := prog_9_method_11_code
def yX7_dropAll : MethodName := ⟨RX7, "dropAll", "(LFrameProver$StateSet;)V"⟩
abbrev cX7_dropCube : ByteArray := prog_9_method_12_code
def yX7_dropCube : MethodName := ⟨RX7, "dropCube", "(I)V"⟩
abbrev cX7_meets : ByteArray := prog_9_method_13_code
def yX7_meets : MethodName := ⟨RX7, "meets", "(LFrameProver$StateSet;)Z"⟩
abbrev cX7_meetsCube : ByteArray := prog_9_method_14_code
def yX7_meetsCube : MethodName := ⟨RX7, "meetsCube", "(I)Z"⟩
abbrev cX7_isInside : ByteArray := prog_9_method_15_code
def yX7_isInside : MethodName := ⟨RX7, "isInside", "(LFrameProver$StateSet;)Z"⟩
abbrev cX7_leastCommon : ByteArray := prog_9_method_16_code
def yX7_leastCommon : MethodName := ⟨RX7, "leastCommon", "(LFrameProver$StateSet;)I"⟩
abbrev cX7_leastOutside : ByteArray := prog_9_method_17_code
def yX7_leastOutside : MethodName := ⟨RX7, "leastOutside", "(LFrameProver$StateSet;)I"⟩
abbrev cX7_howMany : ByteArray := prog_9_method_18_code
def yX7_howMany : MethodName := ⟨RX7, "howMany", "()I"⟩
def RX8 : String := "FrameProver$Steps"
def TX8 : u_T := fun k => match k with
  | 0 => ("FrameProver$Steps", "machine", "LFrameProver$Machine;", true)
  | 1 => ("FrameProver$Steps", "goes", "[LFrameProver$StateSet;", true)
  | 2 => ("FrameProver$Steps", "leads", "[LFrameProver$StateSet;", true)
  | 3 => ("FrameProver$Steps", "none", "LFrameProver$StateSet;", true)
  | 4 => ("FrameProver$Steps", "bad", "LFrameProver$StateSet;", true)
  | 5 => ("FrameProver$Steps", "reached", "LFrameProver$StateSet;", true)
  | 6 => ("FrameProver$Steps", "newest", "LFrameProver$StateSet;", true)
  | 7 => ("FrameProver$Steps", "coming", "LFrameProver$StateSet;", true)
  | 8 => ("FrameProver$Steps", "circle", "LFrameProver$StateSet;", true)
  | 9 => ("FrameProver$Steps", "done", "LFrameProver$StateSet;", true)
  | _ => ("FrameProver$Steps", "isStale", "Z", false)
def tyX8 : Nat → FieldType := fun k => match k with
  | 0 => .object "FrameProver$Machine"
  | 1 => .array (.object "FrameProver$StateSet")
  | 2 => .array (.object "FrameProver$StateSet")
  | 3 => .object "FrameProver$StateSet"
  | 4 => .object "FrameProver$StateSet"
  | 5 => .object "FrameProver$StateSet"
  | 6 => .object "FrameProver$StateSet"
  | 7 => .object "FrameProver$StateSet"
  | 8 => .object "FrameProver$StateSet"
  | 9 => .object "FrameProver$StateSet"
  | _ => .boolean
abbrev wsX80 : List Cond := u_ws RX8 TX8 11
theorem nmX8 : ∀ a, a < 11 → ∀ b, b < 11 → a ≠ b → (TX8 a).2.1 ≠ (TX8 b).2.1 := by decide +kernel
theorem tyX8_ok : ∀ k, k < 11 → parseFieldDescriptor (TX8 k).2.2.1 = some (tyX8 k) := by decide +kernel
abbrev cX8_init : ByteArray := prog_10_method_1_code
def yX8_init : MethodName := ⟨RX8, "<init>", "(LFrameProver$Machine;)V"⟩
abbrev cX8_renew : ByteArray := prog_10_method_2_code
def yX8_renew : MethodName := ⟨RX8, "renew", "()V"⟩
abbrev cX8_renewFrom : ByteArray := prog_10_method_3_code
def yX8_renewFrom : MethodName := ⟨RX8, "renewFrom", "(LFrameProver$StateSet;)V"⟩
abbrev cX8_from : ByteArray := prog_10_method_4_code
def yX8_from : MethodName := ⟨RX8, "from", "(I)LFrameProver$StateSet;"⟩
abbrev cX8_leadsFrom : ByteArray := prog_10_method_5_code
def yX8_leadsFrom : MethodName := ⟨RX8, "leadsFrom", "(I)LFrameProver$StateSet;"⟩
abbrev cX8_putAllFrom : ByteArray := prog_10_method_6_code
def yX8_putAllFrom : MethodName := ⟨RX8, "putAllFrom", "(LFrameProver$StateSet;LFrameProver$StateSet;)V"⟩
abbrev cX8_beginReach : ByteArray := prog_10_method_7_code
def yX8_beginReach : MethodName := ⟨RX8, "beginReach", "()V"⟩
abbrev cX8_reachOn : ByteArray := prog_10_method_8_code
def yX8_reachOn : MethodName := ⟨RX8, "reachOn", "()Z"⟩
abbrev cX8_reached : ByteArray := prog_10_method_9_code
def yX8_reached : MethodName := ⟨RX8, "reached", "(I)LFrameProver$StateSet;"⟩
abbrev cX8_fewestToBad : ByteArray := prog_10_method_10_code
def yX8_fewestToBad : MethodName := ⟨RX8, "fewestToBad", "()I"⟩
abbrev cX8_leastForEver : ByteArray := prog_10_method_11_code
def yX8_leastForEver : MethodName := ⟨RX8, "leastForEver", "()I"⟩
abbrev cX8_closeLeads : ByteArray := prog_10_method_12_code
def yX8_closeLeads : MethodName := ⟨RX8, "closeLeads", "()V"⟩
abbrev cX8_findCircle : ByteArray := prog_10_method_13_code
def yX8_findCircle : MethodName := ⟨RX8, "findCircle", "(I)V"⟩
abbrev cX8_isCircleFair : ByteArray := prog_10_method_14_code
def yX8_isCircleFair : MethodName := ⟨RX8, "isCircleFair", "()Z"⟩
abbrev cX8_isInCircle : ByteArray := prog_10_method_15_code
def yX8_isInCircle : MethodName := ⟨RX8, "isInCircle", "(I)Z"⟩
def RX9 : String := "FrameProver"
def TX9 : u_T := fun k => match k with
  | 0 => ("FrameProver", "machine", "LFrameProver$Machine;", true)
  | 1 => ("FrameProver", "steps", "LFrameProver$Steps;", true)
  | 2 => ("FrameProver", "frames", "LFrameProver$Frames;", true)
  | 3 => ("FrameProver", "proof", "LFrameProver$Proof;", true)
  | 4 => ("FrameProver", "list", "LFrameProver$Clauses;", true)
  | 5 => ("FrameProver", "judge", "LFrameProver$Judge;", true)
  | 6 => ("FrameProver", "row", "LFrameProver$Row;", true)
  | 7 => ("FrameProver", "refused", "[I", true)
  | _ => ("FrameProver", "run", "I", false)
def tyX9 : Nat → FieldType := fun k => match k with
  | 0 => .object "FrameProver$Machine"
  | 1 => .object "FrameProver$Steps"
  | 2 => .object "FrameProver$Frames"
  | 3 => .object "FrameProver$Proof"
  | 4 => .object "FrameProver$Clauses"
  | 5 => .object "FrameProver$Judge"
  | 6 => .object "FrameProver$Row"
  | 7 => .array .int
  | _ => .int
abbrev wsX90 : List Cond := u_ws RX9 TX9 9
theorem nmX9 : ∀ a, a < 9 → ∀ b, b < 9 → a ≠ b → (TX9 a).2.1 ≠ (TX9 b).2.1 := by decide +kernel
theorem tyX9_ok : ∀ k, k < 9 → parseFieldDescriptor (TX9 k).2.2.1 = some (tyX9 k) := by decide +kernel
abbrev cX9_init : ByteArray := prog_1_method_1_code
def yX9_init : MethodName := ⟨RX9, "<init>", "()V"⟩
abbrev cX9_bit : ByteArray := prog_1_method_2_code
def yX9_bit : MethodName := ⟨RX9, "bit", "(ZZ)I"⟩
abbrev cX9_input : ByteArray := prog_1_method_3_code
def yX9_input : MethodName := ⟨RX9, "input", "()I"⟩
abbrev cX9_gate : ByteArray := prog_1_method_4_code
def yX9_gate : MethodName := ⟨RX9, "gate", "(II)I"⟩
abbrev cX9_next : ByteArray := prog_1_method_5_code
def yX9_next : MethodName := ⟨RX9, "next", "(II)I"⟩
abbrev cX9_bad : ByteArray := prog_1_method_6_code
def yX9_bad : MethodName := ⟨RX9, "bad", "(I)I"⟩
abbrev cX9_assume : ByteArray := prog_1_method_7_code
def yX9_assume : MethodName := ⟨RX9, "assume", "(I)I"⟩
abbrev cX9_fair : ByteArray := prog_1_method_8_code
def yX9_fair : MethodName := ⟨RX9, "fair", "(I)I"⟩
abbrev cX9_part : ByteArray := prog_1_method_9_code
def yX9_part : MethodName := ⟨RX9, "part", "(II)I"⟩
abbrev cX9_count : ByteArray := prog_1_method_10_code
def yX9_count : MethodName := ⟨RX9, "count", "(I)I"⟩
abbrev cX9_start : ByteArray := prog_1_method_11_code
def yX9_start : MethodName := ⟨RX9, "start", "()I"⟩
abbrev cX9_step : ByteArray := prog_1_method_12_code
def yX9_step : MethodName := ⟨RX9, "step", "(I)I"⟩
abbrev cX9_value : ByteArray := prog_1_method_13_code
def yX9_value : MethodName := ⟨RX9, "value", "(II)I"⟩
abbrev cX9_at : ByteArray := prog_1_method_14_code
def yX9_at : MethodName := ⟨RX9, "at", "(III)I"⟩
abbrev cX9_prove : ByteArray := prog_1_method_15_code
def yX9_prove : MethodName := ⟨RX9, "prove", "(I)I"⟩
abbrev cX9_frames : ByteArray := prog_1_method_16_code
def yX9_frames : MethodName := ⟨RX9, "frames", "()I"⟩
abbrev cX9_clauses : ByteArray := prog_1_method_17_code
def yX9_clauses : MethodName := ⟨RX9, "clauses", "(I)I"⟩
abbrev cX9_clause : ByteArray := prog_1_method_18_code
def yX9_clause : MethodName := ⟨RX9, "clause", "(IIZ)I"⟩
abbrev cX9_trouble : ByteArray := prog_1_method_19_code
def yX9_trouble : MethodName := ⟨RX9, "trouble", "(II)I"⟩
abbrev cX9_way : ByteArray := prog_1_method_20_code
def yX9_way : MethodName := ⟨RX9, "way", "()I"⟩
abbrev cX9_wayState : ByteArray := prog_1_method_21_code
def yX9_wayState : MethodName := ⟨RX9, "wayState", "(I)I"⟩
abbrev cX9_wayChoice : ByteArray := prog_1_method_22_code
def yX9_wayChoice : MethodName := ⟨RX9, "wayChoice", "(I)I"⟩
abbrev cX9_take : ByteArray := prog_1_method_23_code
def yX9_take : MethodName := ⟨RX9, "take", "()I"⟩
abbrev cX9_ask : ByteArray := prog_1_method_24_code
def yX9_ask : MethodName := ⟨RX9, "ask", "(III)I"⟩
abbrev cX9_widen : ByteArray := prog_1_method_25_code
def yX9_widen : MethodName := ⟨RX9, "widen", "(III)I"⟩
abbrev cX9_shortest : ByteArray := prog_1_method_26_code
def yX9_shortest : MethodName := ⟨RX9, "shortest", "()I"⟩
abbrev cX9_within : ByteArray := prog_1_method_27_code
def yX9_within : MethodName := ⟨RX9, "within", "(I)I"⟩
abbrev cX9_keeps : ByteArray := prog_1_method_28_code
def yX9_keeps : MethodName := ⟨RX9, "keeps", "(I)I"⟩
abbrev cX9_cone : ByteArray := prog_1_method_29_code
def yX9_cone : MethodName := ⟨RX9, "cone", "()I"⟩
abbrev cX9_live : ByteArray := prog_1_method_30_code
def yX9_live : MethodName := ⟨RX9, "live", "()I"⟩
abbrev cX9_list : ByteArray := prog_1_method_31_code
def yX9_list : MethodName := ⟨RX9, "list", "(II)I"⟩
abbrev cX9_forge : ByteArray := prog_1_method_32_code
def yX9_forge : MethodName := ⟨RX9, "forge", "(IIZ)I"⟩
abbrev cX9_clear : ByteArray := prog_1_method_33_code
def yX9_clear : MethodName := ⟨RX9, "clear", "()I"⟩
abbrev cX9_judge : ByteArray := prog_1_method_34_code
def yX9_judge : MethodName := ⟨RX9, "judge", "()I"⟩
abbrev cX9_fails : ByteArray := prog_1_method_35_code
def yX9_fails : MethodName := ⟨RX9, "fails", "(I)I"⟩
abbrev cX9_small : ByteArray := prog_1_method_36_code
def yX9_small : MethodName := ⟨RX9, "small", "()I"⟩
abbrev cX9_listed : ByteArray := prog_1_method_37_code
def yX9_listed : MethodName := ⟨RX9, "listed", "(IZ)I"⟩
abbrev cX9_lay : ByteArray := prog_1_method_38_code
def yX9_lay : MethodName := ⟨RX9, "lay", "(II)I"⟩
abbrev cX9_tear : ByteArray := prog_1_method_39_code
def yX9_tear : MethodName := ⟨RX9, "tear", "()I"⟩
abbrev cX9_row : ByteArray := prog_1_method_40_code
def yX9_row : MethodName := ⟨RX9, "row", "(I)I"⟩
abbrev cX9_copy : ByteArray := prog_1_method_41_code
def yX9_copy : MethodName := ⟨RX9, "copy", "(III)I"⟩
abbrev cX9_status : ByteArray := prog_1_method_42_code
def yX9_status : MethodName := ⟨RX9, "status", "(I)I"⟩
abbrev cX9_refuse : ByteArray := prog_1_method_43_code
def yX9_refuse : MethodName := ⟨RX9, "refuse", "(I)I"⟩
abbrev cX9_startAnew : ByteArray := prog_1_method_44_code
def yX9_startAnew : MethodName := ⟨RX9, "startAnew", "()V"⟩
abbrev cX9_addSign : ByteArray := prog_1_method_45_code
def yX9_addSign : MethodName := ⟨RX9, "addSign", "(ILFrameProver$Signs;)I"⟩
abbrev cX9_isLaterFrame : ByteArray := prog_1_method_46_code
def yX9_isLaterFrame : MethodName := ⟨RX9, "isLaterFrame", "(I)Z"⟩
abbrev cX9_isCube : ByteArray := prog_1_method_47_code
def yX9_isCube : MethodName := ⟨RX9, "isCube", "(II)Z"⟩
abbrev cX9_cubeOf : ByteArray := prog_1_method_48_code
def yX9_cubeOf : MethodName := ⟨RX9, "cubeOf", "(II)I"⟩
abbrev cX9_maskOf : ByteArray := prog_1_method_49_code
def yX9_maskOf : MethodName := ⟨RX9, "maskOf", "(I)I"⟩
abbrev cX9_valuesOf : ByteArray := prog_1_method_50_code
def yX9_valuesOf : MethodName := ⟨RX9, "valuesOf", "(I)I"⟩
abbrev cX9_halfOf : ByteArray := prog_1_method_51_code
def yX9_halfOf : MethodName := ⟨RX9, "halfOf", "(IZ)I"⟩
abbrev cX9_isInCube : ByteArray := prog_1_method_52_code
def yX9_isInCube : MethodName := ⟨RX9, "isInCube", "(II)Z"⟩
def RX10 : String := "FrameProverModel"
def TX10 : u_T := fun k => match k with
  | 0 => ("FrameProverModel", "sort", "[I", true)
  | 1 => ("FrameProverModel", "x", "[I", true)
  | 2 => ("FrameProverModel", "y", "[I", true)
  | 3 => ("FrameProverModel", "place", "[I", true)
  | 4 => ("FrameProverModel", "value", "[Z", true)
  | 5 => ("FrameProverModel", "parts", "I", false)
  | 6 => ("FrameProverModel", "bits", "I", false)
  | 7 => ("FrameProverModel", "inputs", "I", false)
  | 8 => ("FrameProverModel", "first", "I", false)
  | 9 => ("FrameProverModel", "bad", "I", false)
  | 10 => ("FrameProverModel", "assumed", "I", false)
  | 11 => ("FrameProverModel", "fairs", "I", false)
  | 12 => ("FrameProverModel", "assumptions", "[I", true)
  | 13 => ("FrameProverModel", "fair", "[I", true)
  | 14 => ("FrameProverModel", "refused", "[I", true)
  | 15 => ("FrameProverModel", "to", "[I", true)
  | 16 => ("FrameProverModel", "fairAt", "[I", true)
  | 17 => ("FrameProverModel", "isBad", "[Z", true)
  | 18 => ("FrameProverModel", "isTabled", "Z", false)
  | 19 => ("FrameProverModel", "run", "I", false)
  | 20 => ("FrameProverModel", "masks", "[I", true)
  | 21 => ("FrameProverModel", "keeps", "[I", true)
  | 22 => ("FrameProverModel", "clauses", "[I", true)
  | 23 => ("FrameProverModel", "frames", "I", false)
  | 24 => ("FrameProverModel", "ended", "I", false)
  | 25 => ("FrameProverModel", "looks", "I", false)
  | 26 => ("FrameProverModel", "troubles", "I", false)
  | 27 => ("FrameProverModel", "troubleState", "[I", true)
  | 28 => ("FrameProverModel", "troubleFrame", "[I", true)
  | 29 => ("FrameProverModel", "wallMask", "[I", true)
  | 30 => ("FrameProverModel", "wallKeeps", "[I", true)
  | 31 => ("FrameProverModel", "wall", "I", false)
  | 32 => ("FrameProverModel", "wayStates", "[I", true)
  | 33 => ("FrameProverModel", "way", "I", false)
  | 34 => ("FrameProverModel", "far", "[I", true)
  | 35 => ("FrameProverModel", "hung", "[Z", true)
  | 36 => ("FrameProverModel", "comesTo", "[Z", true)
  | 37 => ("FrameProverModel", "listMask", "[I", true)
  | 38 => ("FrameProverModel", "listKeeps", "[I", true)
  | 39 => ("FrameProverModel", "listed", "I", false)
  | 40 => ("FrameProverModel", "failed", "I", false)
  | 41 => ("FrameProverModel", "failedTo", "I", false)
  | 42 => ("FrameProverModel", "judgedState", "I", false)
  | 43 => ("FrameProverModel", "judgedTo", "I", false)
  | 44 => ("FrameProverModel", "row", "[I", true)
  | 45 => ("FrameProverModel", "moved", "[I", true)
  | _ => ("FrameProverModel", "rowSize", "I", false)
def tyX10 : Nat → FieldType := fun k => match k with
  | 0 => .array .int
  | 1 => .array .int
  | 2 => .array .int
  | 3 => .array .int
  | 4 => .array .boolean
  | 5 => .int
  | 6 => .int
  | 7 => .int
  | 8 => .int
  | 9 => .int
  | 10 => .int
  | 11 => .int
  | 12 => .array .int
  | 13 => .array .int
  | 14 => .array .int
  | 15 => .array .int
  | 16 => .array .int
  | 17 => .array .boolean
  | 18 => .boolean
  | 19 => .int
  | 20 => .array .int
  | 21 => .array .int
  | 22 => .array .int
  | 23 => .int
  | 24 => .int
  | 25 => .int
  | 26 => .int
  | 27 => .array .int
  | 28 => .array .int
  | 29 => .array .int
  | 30 => .array .int
  | 31 => .int
  | 32 => .array .int
  | 33 => .int
  | 34 => .array .int
  | 35 => .array .boolean
  | 36 => .array .boolean
  | 37 => .array .int
  | 38 => .array .int
  | 39 => .int
  | 40 => .int
  | 41 => .int
  | 42 => .int
  | 43 => .int
  | 44 => .array .int
  | 45 => .array .int
  | _ => .int
abbrev wsX100 : List Cond := u_ws RX10 TX10 47
theorem nmX10 : ∀ a, a < 47 → ∀ b, b < 47 → a ≠ b → (TX10 a).2.1 ≠ (TX10 b).2.1 := by decide +kernel
theorem tyX10_ok : ∀ k, k < 47 → parseFieldDescriptor (TX10 k).2.2.1 = some (tyX10 k) := by decide +kernel
abbrev cX10_init : ByteArray := prog_12_method_1_code
def yX10_init : MethodName := ⟨RX10, "<init>", "()V"⟩
abbrev cX10_isIn : ByteArray := prog_12_method_2_code
def yX10_isIn : MethodName := ⟨RX10, "isIn", "(JJJ)Z"⟩
abbrev cX10_no : ByteArray := prog_12_method_3_code
def yX10_no : MethodName := ⟨RX10, "no", "(I)I"⟩
abbrev cX10_states : ByteArray := prog_12_method_4_code
def yX10_states : MethodName := ⟨RX10, "states", "()I"⟩
abbrev cX10_ways : ByteArray := prog_12_method_5_code
def yX10_ways : MethodName := ⟨RX10, "ways", "()I"⟩
abbrev cX10_isSign : ByteArray := prog_12_method_6_code
def yX10_isSign : MethodName := ⟨RX10, "isSign", "(I)Z"⟩
abbrev cX10_adds : ByteArray := prog_12_method_7_code
def yX10_adds : MethodName := ⟨RX10, "adds", "(III)I"⟩
abbrev cX10_bit : ByteArray := prog_12_method_8_code
def yX10_bit : MethodName := ⟨RX10, "bit", "(ZZ)I"⟩
abbrev cX10_input : ByteArray := prog_12_method_9_code
def yX10_input : MethodName := ⟨RX10, "input", "()I"⟩
abbrev cX10_gate : ByteArray := prog_12_method_10_code
def yX10_gate : MethodName := ⟨RX10, "gate", "(II)I"⟩
abbrev cX10_next : ByteArray := prog_12_method_11_code
def yX10_next : MethodName := ⟨RX10, "next", "(II)I"⟩
abbrev cX10_bad : ByteArray := prog_12_method_12_code
def yX10_bad : MethodName := ⟨RX10, "bad", "(I)I"⟩
abbrev cX10_assume : ByteArray := prog_12_method_13_code
def yX10_assume : MethodName := ⟨RX10, "assume", "(I)I"⟩
abbrev cX10_fair : ByteArray := prog_12_method_14_code
def yX10_fair : MethodName := ⟨RX10, "fair", "(I)I"⟩
abbrev cX10_part : ByteArray := prog_12_method_15_code
def yX10_part : MethodName := ⟨RX10, "part", "(II)I"⟩
abbrev cX10_sorted : ByteArray := prog_12_method_16_code
def yX10_sorted : MethodName := ⟨RX10, "sorted", "(I)I"⟩
abbrev cX10_count : ByteArray := prog_12_method_17_code
def yX10_count : MethodName := ⟨RX10, "count", "(I)I"⟩
abbrev cX10_is : ByteArray := prog_12_method_18_code
def yX10_is : MethodName := ⟨RX10, "is", "(I)Z"⟩
abbrev cX10_show : ByteArray := prog_12_method_19_code
def yX10_show : MethodName := ⟨RX10, "show", "(II)V"⟩
abbrev cX10_isRight : ByteArray := prog_12_method_20_code
def yX10_isRight : MethodName := ⟨RX10, "isRight", "()Z"⟩
abbrev cX10_comes : ByteArray := prog_12_method_21_code
def yX10_comes : MethodName := ⟨RX10, "comes", "()I"⟩
abbrev cX10_table : ByteArray := prog_12_method_22_code
def yX10_table : MethodName := ⟨RX10, "table", "()V"⟩
abbrev cX10_isBadState : ByteArray := prog_12_method_23_code
def yX10_isBadState : MethodName := ⟨RX10, "isBadState", "(I)Z"⟩
abbrev cX10_leads : ByteArray := prog_12_method_24_code
def yX10_leads : MethodName := ⟨RX10, "leads", "(II)Z"⟩
abbrev cX10_start : ByteArray := prog_12_method_25_code
def yX10_start : MethodName := ⟨RX10, "start", "()I"⟩
abbrev cX10_step : ByteArray := prog_12_method_26_code
def yX10_step : MethodName := ⟨RX10, "step", "(I)I"⟩
abbrev cX10_value : ByteArray := prog_12_method_27_code
def yX10_value : MethodName := ⟨RX10, "value", "(II)I"⟩
abbrev cX10_isState : ByteArray := prog_12_method_28_code
def yX10_isState : MethodName := ⟨RX10, "isState", "(I)Z"⟩
abbrev cX10_at : ByteArray := prog_12_method_29_code
def yX10_at : MethodName := ⟨RX10, "at", "(III)I"⟩
abbrev cX10_changes : ByteArray := prog_12_method_30_code
def yX10_changes : MethodName := ⟨RX10, "changes", "()V"⟩
abbrev cX10_isInCube : ByteArray := prog_12_method_31_code
def yX10_isInCube : MethodName := ⟨RX10, "isInCube", "(III)Z"⟩
abbrev cX10_isInFrame : ByteArray := prog_12_method_32_code
def yX10_isInFrame : MethodName := ⟨RX10, "isInFrame", "(II)Z"⟩
abbrev cX10_leadsInto : ByteArray := prog_12_method_33_code
def yX10_leadsInto : MethodName := ⟨RX10, "leadsInto", "(III)Z"⟩
abbrev cX10_asked : ByteArray := prog_12_method_34_code
def yX10_asked : MethodName := ⟨RX10, "asked", "(III)I"⟩
abbrev cX10_widened : ByteArray := prog_12_method_35_code
def yX10_widened : MethodName := ⟨RX10, "widened", "(III)I"⟩
abbrev cX10_keep : ByteArray := prog_12_method_36_code
def yX10_keep : MethodName := ⟨RX10, "keep", "(III)V"⟩
abbrev cX10_meet : ByteArray := prog_12_method_37_code
def yX10_meet : MethodName := ⟨RX10, "meet", "(II)V"⟩
abbrev cX10_forerunner : ByteArray := prog_12_method_38_code
def yX10_forerunner : MethodName := ⟨RX10, "forerunner", "(II)I"⟩
abbrev cX10_tellWay : ByteArray := prog_12_method_39_code
def yX10_tellWay : MethodName := ⟨RX10, "tellWay", "()V"⟩
abbrev cX10_lookAt : ByteArray := prog_12_method_40_code
def yX10_lookAt : MethodName := ⟨RX10, "lookAt", "()V"⟩
abbrev cX10_has : ByteArray := prog_12_method_41_code
def yX10_has : MethodName := ⟨RX10, "has", "(III)Z"⟩
abbrev cX10_isShut : ByteArray := prog_12_method_42_code
def yX10_isShut : MethodName := ⟨RX10, "isShut", "(III)Z"⟩
abbrev cX10_push : ByteArray := prog_12_method_43_code
def yX10_push : MethodName := ⟨RX10, "push", "(I)V"⟩
abbrev cX10_hasAll : ByteArray := prog_12_method_44_code
def yX10_hasAll : MethodName := ⟨RX10, "hasAll", "(I)Z"⟩
abbrev cX10_pushAll : ByteArray := prog_12_method_45_code
def yX10_pushAll : MethodName := ⟨RX10, "pushAll", "()V"⟩
abbrev cX10_hasTrouble : ByteArray := prog_12_method_46_code
def yX10_hasTrouble : MethodName := ⟨RX10, "hasTrouble", "()Z"⟩
abbrev cX10_prove : ByteArray := prog_12_method_47_code
def yX10_prove : MethodName := ⟨RX10, "prove", "(I)I"⟩
abbrev cX10_frames : ByteArray := prog_12_method_48_code
def yX10_frames : MethodName := ⟨RX10, "frames", "()I"⟩
abbrev cX10_isFrame : ByteArray := prog_12_method_49_code
def yX10_isFrame : MethodName := ⟨RX10, "isFrame", "(I)Z"⟩
abbrev cX10_clauses : ByteArray := prog_12_method_50_code
def yX10_clauses : MethodName := ⟨RX10, "clauses", "(I)I"⟩
abbrev cX10_clause : ByteArray := prog_12_method_51_code
def yX10_clause : MethodName := ⟨RX10, "clause", "(IIZ)I"⟩
abbrev cX10_trouble : ByteArray := prog_12_method_52_code
def yX10_trouble : MethodName := ⟨RX10, "trouble", "(II)I"⟩
abbrev cX10_way : ByteArray := prog_12_method_53_code
def yX10_way : MethodName := ⟨RX10, "way", "()I"⟩
abbrev cX10_wayState : ByteArray := prog_12_method_54_code
def yX10_wayState : MethodName := ⟨RX10, "wayState", "(I)I"⟩
abbrev cX10_wayChoice : ByteArray := prog_12_method_55_code
def yX10_wayChoice : MethodName := ⟨RX10, "wayChoice", "(I)I"⟩
abbrev cX10_isCube : ByteArray := prog_12_method_56_code
def yX10_isCube : MethodName := ⟨RX10, "isCube", "(II)Z"⟩
abbrev cX10_ask : ByteArray := prog_12_method_57_code
def yX10_ask : MethodName := ⟨RX10, "ask", "(III)I"⟩
abbrev cX10_widen : ByteArray := prog_12_method_58_code
def yX10_widen : MethodName := ⟨RX10, "widen", "(III)I"⟩
abbrev cX10_findFar : ByteArray := prog_12_method_59_code
def yX10_findFar : MethodName := ⟨RX10, "findFar", "(I)V"⟩
abbrev cX10_shortest : ByteArray := prog_12_method_60_code
def yX10_shortest : MethodName := ⟨RX10, "shortest", "()I"⟩
abbrev cX10_within : ByteArray := prog_12_method_61_code
def yX10_within : MethodName := ⟨RX10, "within", "(I)I"⟩
abbrev cX10_keeps : ByteArray := prog_12_method_62_code
def yX10_keeps : MethodName := ⟨RX10, "keeps", "(I)I"⟩
abbrev cX10_cone : ByteArray := prog_12_method_63_code
def yX10_cone : MethodName := ⟨RX10, "cone", "()I"⟩
abbrev cX10_findComes : ByteArray := prog_12_method_64_code
def yX10_findComes : MethodName := ⟨RX10, "findComes", "()V"⟩
abbrev cX10_fairAround : ByteArray := prog_12_method_65_code
def yX10_fairAround : MethodName := ⟨RX10, "fairAround", "(I)I"⟩
abbrev cX10_live : ByteArray := prog_12_method_66_code
def yX10_live : MethodName := ⟨RX10, "live", "()I"⟩
abbrev cX10_take : ByteArray := prog_12_method_67_code
def yX10_take : MethodName := ⟨RX10, "take", "()I"⟩
abbrev cX10_list : ByteArray := prog_12_method_68_code
def yX10_list : MethodName := ⟨RX10, "list", "(II)I"⟩
abbrev cX10_forge : ByteArray := prog_12_method_69_code
def yX10_forge : MethodName := ⟨RX10, "forge", "(IIZ)I"⟩
abbrev cX10_clear : ByteArray := prog_12_method_70_code
def yX10_clear : MethodName := ⟨RX10, "clear", "()I"⟩
abbrev cX10_isLeft : ByteArray := prog_12_method_71_code
def yX10_isLeft : MethodName := ⟨RX10, "isLeft", "(II)Z"⟩
abbrev cX10_judged : ByteArray := prog_12_method_72_code
def yX10_judged : MethodName := ⟨RX10, "judged", "(I)I"⟩
abbrev cX10_judge : ByteArray := prog_12_method_73_code
def yX10_judge : MethodName := ⟨RX10, "judge", "()I"⟩
abbrev cX10_fails : ByteArray := prog_12_method_74_code
def yX10_fails : MethodName := ⟨RX10, "fails", "(I)I"⟩
abbrev cX10_small : ByteArray := prog_12_method_75_code
def yX10_small : MethodName := ⟨RX10, "small", "()I"⟩
abbrev cX10_listed : ByteArray := prog_12_method_76_code
def yX10_listed : MethodName := ⟨RX10, "listed", "(IZ)I"⟩
abbrev cX10_lay : ByteArray := prog_12_method_77_code
def yX10_lay : MethodName := ⟨RX10, "lay", "(II)I"⟩
abbrev cX10_tear : ByteArray := prog_12_method_78_code
def yX10_tear : MethodName := ⟨RX10, "tear", "()I"⟩
abbrev cX10_row : ByteArray := prog_12_method_79_code
def yX10_row : MethodName := ⟨RX10, "row", "(I)I"⟩
abbrev cX10_copy : ByteArray := prog_12_method_80_code
def yX10_copy : MethodName := ⟨RX10, "copy", "(III)I"⟩
abbrev cX10_status : ByteArray := prog_12_method_81_code
def yX10_status : MethodName := ⟨RX10, "status", "(I)I"⟩
def RJ13 : String := "java/lang/Long"
def TJ13 : u_T := fun k => match k with
  | _ => ("", "", "", false)
def tyJ13 : Nat → FieldType := fun k => match k with
  | _ => .int
abbrev wsJ130 : List Cond := u_ws RJ13 TJ13 0
theorem nmJ13 : ∀ a, a < 0 → ∀ b, b < 0 → a ≠ b → (TJ13 a).2.1 ≠ (TJ13 b).2.1 := by decide +kernel
theorem tyJ13_ok : ∀ k, k < 0 → parseFieldDescriptor (TJ13 k).2.2.1 = some (tyJ13 k) := by decide +kernel
abbrev cJ13_bitCount_95d88 : ByteArray := prog_13_method_50_code
def yJ13_bitCount_95d88 : MethodName := ⟨RJ13, "bitCount", "(J)I"⟩
def RJ9 : String := "java/lang/Math"
def TJ9 : u_T := fun k => match k with
  | _ => ("", "", "", false)
def tyJ9 : Nat → FieldType := fun k => match k with
  | _ => .int
abbrev wsJ90 : List Cond := u_ws RJ9 TJ9 0
theorem nmJ9 : ∀ a, a < 0 → ∀ b, b < 0 → a ≠ b → (TJ9 a).2.1 ≠ (TJ9 b).2.1 := by decide +kernel
theorem tyJ9_ok : ∀ k, k < 0 → parseFieldDescriptor (TJ9 k).2.2.1 = some (tyJ9 k) := by decide +kernel
abbrev cJ9_max_7cf53 : ByteArray := prog_14_method_65_code
def yJ9_max_7cf53 : MethodName := ⟨RJ9, "max", "(II)I"⟩
abbrev cJ9_min_7cf53 : ByteArray := prog_14_method_69_code
def yJ9_min_7cf53 : MethodName := ⟨RJ9, "min", "(II)I"⟩
def RJ10 : String := "java/lang/System"
def TJ10 : u_T := fun k => match k with
  | _ => ("", "", "", false)
def tyJ10 : Nat → FieldType := fun k => match k with
  | _ => .int
abbrev wsJ100 : List Cond := u_ws RJ10 TJ10 0
theorem nmJ10 : ∀ a, a < 0 → ∀ b, b < 0 → a ≠ b → (TJ10 a).2.1 ≠ (TJ10 b).2.1 := by decide +kernel
theorem tyJ10_ok : ∀ k, k < 0 → parseFieldDescriptor (TJ10 k).2.2.1 = some (tyJ10 k) := by decide +kernel
def RL : String := "FrameProverLaw"
abbrev cL_law : ByteArray := code
def yL_law : MethodName := ⟨RL, "law", "([I)Z"⟩
abbrev vwCl : List vw_C := [(RX0, TX0, 4), (RX1, TX1, 6), (RX2, TX2, 5), (RX3, TX3, 14), (RX4, TX4, 10), (RX5, TX5, 3), (RX6, TX6, 2), (RX7, TX7, 1), (RX8, TX8, 11), (RX9, TX9, 9), (RX10, TX10, 47)]
end
section
/-! the words that every method's contract stands on: one list for all -/
def big : List Cond := lw_tbl.filter goodWord
theorem big_in {w : Cond} (i : Nat) (h : lw_tbl[i]? = some w) (g : goodWord w = true) : w ∈ big := List.mem_filter.mpr ⟨List.mem_of_getElem? h, g⟩
theorem big_inL {ws : List Cond} (ps : List Nat) (h : ws = ps.filterMap (fun i => lw_tbl[i]?)) (g : ws.all goodWord = true) : ∀ w ∈ ws, w ∈ big := by
  intro w hw
  have h1 := List.all_eq_true.mp g w hw
  rw [h] at hw
  obtain ⟨i, -, hi⟩ := List.mem_filterMap.mp hw
  exact big_in i hi h1
theorem big_good {y : MethodName} {cc : ByteArray} {maxL : Nat} {ret : Option FieldType} {y2 : MethodName} {c2 : ByteArray} {m2 : Nat} {r2 : Option FieldType} (h : Cond.code y2 c2 m2 r2 ∈ big) : GoodIn (Cond.code y cc maxL ret :: big) (Cond.code y2 c2 m2 r2 :: big) := by
  intro w hw
  have hb : w ∈ big := by
    rcases List.mem_cons.mp hw with e | e
    · rw [e]; exact h
    · exact e
  exact ⟨List.mem_cons_of_mem _ hb, good_of_word (List.mem_filter.mp hb).2⟩

theorem lay0 : ∀ w ∈ u_ws RX0 TX0 4, w ∈ big := big_inL [247, 249, 251, 253] (by decide +kernel) (by decide +kernel)
theorem lay1 : ∀ w ∈ u_ws RX1 TX1 6, w ∈ big := big_inL [264, 266, 268, 270, 272, 274] (by decide +kernel) (by decide +kernel)
theorem lay2 : ∀ w ∈ u_ws RX2 TX2 5, w ∈ big := big_inL [332, 334, 336, 338, 340] (by decide +kernel) (by decide +kernel)
theorem lay3 : ∀ w ∈ u_ws RX3 TX3 14, w ∈ big := big_inL [136, 138, 140, 142, 144, 146, 148, 150, 152, 154, 156, 158, 160, 162] (by decide +kernel) (by decide +kernel)
theorem lay4 : ∀ w ∈ u_ws RX4 TX4 10, w ∈ big := big_inL [296, 298, 300, 302, 304, 306, 308, 310, 312, 314] (by decide +kernel) (by decide +kernel)
theorem lay5 : ∀ w ∈ u_ws RX5 TX5 3, w ∈ big := big_inL [354, 356, 358] (by decide +kernel) (by decide +kernel)
theorem lay6 : ∀ w ∈ u_ws RX6 TX6 2, w ∈ big := big_inL [101, 103] (by decide +kernel) (by decide +kernel)
theorem lay7 : ∀ w ∈ u_ws RX7 TX7 1, w ∈ big := big_inL [179] (by decide +kernel) (by decide +kernel)
theorem lay8 : ∀ w ∈ u_ws RX8 TX8 11, w ∈ big := big_inL [197, 199, 201, 203, 205, 207, 209, 211, 213, 215, 217] (by decide +kernel) (by decide +kernel)
theorem lay9 : ∀ w ∈ u_ws RX9 TX9 9, w ∈ big := big_inL [410, 412, 414, 416, 418, 420, 422, 424, 426] (by decide +kernel) (by decide +kernel)
theorem lay10 : ∀ w ∈ u_ws RX10 TX10 47, w ∈ big := big_inL [1130, 1132, 1134, 1136, 1138, 1140, 1142, 1144, 1146, 1148, 1150, 1152, 1154, 1156, 1158, 1160, 1162, 1164, 1166, 1168, 1170, 1172, 1174, 1176, 1178, 1180, 1182, 1184, 1186, 1188, 1190, 1192, 1194, 1196, 1198, 1200, 1202, 1204, 1206, 1208, 1210, 1212, 1214, 1216, 1218, 1220, 1222] (by decide +kernel) (by decide +kernel)
def nestW : List Cond := [(Jvm.Cond.methodLinkNest "FrameProver" (9 : Nat) ({ cls := "FrameProver$Machine", name := "<init>", desc := "()V" } : Jvm.MethodName) "FrameProver"), (Jvm.Cond.methodLinkNest "FrameProver$Steps" (20 : Nat) ({ cls := "FrameProver$StateSet", name := "<init>", desc := "()V" } : Jvm.MethodName) "FrameProver"), (Jvm.Cond.methodLinkNest "FrameProver$Clauses" (9 : Nat) ({ cls := "FrameProver$StateSet", name := "<init>", desc := "()V" } : Jvm.MethodName) "FrameProver"), (Jvm.Cond.methodLinkNest "FrameProver$Frames" (26 : Nat) ({ cls := "FrameProver$StateSet", name := "<init>", desc := "()V" } : Jvm.MethodName) "FrameProver"), (Jvm.Cond.methodLinkNest "FrameProver" (63 : Nat) ({ cls := "FrameProver$Row", name := "<init>", desc := "()V" } : Jvm.MethodName) "FrameProver"), (Jvm.Cond.methodLinkNest "FrameProver$StateSet" (24 : Nat) ({ cls := "FrameProver", name := "maskOf", desc := "(I)I" } : Jvm.MethodName) "FrameProver"), (Jvm.Cond.methodLinkNest "FrameProver$StateSet" (28 : Nat) ({ cls := "FrameProver", name := "valuesOf", desc := "(I)I" } : Jvm.MethodName) "FrameProver"), (Jvm.Cond.methodLinkNest "FrameProver$Proof" (103 : Nat) ({ cls := "FrameProver", name := "cubeOf", desc := "(II)I" } : Jvm.MethodName) "FrameProver"), (Jvm.Cond.methodLinkNest "FrameProver$Frames" (72 : Nat) ({ cls := "FrameProver", name := "isInCube", desc := "(II)Z" } : Jvm.MethodName) "FrameProver"), (Jvm.Cond.methodLinkNest "FrameProver$Frames" (93 : Nat) ({ cls := "FrameProver", name := "maskOf", desc := "(I)I" } : Jvm.MethodName) "FrameProver"), (Jvm.Cond.methodLinkNest "FrameProver$Frames" (97 : Nat) ({ cls := "FrameProver", name := "valuesOf", desc := "(I)I" } : Jvm.MethodName) "FrameProver"), (Jvm.Cond.methodLinkNest "FrameProver$Frames" (100 : Nat) ({ cls := "FrameProver", name := "cubeOf", desc := "(II)I" } : Jvm.MethodName) "FrameProver")]
theorem nestW_in : ∀ w ∈ nestW, w ∈ lw_tbl := by
  intro w hw
  have h : nestW = ([83, 174, 234, 257, 345, 670, 673, 708, 720, 734, 735, 736].filterMap (fun i => lw_tbl[i]?)) := by decide +kernel
  rw [h] at hw
  obtain ⟨i, -, hi⟩ := List.mem_filterMap.mp hw
  exact List.mem_of_getElem? hi
end
section
/-! THE WORLD: cells by numbers (ids), which never change their shape; a state is what they hold -/
abbrev Sg : Type := (Nat → Nat → Int32) × (Nat → Nat → Int64)
def gI (σ : Sg) (a k : Nat) : Int32 := σ.1 a k
def gL (σ : Sg) (a k : Nat) : Int64 := σ.2 a k
def sI (σ : Sg) (a k : Nat) (v : Int32) : Sg := (fun x y => if x = a ∧ y = k then v else σ.1 x y, σ.2)
def sL (σ : Sg) (a k : Nat) (v : Int64) : Sg := (σ.1, fun x y => if x = a ∧ y = k then v else σ.2 x y)
/-- a shape: kinds (0 .. 10 objects of a class, 20 int row, 21 boolean row, 22 long row, 23, 24 rows of references, 25, 26 the two constant rows), lengths, references, how many -/
abbrev Wd : Type := (Nat → Nat) × (Nat → Nat) × (Nat → Nat → Nat) × Nat
def wK (w : Wd) (i : Nat) : Nat := w.1 i
def wN (w : Wd) (i : Nat) : Nat := w.2.1 i
def wR (w : Wd) (i k : Nat) : Nat := w.2.2.1 i k
def wS (w : Wd) : Nat := w.2.2.2
def isK (w : Wd) (i c : Nat) : Bool := Nat.beq (wK w i) c && Nat.blt i (wS w)
theorem isK_1 {w : Wd} {i c : Nat} (h : isK w i c = true) : wK w i = c := by
  simp only [isK, Bool.and_eq_true] at h
  exact Nat.eq_of_beq_eq_true h.1
theorem isK_2 {w : Wd} {i c : Nat} (h : isK w i c = true) : i < wS w := by
  simp only [isK, Bool.and_eq_true, Nat.blt_eq] at h
  exact h.2
def vr (ad : Nat → Nat) (v : Value) : Value := match v with
  | .ref a => .ref (ad a)
  | .float _ => .ref (ad 1000000)
  | .null => .ref (ad 1000001)
  | v => v
theorem vr_cat (ad : Nat → Nat) (v : Value) : (vr ad v).category = v.category := by cases v <;> rfl
def fty (ci k : Nat) : FieldType := match ci with
  | 0 => tyX0 k
  | 1 => tyX1 k
  | 2 => tyX2 k
  | 3 => tyX3 k
  | 4 => tyX4 k
  | 5 => tyX5 k
  | 6 => tyX6 k
  | 7 => tyX7 k
  | 8 => tyX8 k
  | 9 => tyX9 k
  | _ => tyX10 k
def ffin (ci k : Nat) : Bool := match ci with
  | 0 => (TX0 k).2.2.2
  | 1 => (TX1 k).2.2.2
  | 2 => (TX2 k).2.2.2
  | 3 => (TX3 k).2.2.2
  | 4 => (TX4 k).2.2.2
  | 5 => (TX5 k).2.2.2
  | 6 => (TX6 k).2.2.2
  | 7 => (TX7 k).2.2.2
  | 8 => (TX8 k).2.2.2
  | 9 => (TX9 k).2.2.2
  | _ => (TX10 k).2.2.2
/-- a field's value -/
def cV (w : Wd) (σ : Sg) (ty : FieldType) (i k : Nat) : Value := match ty with
  | .int => .int (gI σ i k)
  | .boolean => .int (gI σ i k)
  | _ => .ref (wR w i k)
/-- a place of a row -/
def aV (w : Wd) (σ : Sg) (c i j : Nat) : Value := match c with
  | 20 => .int (gI σ i j)
  | 21 => .int (gI σ i j)
  | 22 => .long (gL σ i j)
  | _ => .ref (wR w i j)
def wC (D : va_G) (aC : Nat → ClassId) (w : Wd) (ad : Nat → Nat) (σ : Sg) (i : Nat) (H : Heap) : Prop :=
  (wK w i < 11 → ∃ r : vw_C, vwCl[wK w i]? = some r ∧ t_OB (ad i) (D.1 (wK w i)) r.2.2 (D.2 (wK w i)) H (fun k => vr ad (cV w σ (fty (wK w i) k) i k))) ∧
  (20 ≤ wK w i → wK w i ≤ 24 → H[ad i]? = some (arrV (aC (wK w i)) (wN w i) (fun j => vr ad (aV w σ (wK w i) i j))))
def Pic (D : va_G) (aC : Nat → ClassId) (w : Wd) (ad : Nat → Nat) (σ : Sg) (H : Heap) : Prop := ∀ i, i < wS w → wC D aC w ad σ i H
def AW (w : Wd) (ad : Nat → Nat) : Nat → Prop := fun q => ∃ i, i < wS w ∧ q = ad i
def tysA (aC : Nat → ClassId) : List (ClassId × FieldType) := [(aC 20, .int), (aC 21, .boolean), (aC 22, .long), (aC 23, .object "FrameProver$StateSet"), (aC 24, .object "FrameProver$Clauses")]
def inpL (j : Nat) : Int32 := match j with
  | 0 => 43690
  | 1 => 52428
  | 2 => 61680
  | _ => 65280
def onesL (j : Nat) : Int64 := match j with
  | 0 => -6148914691236517206
  | 1 => -3689348814741910324
  | 2 => -1085102592571150096
  | 3 => -71777214294589696
  | 4 => -281470681808896
  | _ => -4294967296
def KK (D : va_G) (aC : Nat → ClassId) (ad : Nat → Nat) (A : Nat → Prop) (U : State) (H : Heap) : Prop :=
  va_K D vwCl (tysA aC) U ∧ (∀ x ∈ nestW, va_Nw x U) ∧
  (va_Z "FrameProver$Machine" "INPUT_LANES" "[I" (.ref (ad 1000000)) A U H ∧ va_T .int (ad 1000000) 4 (fun j => .int (inpL j)) A U H) ∧
  (va_Z "FrameProver$StateSet" "ONES" "[J" (.ref (ad 1000001)) A U H ∧ va_T .long (ad 1000001) 6 (fun j => .long (onesL j)) A U H)
theorem nestW_is : ∀ x ∈ nestW, ∃ a i y h, x = Cond.methodLinkNest a i y h := by
  intro x hx
  simp only [nestW, List.mem_cons, List.not_mem_nil, or_false] at hx
  rcases hx with rfl | rfl | rfl | rfl | rfl | rfl | rfl | rfl | rfl | rfl | rfl | rfl <;> exact ⟨_, _, _, _, rfl⟩
theorem KK.to {D : va_G} {aC : Nat → ClassId} {ad : Nat → Nat} {A : Nat → Prop} {s U : State} {H : Heap} {locs : List Loc} (h : KK D aC ad A s s.heap) (hS : va_S A s.heap H locs) (hU : U.heap = H) (hW : s.WarmedH U.vm) : KK D aC ad A U U.heap := by
  obtain ⟨h1, h2, ⟨h3, h4⟩, h5, h6⟩ := h
  subst hU
  refine ⟨va_K.moved hW.alike h1, fun x hx => ?_, ⟨(h3.kept hS.2.1).moved hW.alike, (h4.kept hS.2.1).moved hW.alike⟩, (h5.kept hS.2.1).moved hW.alike, (h6.kept hS.2.1).moved hW.alike⟩
  obtain ⟨a, i, y, hh, rfl⟩ := nestW_is x hx
  exact va_Nw.warmM hW (h2 _ hx)
theorem KK.blind {D : va_G} {aC : Nat → ClassId} {ad : Nat → Nat} {A : Nat → Prop} {U : State} (g : JFrame) (mk : MethodId) (a : Array Value) (h : KK D aC ad A U U.heap) : KK D aC ad A (U.calling g mk a) (U.calling g mk a).heap := by
  obtain ⟨h1, h2, ⟨h3, h4⟩, h5, h6⟩ := h
  refine ⟨va_K.moved (u := U) (U := U.calling g mk a) (Vm.Alike.refl U.vm) h1, fun x hx => ?_, ⟨h3.moved (u := U) (U := U.calling g mk a) (Vm.Alike.refl U.vm), h4.moved (u := U) (U := U.calling g mk a) (Vm.Alike.refl U.vm)⟩, h5.moved (u := U) (U := U.calling g mk a) (Vm.Alike.refl U.vm), h6.moved (u := U) (U := U.calling g mk a) (Vm.Alike.refl U.vm)⟩
  obtain ⟨b, i, y, hh, rfl⟩ := nestW_is x hx
  exact va_Nw.same rfl (u := U) (U := U.calling g mk a) rfl (h2 _ hx)
theorem sI_1 (σ : Sg) {a i : Nat} (h : i ≠ a) (k j : Nat) (v : Int32) : gI (sI σ a k v) i j = gI σ i j := by simp [gI, sI, h]
theorem sI_2 (σ : Sg) (a k i j : Nat) (v : Int32) : gL (sI σ a k v) i j = gL σ i j := rfl
theorem sL_1 (σ : Sg) (a k i j : Nat) (v : Int64) : gI (sL σ a k v) i j = gI σ i j := rfl
theorem sL_2 (σ : Sg) {a i : Nat} (h : i ≠ a) (k j : Nat) (v : Int64) : gL (sL σ a k v) i j = gL σ i j := by simp [gL, sL, h]
theorem cV_eq {w : Wd} {σ τ : Sg} {ty : FieldType} {i k : Nat} (h : gI τ i k = gI σ i k) : cV w τ ty i k = cV w σ ty i k := by
  cases ty <;> simp [cV, h]
theorem aV_eq {w : Wd} {σ τ : Sg} {c i j : Nat} (h : gI τ i j = gI σ i j) (h2 : gL τ i j = gL σ i j) : aV w τ c i j = aV w σ c i j := by
  unfold aV
  rw [h, h2]
theorem wC_kept {D : va_G} {aC : Nat → ClassId} {w : Wd} {ad : Nat → Nat} {σ τ : Sg} {i : Nat} {H H1 : Heap} (h : wC D aC w ad σ i H) (hH : H1[ad i]? = H[ad i]?) (hI : ∀ k, gI τ i k = gI σ i k) (hL : ∀ k, gL τ i k = gL σ i k) : wC D aC w ad τ i H1 := by
  refine ⟨fun hk => ?_, fun h1 h2 => ?_⟩
  · obtain ⟨r, e1, e2⟩ := h.1 hk
    exact ⟨r, e1, (e2.kept hH).to (fun k _ => by rw [cV_eq (hI k)])⟩
  · rw [hH, h.2 h1 h2]
    congr 2
    funext j
    rw [aV_eq (hI j) (hL j)]
theorem Pic.put {D : va_G} {aC : Nat → ClassId} {w : Wd} {ad : Nat → Nat} {σ τ : Sg} {i : Nat} {H H1 : Heap} (hP : Pic D aC w ad σ H) (hj : ∀ a b, a < wS w → b < wS w → ad a = ad b → a = b) (hi : i < wS w) (oq : ∀ q : Nat, q ≠ ad i → H1[q]? = H[q]?) (hc : wC D aC w ad τ i H1) (hI : ∀ a, a ≠ i → ∀ k, gI τ a k = gI σ a k) (hL : ∀ a, a ≠ i → ∀ k, gL τ a k = gL σ a k) : Pic D aC w ad τ H1 := by
  intro a ha
  by_cases e : a = i
  · rw [e]; exact hc
  · exact wC_kept (hP a ha) (oq _ (fun z => e (hj a i ha hi z))) (hI a e) (hL a e)
theorem Pic.kept {D : va_G} {aC : Nat → ClassId} {w : Wd} {ad : Nat → Nat} {σ : Sg} {H H1 : Heap} (hP : Pic D aC w ad σ H) (hq : ∀ q, AW w ad q → H1[q]? = H[q]?) : Pic D aC w ad σ H1 := fun a ha => wC_kept (hP a ha) (hq _ ⟨a, ha, rfl⟩) (fun _ => rfl) (fun _ => rfl)
def nz (x : Int32) : Prop := x = 0 ∨ x = 1
theorem nz_0 : nz 0 := Or.inl rfl
theorem nz_1 : nz 1 := Or.inr rfl
/-- what a pool entry of a field says -/
def ftOK (own : String) (idx ci k : Nat) : Prop := ∃ (C : String) (T : u_T) (N : Nat), vwCl[ci]? = some (C, T, N) ∧ ci < 11 ∧ k < N ∧ Cond.fieldLink own idx C (T k).2.1 (T k).2.2.1 ∈ big ∧ (T k).1 = C ∧ (∀ j, j < N → parseFieldDescriptor (T j).2.2.1 = some (fty ci j)) ∧ (∀ a, a < N → ∀ b, b < N → a ≠ b → (T a).2.1 ≠ (T b).2.1) ∧ (∀ x ∈ u_ws C T N, x ∈ big) ∧ (T k).2.2.2 = ffin ci k
section WROWS
variable {p : Program} {l : Launch} {e : Env} {R : Room} {s : State} {m : MethodId} {args : Array Value} {below : List Frame} {meth : Method} {c : Code} {H : Heap} {locs : List Loc} {cells slots : Nat} {Q : State → Prop}
variable {cc : ByteArray} {pc : Nat} {ls : Array Slot} {rest : List Value} {D : va_G} {aC : Nat → ClassId} {ad : Nat → Nat} {w : Wd} {σ : Sg} {i : Nat} {own : String}
theorem pw_get (hx : p.tables.exec = Jvm.exec) (hb : c.code = cc) (hts : ∀ x ∈ big, x.before args s = true) (hown : s.vm.findClass own = some m.cls) (hK : va_K D vwCl (tysA aC) s) (hP : Pic D aC w ad σ H) {idx ci k : Nat} (hf : ftOK own idx ci k) (hk : wK w i = ci) (hi : i < wS w) (hdg : decode cc pc = .ok (.getfield idx, 3))
    (kk : W p l e R s m args below meth c H locs cells slots Q (F0 m (pc + 3) ls (vr ad (cV w σ (fty ci k) i k) :: rest))) : W p l e R s m args below meth c H locs cells slots Q (F0 m pc ls (.ref (ad i) :: rest)) := by
  obtain ⟨C, T, N, hc, hci, hkN, hlink, hC, hty, hnm, hin, -⟩ := hf
  subst hk
  obtain ⟨r, h1, cell, q1, q2, q3, q4⟩ := (hP i hi).1 hci
  have hr : r = (C, T, N) := Option.some.inj (h1.symm.trans hc)
  subst hr
  obtain ⟨hS, hfc, kC, hkC, hkind⟩ := hK.1 _ _ hc
  obtain ⟨cf, kf, fi, f, hfi, hsl⟩ := hS k hkN
  have hfi' : s.fieldFound? C (T k).2.1 (T k).2.2.1 = some (cf, kf, fi, f) := by rw [← hfi, hC]
  refine W.getf hx hb hown (hts _ hlink) hfi' (u_facts hfc hkC (u_lays hts hin hkN) hfi).1 q1 (by rw [q3]; exact fun h => by cases h) (v := vr ad (cV w σ (fty (wK w i) k) i k)) ?_ rfl rfl hdg kk
  rw [hsl, q4 k hkN]
theorem pw_put (hx : p.tables.exec = Jvm.exec) (hb : c.code = cc) (hts : ∀ x ∈ big, x.before args s = true) (hown : s.vm.findClass own = some m.cls) (hK : va_K D vwCl (tysA aC) s) (hP : Pic D aC w ad σ H) (hj : ∀ a b, a < wS w → b < wS w → ad a = ad b → a = b) {H0 : Heap} (hS0 : va_S (AW w ad) H0 H locs) {idx ci k : Nat} (hf : ftOK own idx ci k) (hnf : ffin ci k = false) (hk : wK w i = ci) (hi : i < wS w) {x : Int32} (hty2 : fty ci k = .int ∨ (fty ci k = .boolean ∧ nz x)) (hdg : decode cc pc = .ok (.putfield idx, 3))
    (kk : ∀ (H1 : Heap) (locs1 : List Loc), Pic D aC w ad (sI σ i k x) H1 → va_S (AW w ad) H0 H1 locs1 → W p l e R s m args below meth c H1 locs1 cells slots Q (F0 m (pc + 3) ls rest)) : W p l e R s m args below meth c H locs cells slots Q (F0 m pc ls (.int x :: .ref (ad i) :: rest)) := by
  obtain ⟨C, T, N, hc, hci, hkN, hlink, hC, hty, hnm, hin, hfe⟩ := hf
  subst hk
  have hap := va_apart (own := own) (args := args) (tys := tysA aC) (D := D) (Ts := big) hts hin (fty (wK w i)) hty hnm hK hc
  obtain ⟨r, h1, cell, q1, q2, q3, q4⟩ := (hP i hi).1 hci
  have hr : r = (C, T, N) := Option.some.inj (h1.symm.trans hc)
  subst hr
  obtain ⟨hS, hfc, kC, hkC, hkind⟩ := hK.1 _ _ hc
  obtain ⟨cf, kf, fi, f, hfi, hsl⟩ := hS k hkN
  have hfi' : s.fieldFound? C (T k).2.1 (T k).2.2.1 = some (cf, kf, fi, f) := by rw [← hfi, hC]
  have hlay := hts _ (hin _ (u_in_lay hkN))
  unfold u_lay at hlay
  rw [if_neg (by rw [hfe, hnf]; decide)] at hlay
  have hst := (u_facts hfc hkC (u_lays hts hin hkN) hfi).1
  have h6 : k2_Sd s f (D.1 (wK w i)) (.int x) := by
    rcases hty2 with t | ⟨t, t2⟩
    · exact u_store hfc hkC hkind hlay hfi ((hty k hkN).trans (congrArg some t)) rfl rfl
    · rcases t2 with rfl | rfl <;> exact u_store hfc hkC hkind hlay hfi ((hty k hkN).trans (congrArg some t)) rfl rfl
  refine W.putK hx hb (f := f) ⟨hown, hts _ hlink, ⟨_, _, _, hfi'⟩, hst⟩ (by rw [q2]; exact h6) q1 q3 (by rw [hsl]; exact k2_hasslot (q4 k hkN)) rfl rfl hdg fun H' e1 e2 e3 => ?_
  rw [hsl] at e1 ⊢
  refine kk H' _ (hP.put hj hi e3 ⟨fun _ => ⟨_, hc, t_OB.to (V := updV (fun k => vr ad (cV w σ (fty (wK w i) k) i k)) k (.int x)) ⟨_, e1, q2, q3, t_set q4 hap hkN _⟩ (fun j _ => ?_)⟩, fun z => absurd z (by omega)⟩ (fun a ha j => sI_1 σ ha k j x) (fun a _ j => rfl)) (hS0.put e2 e3 ⟨i, hi, rfl⟩)
  by_cases hjk : j = k
  · subst hjk
    rcases hty2 with t | ⟨t, -⟩ <;> simp [updV, t, cV, gI, sI, vr]
  · have : gI (sI σ i k x) i j = gI σ i j := by simp [gI, sI, hjk]
    simp [updV, hjk, cV_eq this]
theorem pw_iald (hx : p.tables.exec = Jvm.exec) (hb : c.code = cc) (hK : va_K D vwCl (tysA aC) s) (hP : Pic D aC w ad σ H) (hk : isK w i 20 = true) {j : Int32} (hin : vp_in j (wN w i)) (hdg : decode cc pc = .ok (.iaload, 1))
    (kk : W p l e R s m args below meth c H locs cells slots Q (F0 m (pc + 1) ls (.int (gI σ i j.toNatClampNeg) :: rest))) : W p l e R s m args below meth c H locs cells slots Q (F0 m pc ls (.int j :: .ref (ad i) :: rest)) := by
  have hlt : j.toNatClampNeg < wN w i := Nat.not_le.mp fun q => hin (Or.inr q)
  have h1 := (hP i (isK_2 hk)).2 (by rw [isK_1 hk]; decide) (by rw [isK_1 hk]; decide)
  rw [isK_1 hk] at h1
  exact W.iald (v := .int (gI σ i j.toNatClampNeg)) hx hb h1 ((hK.2 0 _ rfl).1 _ _) (fun q => by cases q) (by rw [arrV_size]; exact hin) (by rw [arrV_read _ _ hlt]; rfl) rfl rfl hdg kk
theorem pw_zald (hx : p.tables.exec = Jvm.exec) (hb : c.code = cc) (hK : va_K D vwCl (tysA aC) s) (hP : Pic D aC w ad σ H) (hk : isK w i 21 = true) {j : Int32} (hin : vp_in j (wN w i)) (hdg : decode cc pc = .ok (.baload, 1))
    (kk : W p l e R s m args below meth c H locs cells slots Q (F0 m (pc + 1) ls (.int (gI σ i j.toNatClampNeg) :: rest))) : W p l e R s m args below meth c H locs cells slots Q (F0 m pc ls (.int j :: .ref (ad i) :: rest)) := by
  have hlt : j.toNatClampNeg < wN w i := Nat.not_le.mp fun q => hin (Or.inr q)
  have h1 := (hP i (isK_2 hk)).2 (by rw [isK_1 hk]; decide) (by rw [isK_1 hk]; decide)
  rw [isK_1 hk] at h1
  exact W.zald (v := .int (gI σ i j.toNatClampNeg)) hx hb h1 ((hK.2 1 _ rfl).1 _ _) (fun q => by cases q) (by rw [arrV_size]; exact hin) (by rw [arrV_read _ _ hlt]; rfl) rfl rfl hdg kk
theorem pw_lald (hx : p.tables.exec = Jvm.exec) (hb : c.code = cc) (hK : va_K D vwCl (tysA aC) s) (hP : Pic D aC w ad σ H) (hk : isK w i 22 = true) {j : Int32} (hin : vp_in j (wN w i)) (hdg : decode cc pc = .ok (.laload, 1))
    (kk : W p l e R s m args below meth c H locs cells slots Q (F0 m (pc + 1) ls (.long (gL σ i j.toNatClampNeg) :: rest))) : W p l e R s m args below meth c H locs cells slots Q (F0 m pc ls (.int j :: .ref (ad i) :: rest)) := by
  have hlt : j.toNatClampNeg < wN w i := Nat.not_le.mp fun q => hin (Or.inr q)
  have h1 := (hP i (isK_2 hk)).2 (by rw [isK_1 hk]; decide) (by rw [isK_1 hk]; decide)
  rw [isK_1 hk] at h1
  exact W.lald (v := .long (gL σ i j.toNatClampNeg)) hx hb h1 ((hK.2 2 _ rfl).1 _ _) (fun q => by cases q) (by rw [arrV_size]; exact hin) (by rw [arrV_read _ _ hlt]; rfl) rfl rfl hdg kk
theorem pw_aald3 (hx : p.tables.exec = Jvm.exec) (hb : c.code = cc) (hK : va_K D vwCl (tysA aC) s) (hP : Pic D aC w ad σ H) (hk : isK w i 23 = true) {j : Int32} (hin : vp_in j (wN w i)) (hdg : decode cc pc = .ok (.aaload, 1))
    (kk : W p l e R s m args below meth c H locs cells slots Q (F0 m (pc + 1) ls (.ref (ad (wR w i j.toNatClampNeg)) :: rest))) : W p l e R s m args below meth c H locs cells slots Q (F0 m pc ls (.int j :: .ref (ad i) :: rest)) := by
  have hlt : j.toNatClampNeg < wN w i := Nat.not_le.mp fun q => hin (Or.inr q)
  have h1 := (hP i (isK_2 hk)).2 (by rw [isK_1 hk]; decide) (by rw [isK_1 hk]; decide)
  rw [isK_1 hk] at h1
  exact W.aald (v := .ref (ad (wR w i j.toNatClampNeg))) (ty := .object "FrameProver$StateSet") hx hb h1 ((hK.2 3 _ rfl).1 _ _) rfl (fun q => by cases q) (by rw [arrV_size]; exact hin) (by rw [arrV_read _ _ hlt]; rfl) rfl rfl hdg kk
theorem pw_aald4 (hx : p.tables.exec = Jvm.exec) (hb : c.code = cc) (hK : va_K D vwCl (tysA aC) s) (hP : Pic D aC w ad σ H) (hk : isK w i 24 = true) {j : Int32} (hin : vp_in j (wN w i)) (hdg : decode cc pc = .ok (.aaload, 1))
    (kk : W p l e R s m args below meth c H locs cells slots Q (F0 m (pc + 1) ls (.ref (ad (wR w i j.toNatClampNeg)) :: rest))) : W p l e R s m args below meth c H locs cells slots Q (F0 m pc ls (.int j :: .ref (ad i) :: rest)) := by
  have hlt : j.toNatClampNeg < wN w i := Nat.not_le.mp fun q => hin (Or.inr q)
  have h1 := (hP i (isK_2 hk)).2 (by rw [isK_1 hk]; decide) (by rw [isK_1 hk]; decide)
  rw [isK_1 hk] at h1
  exact W.aald (v := .ref (ad (wR w i j.toNatClampNeg))) (ty := .object "FrameProver$Clauses") hx hb h1 ((hK.2 4 _ rfl).1 _ _) rfl (fun q => by cases q) (by rw [arrV_size]; exact hin) (by rw [arrV_read _ _ hlt]; rfl) rfl rfl hdg kk
theorem pw_alen (hx : p.tables.exec = Jvm.exec) (hb : c.code = cc) (hK : va_K D vwCl (tysA aC) s) (hP : Pic D aC w ad σ H) (h1 : 20 ≤ wK w i) (h2 : wK w i ≤ 24) (hi : i < wS w) (hdg : decode cc pc = .ok (.arraylength, 1))
    (kk : W p l e R s m args below meth c H locs cells slots Q (F0 m (pc + 1) ls (.int (nI (wN w i)) :: rest))) : W p l e R s m args below meth c H locs cells slots Q (F0 m pc ls (.ref (ad i) :: rest)) := by
  have h3 := (hP i hi).2 h1 h2
  have hk : wK w i = 20 ∨ wK w i = 21 ∨ wK w i = 22 ∨ wK w i = 23 ∨ wK w i = 24 := by omega
  rcases hk with hk | hk | hk | hk | hk <;> rw [hk] at h3
  · exact W.alen (n := Int32.ofNat (wN w i)) hx hb h3 ((hK.2 0 _ rfl).1 _ _) (by rw [arrV_size] <;> rfl) rfl rfl hdg kk
  · exact W.alen (n := Int32.ofNat (wN w i)) hx hb h3 ((hK.2 1 _ rfl).1 _ _) (by rw [arrV_size] <;> rfl) rfl rfl hdg kk
  · exact W.alen (n := Int32.ofNat (wN w i)) hx hb h3 ((hK.2 2 _ rfl).1 _ _) (by rw [arrV_size] <;> rfl) rfl rfl hdg kk
  · exact W.alen (n := Int32.ofNat (wN w i)) hx hb h3 ((hK.2 3 _ rfl).1 _ _) (by rw [arrV_size] <;> rfl) rfl rfl hdg kk
  · exact W.alen (n := Int32.ofNat (wN w i)) hx hb h3 ((hK.2 4 _ rfl).1 _ _) (by rw [arrV_size] <;> rfl) rfl rfl hdg kk
theorem pw_iast (hx : p.tables.exec = Jvm.exec) (hb : c.code = cc) (hK : va_K D vwCl (tysA aC) s) (hP : Pic D aC w ad σ H) (hj : ∀ a b, a < wS w → b < wS w → ad a = ad b → a = b) {H0 : Heap} (hS0 : va_S (AW w ad) H0 H locs) (hk : isK w i 20 = true) {j : Int32} {x : Int32} (hin : vp_in j (wN w i)) (hdg : decode cc pc = .ok (.iastore, 1))
    (kk : ∀ (H1 : Heap) (locs1 : List Loc), Pic D aC w ad (sI σ i j.toNatClampNeg x) H1 → va_S (AW w ad) H0 H1 locs1 → W p l e R s m args below meth c H1 locs1 cells slots Q (F0 m (pc + 1) ls rest)) : W p l e R s m args below meth c H locs cells slots Q (F0 m pc ls (.int x :: .int j :: .ref (ad i) :: rest)) := by
  have h1 := (hP i (isK_2 hk)).2 (by rw [isK_1 hk]; decide) (by rw [isK_1 hk]; decide)
  rw [isK_1 hk] at h1
  refine W.iast hx hb h1 ((hK.2 0 _ rfl).1 _ _) (fun q => by cases q) (by rw [arrV_size]; exact hin) rfl rfl hdg fun H1 e1 z oq => ?_
  refine kk H1 _ (hP.put hj (isK_2 hk) oq ⟨fun z => absurd z (by rw [isK_1 hk]; decide), fun _ _ => ?_⟩ (fun a ha k => sI_1 σ ha _ k _) (fun a ha k => rfl)) (hS0.put z oq ⟨i, isK_2 hk, rfl⟩)
  rw [e1, isK_1 hk, arrV_store]
  congr 2
  funext q
  by_cases hq : q = j.toNatClampNeg
  · subst hq
    simp [updV, aV, vr, gI, sI, vp_nar]
    
  · simp [updV, aV, vr, gI, sI, hq]
theorem pw_zast (hx : p.tables.exec = Jvm.exec) (hb : c.code = cc) (hK : va_K D vwCl (tysA aC) s) (hP : Pic D aC w ad σ H) (hj : ∀ a b, a < wS w → b < wS w → ad a = ad b → a = b) {H0 : Heap} (hS0 : va_S (AW w ad) H0 H locs) (hk : isK w i 21 = true) {j : Int32} {x : Int32} (hin : vp_in j (wN w i)) (hdg : decode cc pc = .ok (.bastore, 1))
    (kk : ∀ (H1 : Heap) (locs1 : List Loc), Pic D aC w ad (sI σ i j.toNatClampNeg (vp_nar .boolean x)) H1 → va_S (AW w ad) H0 H1 locs1 → W p l e R s m args below meth c H1 locs1 cells slots Q (F0 m (pc + 1) ls rest)) : W p l e R s m args below meth c H locs cells slots Q (F0 m pc ls (.int x :: .int j :: .ref (ad i) :: rest)) := by
  have h1 := (hP i (isK_2 hk)).2 (by rw [isK_1 hk]; decide) (by rw [isK_1 hk]; decide)
  rw [isK_1 hk] at h1
  refine W.zast hx hb h1 ((hK.2 1 _ rfl).1 _ _) (fun q => by cases q) (by rw [arrV_size]; exact hin) rfl rfl hdg fun H1 e1 z oq => ?_
  refine kk H1 _ (hP.put hj (isK_2 hk) oq ⟨fun z => absurd z (by rw [isK_1 hk]; decide), fun _ _ => ?_⟩ (fun a ha k => sI_1 σ ha _ k _) (fun a ha k => rfl)) (hS0.put z oq ⟨i, isK_2 hk, rfl⟩)
  rw [e1, isK_1 hk, arrV_store]
  congr 2
  funext q
  by_cases hq : q = j.toNatClampNeg
  · subst hq
    simp [updV, aV, vr, gI, sI, vp_nar]
    try rfl
  · simp [updV, aV, vr, gI, sI, hq]
theorem pw_last (hx : p.tables.exec = Jvm.exec) (hb : c.code = cc) (hK : va_K D vwCl (tysA aC) s) (hP : Pic D aC w ad σ H) (hj : ∀ a b, a < wS w → b < wS w → ad a = ad b → a = b) {H0 : Heap} (hS0 : va_S (AW w ad) H0 H locs) (hk : isK w i 22 = true) {j : Int32} {x : Int64} (hin : vp_in j (wN w i)) (hdg : decode cc pc = .ok (.lastore, 1))
    (kk : ∀ (H1 : Heap) (locs1 : List Loc), Pic D aC w ad (sL σ i j.toNatClampNeg x) H1 → va_S (AW w ad) H0 H1 locs1 → W p l e R s m args below meth c H1 locs1 cells slots Q (F0 m (pc + 1) ls rest)) : W p l e R s m args below meth c H locs cells slots Q (F0 m pc ls (.long x :: .int j :: .ref (ad i) :: rest)) := by
  have h1 := (hP i (isK_2 hk)).2 (by rw [isK_1 hk]; decide) (by rw [isK_1 hk]; decide)
  rw [isK_1 hk] at h1
  refine W.last hx hb h1 ((hK.2 2 _ rfl).1 _ _) (fun q => by cases q) (by rw [arrV_size]; exact hin) rfl rfl hdg fun H1 e1 z oq => ?_
  refine kk H1 _ (hP.put hj (isK_2 hk) oq ⟨fun z => absurd z (by rw [isK_1 hk]; decide), fun _ _ => ?_⟩ (fun a ha k => rfl) (fun a ha k => sL_2 σ ha _ k _)) (hS0.put z oq ⟨i, isK_2 hk, rfl⟩)
  rw [e1, isK_1 hk, arrV_store]
  congr 2
  funext q
  by_cases hq : q = j.toNatClampNeg
  · subst hq
    simp [updV, aV, vr, gL, sL, vp_nar]
    
  · simp [updV, aV, vr, gL, sL, hq]
end WROWS
end
section
/-! THE EXECUTOR: what a method does, as a proposition, instruction by instruction -/
abbrev VL : Type := List (Nat × Value)
abbrev WP : Type := List Value → Sg → (Option Value → Sg → Prop) → Prop
def lk : VL → Nat → Option Value
  | [], _ => none
  | (i, v) :: r, k => bif Nat.beq i k then some v else lk r k
def cat1 (v : Value) : Bool := match v with
  | .long _ => false
  | .double _ => false
  | _ => true
/-- out goes what a store to place i destroys -/
def dl : VL → Nat → VL
  | [], _ => []
  | (j, v) :: r, i => bif Nat.beq j i || (Nat.beq (j + 1) i && !cat1 v) then dl r i else (j, v) :: dl r i
def dl2 : VL → Nat → VL
  | [], _ => []
  | (j, v) :: r, i => bif Nat.beq j i || (Nat.beq j (i + 1) || (Nat.beq (j + 1) i && !cat1 v)) then dl2 r i else (j, v) :: dl2 r i
def pickL (lv : VL) : List Nat → Option (List Value)
  | [] => some []
  | i :: r => match lk lv i, pickL lv r with
    | some v, some vs => some (v :: vs)
    | _, _ => none
def zipL : List Nat → List Value → VL
  | i :: r, v :: vs => (i, v) :: zipL r vs
  | _, _ => []
def arg0 : Nat → List Value → VL
  | _, [] => []
  | i, v :: r => (i, v) :: arg0 (bif cat1 v then i + 1 else i + 2) r
def catS : List Value → Nat
  | [] => 0
  | v :: r => (bif cat1 v then 1 else 2) + catS r
/-- the top n of the stack, the lowest first -/
def popA : Nat → List Value → List Value → Option (List Value × List Value)
  | 0, acc, st => some (acc, st)
  | n + 1, acc, v :: st => popA n (v :: acc) st
  | _ + 1, _, [] => none
/-- the code by its places, jumps by their targets -/
abbrev Tab : Type := Nat → Option (Instr × Nat)
def lnI (i : Instr) : Nat := match i with
  | .bipush _ => 2
  | .sipush _ => 3
  | .ldc _ => 2
  | .ldc2_w _ => 3
  | .iload _ => 2
  | .lload _ => 2
  | .aload _ => 2
  | .istore _ => 2
  | .lstore _ => 2
  | .astore _ => 2
  | .iinc _ _ => 3
  | .getfield _ => 3
  | .putfield _ => 3
  | .getstatic _ => 3
  | .invokevirtual _ => 3
  | .invokestatic _ => 3
  | _ => 1
def stI (nL : Nat) (i : Instr) : Bool := match i with
  | .istore k => Nat.blt k nL
  | .istore_n k => Nat.blt k nL
  | .astore k => Nat.blt k nL
  | .astore_n k => Nat.blt k nL
  | .lstore k => Nat.blt (k + 1) nL
  | .lstore_n k => Nat.blt (k + 1) nL
  | .iinc k _ => Nat.blt k nL
  | _ => true
def okI (cc : ByteArray) (nL pc : Nat) (i : Instr) (n : Nat) : Bool := match i with
  | .goto t => decide (0 ≤ t) && decide (decode cc pc = .ok (.goto (t - pc), 3)) && Nat.beq n 3
  | .ifCond k t => decide (0 ≤ t) && decide (decode cc pc = .ok (.ifCond k (t - pc), 3)) && Nat.beq n 3
  | .if_icmp k t => decide (0 ≤ t) && decide (decode cc pc = .ok (.if_icmp k (t - pc), 3)) && Nat.beq n 3
  | .lookupswitch d ps => decide (decode cc pc = .ok (.lookupswitch d ps, n))
  | .tableswitch d lo hi offs => decide (decode cc pc = .ok (.tableswitch d lo hi offs, n))
  | i => (decide (decode cc pc = .ok (i, n)) && Nat.beq n (lnI i)) && stI nL i
def tabOK (cc : ByteArray) (nL : Nat) (T : List (Nat × Instr × Nat)) : Bool := T.all (fun q => okI cc nL q.1 q.2.1 q.2.2)
def swL (K : Int → Prop) (d : Int) : List (Int × Int) → Int32 → Prop
  | [], _ => K d
  | (a, o) :: r, x => bif decide ((Int32.ofInt a).toInt = a) then (x = Int32.ofInt a → K o) ∧ (¬ x = Int32.ofInt a → swL K d r x) else False
def swT (K : Int → Prop) (d : Int) : List Int → Int → Int32 → Prop
  | [], _, _ => K d
  | o :: r, lo, x => bif decide ((Int32.ofInt lo).toInt = lo) then (x = Int32.ofInt lo → K o) ∧ (¬ x = Int32.ofInt lo → swT K d r (lo + 1) x) else False

def p1i (st : List Value) (f : Int32 → List Value → Prop) : Prop := match st with
  | .int x :: r => f x r
  | _ => False
theorem p1i_e {st : List Value} {f : Int32 → List Value → Prop} (h : p1i st f) : ∃ x r, st = .int x :: r ∧ f x r := by
  unfold p1i at h
  split at h
  · exact ⟨_, _, rfl, h⟩
  · exact h.elim
def p2i (st : List Value) (f : Int32 → Int32 → List Value → Prop) : Prop := match st with
  | .int y :: .int x :: r => f y x r
  | _ => False
theorem p2i_e {st : List Value} {f : Int32 → Int32 → List Value → Prop} (h : p2i st f) : ∃ y x r, st = .int y :: .int x :: r ∧ f y x r := by
  unfold p2i at h
  split at h
  · exact ⟨_, _, _, rfl, h⟩
  · exact h.elim
def p1l (st : List Value) (f : Int64 → List Value → Prop) : Prop := match st with
  | .long x :: r => f x r
  | _ => False
theorem p1l_e {st : List Value} {f : Int64 → List Value → Prop} (h : p1l st f) : ∃ x r, st = .long x :: r ∧ f x r := by
  unfold p1l at h
  split at h
  · exact ⟨_, _, rfl, h⟩
  · exact h.elim
def p2l (st : List Value) (f : Int64 → Int64 → List Value → Prop) : Prop := match st with
  | .long y :: .long x :: r => f y x r
  | _ => False
theorem p2l_e {st : List Value} {f : Int64 → Int64 → List Value → Prop} (h : p2l st f) : ∃ y x r, st = .long y :: .long x :: r ∧ f y x r := by
  unfold p2l at h
  split at h
  · exact ⟨_, _, _, rfl, h⟩
  · exact h.elim
def pil (st : List Value) (f : Int32 → Int64 → List Value → Prop) : Prop := match st with
  | .int y :: .long x :: r => f y x r
  | _ => False
theorem pil_e {st : List Value} {f : Int32 → Int64 → List Value → Prop} (h : pil st f) : ∃ y x r, st = .int y :: .long x :: r ∧ f y x r := by
  unfold pil at h
  split at h
  · exact ⟨_, _, _, rfl, h⟩
  · exact h.elim
def p1r (st : List Value) (f : Nat → List Value → Prop) : Prop := match st with
  | .ref a :: r => f a r
  | _ => False
theorem p1r_e {st : List Value} {f : Nat → List Value → Prop} (h : p1r st f) : ∃ a r, st = .ref a :: r ∧ f a r := by
  unfold p1r at h
  split at h
  · exact ⟨_, _, rfl, h⟩
  · exact h.elim
def pir (st : List Value) (f : Int32 → Nat → List Value → Prop) : Prop := match st with
  | .int j :: .ref a :: r => f j a r
  | _ => False
theorem pir_e {st : List Value} {f : Int32 → Nat → List Value → Prop} (h : pir st f) : ∃ j a r, st = .int j :: .ref a :: r ∧ f j a r := by
  unfold pir at h
  split at h
  · exact ⟨_, _, _, rfl, h⟩
  · exact h.elim
def piir (st : List Value) (f : Int32 → Int32 → Nat → List Value → Prop) : Prop := match st with
  | .int x :: .int j :: .ref a :: r => f x j a r
  | _ => False
theorem piir_e {st : List Value} {f : Int32 → Int32 → Nat → List Value → Prop} (h : piir st f) : ∃ x j a r, st = .int x :: .int j :: .ref a :: r ∧ f x j a r := by
  unfold piir at h
  split at h
  · exact ⟨_, _, _, _, rfl, h⟩
  · exact h.elim
def plir (st : List Value) (f : Int64 → Int32 → Nat → List Value → Prop) : Prop := match st with
  | .long x :: .int j :: .ref a :: r => f x j a r
  | _ => False
theorem plir_e {st : List Value} {f : Int64 → Int32 → Nat → List Value → Prop} (h : plir st f) : ∃ x j a r, st = .long x :: .int j :: .ref a :: r ∧ f x j a r := by
  unfold plir at h
  split at h
  · exact ⟨_, _, _, _, rfl, h⟩
  · exact h.elim
def isA (w : Wd) (a : Nat) : Bool := Nat.ble 20 (wK w a) && (Nat.ble (wK w a) 24 && Nat.blt a (wS w))
/-- the two constant rows stand on the stack as .float 0 and .null -/
def pnl (st : List Value) (f : List Value → Prop) (g : Prop) : Prop := match st with
  | .null :: r => f r
  | _ => g
theorem pnl_e {st : List Value} {f : List Value → Prop} {g : Prop} (h : pnl st f g) : (∃ r, st = .null :: r ∧ f r) ∨ g := by
  unfold pnl at h
  split at h
  · exact Or.inl ⟨_, rfl, h⟩
  · exact Or.inr h
def pfl (st : List Value) (f : Int32 → List Value → Prop) (g : Prop) : Prop := match st with
  | .int j :: .float _ :: r => f j r
  | _ => g
theorem pfl_e {st : List Value} {f : Int32 → List Value → Prop} {g : Prop} (h : pfl st f g) : (∃ j t r, st = .int j :: .float t :: r ∧ f j r) ∨ g := by
  unfold pfl at h
  split at h
  · exact Or.inl ⟨_, _, _, rfl, h⟩
  · exact Or.inr h
def pnj (st : List Value) (f : Int32 → List Value → Prop) (g : Prop) : Prop := match st with
  | .int j :: .null :: r => f j r
  | _ => g
theorem pnj_e {st : List Value} {f : Int32 → List Value → Prop} {g : Prop} (h : pnj st f g) : (∃ j r, st = .int j :: .null :: r ∧ f j r) ∨ g := by
  unfold pnj at h
  split at h
  · exact Or.inl ⟨_, _, rfl, h⟩
  · exact Or.inr h
def lkp {α : Type} : List (Nat × α) → Nat → Option α
  | [], _ => none
  | (i, v) :: r, k => bif Nat.beq i k then some v else lkp r k
theorem lkp_mem {α : Type} : ∀ {L : List (Nat × α)} {k : Nat} {v : α}, lkp L k = some v → (k, v) ∈ L
  | [], _, _, h => by cases h
  | (i, u) :: r, k, v, h => by
    unfold lkp at h
    cases hb : Nat.beq i k <;> rw [hb] at h
    · exact List.mem_cons_of_mem _ (lkp_mem h)
    · rw [← Nat.eq_of_beq_eq_true hb, ← Option.some.inj h]
      exact List.mem_cons_self
def p1v (st : List Value) (f : Value → List Value → Prop) : Prop := match st with
  | v :: r => bif cat1 v then f v r else False
  | _ => False
theorem p1v_e {st : List Value} {f : Value → List Value → Prop} (h : p1v st f) : ∃ v r, st = v :: r ∧ cat1 v = true ∧ f v r := by
  unfold p1v at h
  split at h
  · cases hc : cat1 ‹Value› <;> rw [hc] at h
    · exact h.elim
    · exact ⟨_, _, rfl, hc, h⟩
  · exact h.elim
def lki (lv : VL) (k : Nat) (f : Int32 → Prop) : Prop := match lk lv k with
  | some (.int x) => f x
  | _ => False
theorem lki_e {lv : VL} {k : Nat} {f : Int32 → Prop} (h : lki lv k f) : ∃ x, lk lv k = some (.int x) ∧ f x := by
  unfold lki at h
  split at h
  · exact ⟨_, by assumption, h⟩
  · exact h.elim
def lkl (lv : VL) (k : Nat) (f : Int64 → Prop) : Prop := match lk lv k with
  | some (.long x) => f x
  | _ => False
theorem lkl_e {lv : VL} {k : Nat} {f : Int64 → Prop} (h : lkl lv k f) : ∃ x, lk lv k = some (.long x) ∧ f x := by
  unfold lkl at h
  split at h
  · exact ⟨_, by assumption, h⟩
  · exact h.elim
def lkr (lv : VL) (k : Nat) (f : Nat → Prop) : Prop := match lk lv k with
  | some (.ref x) => f x
  | _ => False
theorem lkr_e {lv : VL} {k : Nat} {f : Nat → Prop} (h : lkr lv k f) : ∃ x, lk lv k = some (.ref x) ∧ f x := by
  unfold lkr at h
  split at h
  · exact ⟨_, by assumption, h⟩
  · exact h.elim
def onS {α : Type} (x : Option α) (f : α → Prop) : Prop := match x with
  | some a => f a
  | none => False
theorem onS_e {α : Type} {x : Option α} {f : α → Prop} (h : onS x f) : ∃ a, x = some a ∧ f a := by
  cases x with
  | none => exact h.elim
  | some a => exact ⟨a, rfl, h⟩
def onB (b : Bool) (p : Prop) : Prop := bif b then p else False
theorem onB_e {b : Bool} {p : Prop} (h : onB b p) : b = true ∧ p := by
  cases b with
  | false => exact h.elim
  | true => exact ⟨rfl, h⟩

def putK (ty : FieldType) (v : Int32) (p : Prop) : Prop := match ty with
  | .int => p
  | .boolean => nz v ∧ p
  | _ => False
def retI (ret : Option FieldType) (x : Int32) (p : Prop) : Prop := match ret with
  | some .int => p
  | some .boolean => nz x ∧ p
  | _ => False
def isLong (ret : Option FieldType) : Bool := match ret with
  | some .long => true
  | _ => false
def isObj (ret : Option FieldType) : Bool := match ret with
  | some (.object _) => true
  | _ => false
/-- one instruction -/
def sxs (w : Wd) (ft : Nat → Option (Nat × Nat)) (c32 : Nat → Option Int32) (c64 : Nat → Option Int64) (ce : Nat → Option (Nat × Option Nat × WP)) (sf : Nat → Option Bool) (ret : Option FieldType) (Q : Option Value → Sg → Prop) (K : Nat → VL → List Value → Sg → Prop) (pc : Nat) (i : Instr) (n : Nat) (lv : VL) (st : List Value) (σ : Sg) : Prop := match i with
  | .iconst v => K (pc + n) lv (.int (Int32.ofInt v) :: st) σ
  | .bipush v => K (pc + n) lv (.int (Int8.ofInt v).toInt32 :: st) σ
  | .sipush v => K (pc + n) lv (.int (Int16.ofInt v).toInt32 :: st) σ
  | .lconst v => K (pc + n) lv (.long (Int64.ofNat v) :: st) σ
  | .ldc x => onS (c32 x) (fun v => K (pc + n) lv (.int v :: st) σ)
  | .ldc2_w x => onS (c64 x) (fun v => K (pc + n) lv (.long v :: st) σ)
  | .iload_n k => lki lv k (fun x => K (pc + n) lv (.int x :: st) σ)
  | .iload k => lki lv k (fun x => K (pc + n) lv (.int x :: st) σ)
  | .lload_n k => lkl lv k (fun x => K (pc + n) lv (.long x :: st) σ)
  | .lload k => lkl lv k (fun x => K (pc + n) lv (.long x :: st) σ)
  | .aload_n k => lkr lv k (fun x => K (pc + n) lv (.ref x :: st) σ)
  | .aload k => lkr lv k (fun x => K (pc + n) lv (.ref x :: st) σ)
  | .istore_n k => p1i st (fun x r => K (pc + n) ((k, .int x) :: dl lv k) r σ)
  | .istore k => p1i st (fun x r => K (pc + n) ((k, .int x) :: dl lv k) r σ)
  | .astore_n k => p1r st (fun x r => K (pc + n) ((k, .ref x) :: dl lv k) r σ)
  | .astore k => p1r st (fun x r => K (pc + n) ((k, .ref x) :: dl lv k) r σ)
  | .lstore_n k => p1l st (fun x r => K (pc + n) ((k, .long x) :: dl2 lv k) r σ)
  | .lstore k => p1l st (fun x r => K (pc + n) ((k, .long x) :: dl2 lv k) r σ)
  | .iinc k v => lki lv k (fun x => K (pc + n) ((k, .int (x + Int32.ofInt v)) :: dl lv k) st σ)
  | .iadd => p2i st (fun y x r => K (pc + n) lv (.int (x + y) :: r) σ)
  | .isub => p2i st (fun y x r => K (pc + n) lv (.int (x - y) :: r) σ)
  | .imul => p2i st (fun y x r => K (pc + n) lv (.int (x * y) :: r) σ)
  | .iand => p2i st (fun y x r => K (pc + n) lv (.int (x &&& y) :: r) σ)
  | .ior => p2i st (fun y x r => K (pc + n) lv (.int (x ||| y) :: r) σ)
  | .ixor => p2i st (fun y x r => K (pc + n) lv (.int (x ^^^ y) :: r) σ)
  | .ishl => p2i st (fun y x r => K (pc + n) lv (.int (x <<< (y &&& 31)) :: r) σ)
  | .ishr => p2i st (fun y x r => K (pc + n) lv (.int (x >>> (y &&& 31)) :: r) σ)
  | .idiv => p2i st (fun y x r => ¬ y = 0 ∧ K (pc + n) lv (.int (x / y) :: r) σ)
  | .irem => p2i st (fun y x r => ¬ y = 0 ∧ K (pc + n) lv (.int (x - x / y * y) :: r) σ)
  | .ineg => p1i st (fun x r => K (pc + n) lv (.int (-x) :: r) σ)
  | .i2l => p1i st (fun x r => K (pc + n) lv (.long x.toInt64 :: r) σ)
  | .l2i => p1l st (fun x r => K (pc + n) lv (.int x.toInt32 :: r) σ)
  | .ladd => p2l st (fun y x r => K (pc + n) lv (.long (x + y) :: r) σ)
  | .lsub => p2l st (fun y x r => K (pc + n) lv (.long (x - y) :: r) σ)
  | .land => p2l st (fun y x r => K (pc + n) lv (.long (x &&& y) :: r) σ)
  | .lor => p2l st (fun y x r => K (pc + n) lv (.long (x ||| y) :: r) σ)
  | .lxor => p2l st (fun y x r => K (pc + n) lv (.long (x ^^^ y) :: r) σ)
  | .lneg => p1l st (fun x r => K (pc + n) lv (.long (-x) :: r) σ)
  | .lshl => pil st (fun y x r => K (pc + n) lv (.long (x <<< (y.toInt64 &&& 63)) :: r) σ)
  | .lushr => pil st (fun y x r => K (pc + n) lv (.long (x.toUInt64 >>> (y.toInt64.toUInt64 &&& Int64.toUInt64 63)).toInt64 :: r) σ)
  | .lcmp => p2l st (fun y x r => K (pc + n) lv (.int (lg_cmp x y) :: r) σ)
  | .dup => p1v st (fun v r => K (pc + n) lv (v :: v :: r) σ)
  | .dup2 => p1v st (fun v r1 => p1v r1 (fun u r => K (pc + n) lv (v :: u :: v :: u :: r) σ))
  | .pop => p1v st (fun _ r => K (pc + n) lv r σ)
  | .goto t => K t.toNat lv st σ
  | .ifCond .eq t => p1i st (fun x r => (x = 0 → K t.toNat lv r σ) ∧ (¬ x = 0 → K (pc + n) lv r σ))
  | .ifCond .ne t => p1i st (fun x r => (x = 0 → K (pc + n) lv r σ) ∧ (¬ x = 0 → K t.toNat lv r σ))
  | .ifCond .lt t => p1i st (fun x r => (x < 0 → K t.toNat lv r σ) ∧ (¬ x < 0 → K (pc + n) lv r σ))
  | .ifCond .ge t => p1i st (fun x r => (x < 0 → K (pc + n) lv r σ) ∧ (¬ x < 0 → K t.toNat lv r σ))
  | .ifCond .gt t => p1i st (fun x r => (0 < x → K t.toNat lv r σ) ∧ (¬ 0 < x → K (pc + n) lv r σ))
  | .ifCond .le t => p1i st (fun x r => (0 < x → K (pc + n) lv r σ) ∧ (¬ 0 < x → K t.toNat lv r σ))
  | .if_icmp .eq t => p2i st (fun y x r => (x = y → K t.toNat lv r σ) ∧ (¬ x = y → K (pc + n) lv r σ))
  | .if_icmp .ne t => p2i st (fun y x r => (x = y → K (pc + n) lv r σ) ∧ (¬ x = y → K t.toNat lv r σ))
  | .if_icmp .lt t => p2i st (fun y x r => (x < y → K t.toNat lv r σ) ∧ (¬ x < y → K (pc + n) lv r σ))
  | .if_icmp .ge t => p2i st (fun y x r => (x < y → K (pc + n) lv r σ) ∧ (¬ x < y → K t.toNat lv r σ))
  | .if_icmp .gt t => p2i st (fun y x r => (y < x → K t.toNat lv r σ) ∧ (¬ y < x → K (pc + n) lv r σ))
  | .if_icmp .le t => p2i st (fun y x r => (y < x → K (pc + n) lv r σ) ∧ (¬ y < x → K t.toNat lv r σ))
  | .lookupswitch d ps => p1i st (fun x r => onB ((ps.toList.zip (ps.toList.drop 1)).all (fun (a, next) => a.1 < next.1)) (swL (fun off => onB (decide (0 ≤ (pc : Int) + off)) (K ((pc : Int) + off).toNat lv r σ)) d ps.toList x))
  | .tableswitch d lo hi offs => p1i st (fun x r => onB (decide ((offs.size : Int) = hi - lo + 1)) (swT (fun off => onB (decide (0 ≤ (pc : Int) + off)) (K ((pc : Int) + off).toNat lv r σ)) d offs.toList lo x))
  | .getfield x => onS (ft x) (fun f => p1r st (fun a r => onB (isK w a f.1) (K (pc + n) lv (cV w σ (fty f.1 f.2) a f.2 :: r) σ)))
  | .putfield x => onS (ft x) (fun f => pir st (fun v a r => onB (!ffin f.1 f.2 && isK w a f.1) (putK (fty f.1 f.2) v (K (pc + n) lv r (sI σ a f.2 v)))))
  | .getstatic x => onS (sf x) (fun b => K (pc + n) lv ((bif b then .null else .float 0) :: st) σ)
  | .arraylength => pnl st (fun r => K (pc + n) lv (.int 6 :: r) σ) (p1r st (fun a r => onB (isA w a) (K (pc + n) lv (.int (nI (wN w a)) :: r) σ)))
  | .iaload => pfl st (fun j r => vp_in j 4 ∧ K (pc + n) lv (.int (inpL j.toNatClampNeg) :: r) σ) (pir st (fun j a r => onB (isK w a 20) (vp_in j (wN w a) ∧ K (pc + n) lv (.int (gI σ a j.toNatClampNeg) :: r) σ)))
  | .baload => pir st (fun j a r => onB (isK w a 21) (vp_in j (wN w a) ∧ K (pc + n) lv (.int (gI σ a j.toNatClampNeg) :: r) σ))
  | .laload => pnj st (fun j r => vp_in j 6 ∧ K (pc + n) lv (.long (onesL j.toNatClampNeg) :: r) σ) (pir st (fun j a r => onB (isK w a 22) (vp_in j (wN w a) ∧ K (pc + n) lv (.long (gL σ a j.toNatClampNeg) :: r) σ)))
  | .aaload => pir st (fun j a r => onB (isK w a 23 || isK w a 24) (vp_in j (wN w a) ∧ K (pc + n) lv (.ref (wR w a j.toNatClampNeg) :: r) σ))
  | .iastore => piir st (fun x j a r => onB (isK w a 20) (vp_in j (wN w a) ∧ K (pc + n) lv r (sI σ a j.toNatClampNeg x)))
  | .bastore => piir st (fun x j a r => onB (isK w a 21) (vp_in j (wN w a) ∧ K (pc + n) lv r (sI σ a j.toNatClampNeg (vp_nar .boolean x))))
  | .lastore => plir st (fun x j a r => onB (isK w a 22) (vp_in j (wN w a) ∧ K (pc + n) lv r (sL σ a j.toNatClampNeg x)))
  | .invokevirtual x => onS (ce x) (fun q => onS q.2.1 (fun ci => onS (popA q.1 [] st) (fun z => p1r z.1 (fun a As => onB (Nat.ble (catS z.2) 8 && isK w a ci) (q.2.2 (.ref a :: As) σ (fun v τ => K (pc + n) lv (v.toList ++ z.2) τ))))))
  | .invokestatic x => onS (ce x) (fun q => onB q.2.1.isNone (onS (popA q.1 [] st) (fun z => onB (Nat.ble (catS z.2) 8) (q.2.2 z.1 σ (fun v τ => K (pc + n) lv (v.toList ++ z.2) τ)))))
  | .ireturn => p1i st (fun x r => onB r.isEmpty (retI ret x (Q (some (.int x)) σ)))
  | .lreturn => p1l st (fun x r => onB (r.isEmpty && isLong ret) (Q (some (.long x)) σ))
  | .areturn => p1r st (fun a r => onB (r.isEmpty && isObj ret) (Q (some (.ref a)) σ))
  | .return_ => onB (st.isEmpty && ret.isNone) (Q none σ)
  | _ => False
/-- from a place to the next label -/
def sx (w : Wd) (ft : Nat → Option (Nat × Nat)) (c32 : Nat → Option Int32) (c64 : Nat → Option Int64) (ce : Nat → Option (Nat × Option Nat × WP)) (sf : Nat → Option Bool) (ret : Option FieldType) (tab : Tab) (lab : Nat → Option (List Nat)) (P : Nat → List Value → Sg → Prop) (Q : Option Value → Sg → Prop) : Nat → Nat → VL → List Value → Sg → Prop
  | 0, _, _, _, _ => False
  | f + 1, pc, lv, st, σ => match lab pc with
    | some ids => onB st.isEmpty (onS (pickL lv ids) (fun vs => P pc vs σ))
    | none => onS (tab pc) (fun q => sxs w ft c32 c64 ce sf ret Q (sx w ft c32 c64 ce sf ret tab lab P Q f) pc q.1 q.2 lv st σ)
/-- a label's body -/
def sxb (w : Wd) (ft : Nat → Option (Nat × Nat)) (c32 : Nat → Option Int32) (c64 : Nat → Option Int64) (ce : Nat → Option (Nat × Option Nat × WP)) (sf : Nat → Option Bool) (ret : Option FieldType) (tab : Tab) (lab : Nat → Option (List Nat)) (P : Nat → List Value → Sg → Prop) (Q : Option Value → Sg → Prop) (f : Nat) (pc : Nat) (vs : List Value) (σ : Sg) : Prop :=
  onS (lab pc) (fun ids => onS (tab pc) (fun q => sxs w ft c32 c64 ce sf ret Q (sx w ft c32 c64 ce sf ret tab lab P Q f) pc q.1 q.2 (zipL ids vs) [] σ))
/-- a method -/
def sxm (w : Wd) (ft : Nat → Option (Nat × Nat)) (c32 : Nat → Option Int32) (c64 : Nat → Option Int64) (ce : Nat → Option (Nat × Option Nat × WP)) (sf : Nat → Option Bool) (ret : Option FieldType) (tab : Tab) (lab : Nat → Option (List Nat)) (f : Nat) : WP := fun As σ Q =>
  ∀ P : Nat → List Value → Sg → Prop, (∀ pc vs τ, sxb w ft c32 c64 ce sf ret tab lab P Q f pc vs τ → P pc vs τ) → sx w ft c32 c64 ce sf ret tab lab P Q f 0 (arg0 0 As) [] σ
end
section
/-! SOUNDNESS of the executor over the machine -/
def rel (ad : Nat → Nat) (lv : VL) : VL := lv.map (fun q => (q.1, vr ad q.2))
theorem lk_mem : ∀ {lv : VL} {k : Nat} {v : Value}, lk lv k = some v → (k, v) ∈ lv
  | [], _, _, h => by cases h
  | (i, u) :: r, k, v, h => by
    unfold lk at h
    cases hb : Nat.beq i k <;> rw [hb] at h
    · exact List.mem_cons_of_mem _ (lk_mem h)
    · rw [← Nat.eq_of_beq_eq_true hb, ← Option.some.inj h]
      exact List.mem_cons_self
theorem rel_mem {ad : Nat → Nat} {lv : VL} {k : Nat} {v : Value} (h : (k, v) ∈ lv) : (k, vr ad v) ∈ rel ad lv := List.mem_map.mpr ⟨(k, v), h, rfl⟩
theorem lk_has {ad : Nat → Nat} {ls : Array Slot} {nL : Nat} {lv : VL} {k : Nat} {v : Value} (hl : lv_has ls nL (rel ad lv)) (h : lk lv k = some v) : ls[k]? = some (.val (vr ad v)) := hl.2.2 _ (rel_mem (lk_mem h))
theorem cat1_cat (ad : Nat → Nat) (v : Value) : ((vr ad v).category == 2) = !cat1 v := by cases v <;> rfl
theorem beq_nat (a b : Nat) : (a == b) = Nat.beq a b := by rw [Bool.eq_iff_iff, Nat.beq_eq, beq_iff_eq]
theorem dl_cons (j i : Nat) (v : Value) (r : VL) : dl ((j, v) :: r) i = bif Nat.beq j i || (Nat.beq (j + 1) i && !cat1 v) then dl r i else (j, v) :: dl r i := rfl
theorem dl2_cons (j i : Nat) (v : Value) (r : VL) : dl2 ((j, v) :: r) i = bif Nat.beq j i || (Nat.beq j (i + 1) || (Nat.beq (j + 1) i && !cat1 v)) then dl2 r i else (j, v) :: dl2 r i := rfl
theorem dl_eq (ad : Nat → Nat) (i : Nat) : ∀ lv : VL, (rel ad lv).filter (fun q => !(q.1 == i) && !(q.1 + 1 == i && q.2.category == 2)) = rel ad (dl lv i)
  | [] => rfl
  | (j, v) :: r => by
    have ih := dl_eq ad i r
    show List.filter _ ((j, vr ad v) :: rel ad r) = _
    rw [List.filter_cons, ih, dl_cons]
    simp only [cat1_cat]
    simp only [beq_nat]
    cases Nat.beq j i <;> cases Nat.beq (j + 1) i <;> cases cat1 v <;> rfl
theorem dl2_eq (ad : Nat → Nat) (i : Nat) : ∀ lv : VL, (rel ad lv).filter (fun q => !(q.1 == i) && (!(q.1 == i + 1) && !(q.1 + 1 == i && q.2.category == 2))) = rel ad (dl2 lv i)
  | [] => rfl
  | (j, v) :: r => by
    have ih := dl2_eq ad i r
    show List.filter _ ((j, vr ad v) :: rel ad r) = _
    rw [List.filter_cons, ih, dl2_cons]
    simp only [cat1_cat]
    simp only [beq_nat]
    cases Nat.beq j i <;> cases Nat.beq j (i + 1) <;> cases Nat.beq (j + 1) i <;> cases cat1 v <;> rfl
theorem pick_zip {ad : Nat → Nat} {ls : Array Slot} {nL : Nat} {lv : VL} (hl : lv_has ls nL (rel ad lv)) : ∀ {ids : List Nat} {vs : List Value}, pickL lv ids = some vs → lv_has ls nL (rel ad (zipL ids vs))
  | [], vs, h => by
    unfold pickL at h
    cases h
    exact ⟨hl.1, hl.2.1, fun q hq => by cases hq⟩
  | i :: r, vs, h => by
    unfold pickL at h
    split at h
    · rename_i v us h1 h2
      cases h
      have ih := pick_zip hl h2
      refine ⟨hl.1, hl.2.1, fun q hq => ?_⟩
      rcases List.mem_cons.mp hq with e | e
      · rw [e]; exact lk_has hl h1
      · exact ih.2.2 q e
    · cases h
theorem popA_e : ∀ {n : Nat} {acc st : List Value} {z : List Value × List Value}, popA n acc st = some z → ∃ pre, pre.length = n ∧ st = pre ++ z.2 ∧ z.1 = pre.reverse ++ acc
  | 0, acc, st, z, h => by
    unfold popA at h
    cases h
    exact ⟨[], rfl, rfl, rfl⟩
  | n + 1, acc, [], z, h => by cases h
  | n + 1, acc, v :: st, z, h => by
    unfold popA at h
    obtain ⟨pre, h1, h2, h3⟩ := popA_e h
    exact ⟨v :: pre, by simp [h1], by simp [h2], by simp [h3]⟩
theorem catS_eq (ad : Nat → Nat) : ∀ r : List Value, ((r.map (vr ad)).map fun v => v.category).sum = catS r
  | [] => rfl
  | v :: r => by
    have ih := catS_eq ad r
    simp only [List.map_cons, List.sum_cons, ih, catS]
    cases v <;> rfl
def rmh (h : Nat) : Room := { frames := h, cells := 0, slots := 0, locals := 34 * h }
def Qg (w : Wd) (D : va_G) (aC : Nat → ClassId) (ad : Nat → Nat) (Q : Option Value → Sg → Prop) : Array Value → State → Outcome → State → Prop := fun _ st oc t =>
  (∃ (r : Option Value) (τ : Sg), oc = .returned (r.map (vr ad)) ∧ Q r τ ∧ Pic D aC w ad τ t.heap) ∧ va_F (AW w ad) st t
/-- a method's contract -/
def Con (l : Launch) (w : Wd) (y : MethodName) (cc : ByteArray) (maxL : Nat) (ret : Option FieldType) (h : Nat) (wp : WP) : Prop :=
  ∀ (D : va_G) (aC : Nat → ClassId) (ad : Nat → Nat), (∀ a b, a < wS w → b < wS w → ad a = ad b → a = b) → ∀ (σ : Sg) (As : List Value) (Q : Option Value → Sg → Prop),
    Met l y (Cond.code y cc maxL ret :: big) (rmh h) (va_Pc (As.map (vr ad)) (fun U => KK D aC ad (AW w ad) U U.heap ∧ Pic D aC w ad σ U.heap ∧ wp As σ Q)) (Qg w D aC ad Q) 0 0 (AW w ad)
theorem Con.mono {l : Launch} {w : Wd} {y : MethodName} {cc : ByteArray} {maxL : Nat} {ret : Option FieldType} {h : Nat} {wp wp' : WP} (C : Con l w y cc maxL ret h wp) (hw : ∀ As σ Q, wp' As σ Q → wp As σ Q) : Con l w y cc maxL ret h wp' := by
  intro D aC ad hj σ As Q
  intro p e ha hc hk s m args below hf happ hP hKK
  exact C D aC ad hj σ As Q p e ha hc hk s m args below hf happ ⟨hP.1, hP.2.1, hP.2.2.1, hw _ _ _ hP.2.2.2⟩ hKK
/-- what a pool entry of a method says -/
def ceOK (l : Launch) (w : Wd) (own : String) (h idx n : Nat) (oc : Option Nat) (wp : WP) : Prop := ∃ (y : MethodName) (cc : ByteArray) (maxL : Nat) (ret : Option FieldType) (hc : Nat), Con l w y cc maxL ret hc wp ∧ hc + 1 ≤ h ∧ maxL ≤ 15 ∧ Cond.code y cc maxL ret ∈ big ∧ Cond.initialized y.cls ∈ big ∧
  match oc with
  | some ci => Cond.methodLink own idx y ∈ big ∧ Cond.instanceMethod y ∈ big ∧ Cond.selects y.cls y y ∈ big ∧ (∃ T N, vwCl[ci]? = some (y.cls, T, N)) ∧ ci < 11 ∧ (y.cls ≠ "java/lang/invoke/MethodHandle" ∧ y.cls ≠ "java/lang/invoke/VarHandle" ∧ (parseMethodDescriptor y.desc).map (fun d => d.parameters.length) = some (n - 1))
  | none => (Cond.methodLink own idx y ∈ big ∨ Cond.methodLinkNest own idx y "FrameProver" ∈ nestW) ∧ Cond.static y ∈ big ∧ (y.cls ≠ "java/lang/invoke/MethodHandle" ∧ y.cls ≠ "java/lang/invoke/VarHandle" ∧ (parseMethodDescriptor y.desc).map (fun d => d.parameters.length) = some n)
theorem blindC {w : Wd} {D : va_G} {aC : Nat → ClassId} {ad : Nat → Nat} {σ : Sg} {av : List Value} {X : Prop} : FrameBlind (va_Pc av (fun U => KK D aC ad (AW w ad) U U.heap ∧ Pic D aC w ad σ U.heap ∧ X)) := by
  intro a U g mk ⟨h1, h2, h3, h4⟩
  exact ⟨h1, h2.blind g mk a, h3, h4⟩
section SND
variable {p : Program} {l : Launch} {e : Env} {R : Room} {s : State} {m : MethodId} {args : Array Value} {below : List Frame} {meth : Method} {c : Code} {H : Heap} {locs : List Loc} {cells slots : Nat} {QQ : State → Prop}
variable {cc : ByteArray} {pc : Nat} {ls : Array Slot} {D : va_G} {aC : Nat → ClassId} {ad : Nat → Nat} {w : Wd} {σ : Sg} {own : String} {H0 : Heap} {nL : Nat}
/-- behind a call -/
theorem pw_call {mc ms : Nat} {rest : List Value} {st0 : List Value} {a : Array Value} {Q' : Option Value → Sg → Prop} (hr : va_Run p l e R s m args below meth c H locs cells slots 0 0 (F0 m pc ls st0) rest (Qg w D aC ad Q' a) (AW w ad)) (hS : va_S (AW w ad) H0 H locs)
    (kk : ∀ (r : Option Value) (τ : Sg) (H1 : Heap) (locs1 : List Loc), Q' r τ → Pic D aC w ad τ H1 → va_S (AW w ad) H0 H1 locs1 → W p l e R s m args below meth c H1 locs1 cells slots QQ (F0 m (pc + 3) ls ((r.map (vr ad)).toList ++ rest))) : W p l e R s m args below meth c H locs cells slots QQ (F0 m pc ls st0) := by
  intro T hT X
  obtain ⟨v, st₀, t, T', L, h0, X', hL, e1, e2, ⟨⟨r, τ, hv, hq, hb⟩, hz, hk⟩, st⟩ := hr T hT X
  cases hv
  rw [h0] at hz hk
  obtain ⟨t2, a1, b1⟩ := kk r τ T'.heap (locs ++ L) hq (by rw [e1]; exact hb)
    ⟨Nat.le_trans hS.1 (by rw [e1]; exact hz), fun q h1 h2 => by rw [e1, hk q (Nat.lt_of_lt_of_le h1 hS.1) h2]; exact hS.2.1 q h1 h2, fun q hq => by
      rcases List.mem_append.mp hq with h | h
      · exact hS.2.2 q h
      · exact hL q h⟩ T' rfl X'
  exact ⟨t2, st t2 a1, b1⟩
theorem Pic.recv (hK : va_K D vwCl (tysA aC) s) (hP : Pic D aC w ad σ H) {a ci : Nat} (hk : isK w a ci = true) (hci : ci < 11) {C : String} {T : u_T} {N : Nat} (hc : vwCl[ci]? = some (C, T, N)) : ∃ cell : Cell, H[ad a]? = some cell ∧ cell.vm.isStatics = false ∧ s.vm.findClass C = some cell.cls := by
  have h0 := isK_1 hk
  obtain ⟨r, h1, cell, q1, q2, q3, -⟩ := (hP a (isK_2 hk)).1 (by rw [h0]; exact hci)
  rw [h0] at h1 q2
  exact ⟨cell, q1, by rw [q3]; rfl, by rw [q2]; exact (hK.1 ci _ hc).2.1⟩
/-- a call, whichever -/
theorem pw_inv {y0 : MethodName} {ml0 : Nat} {ret0 : Option FieldType} {h : Nat} (hx : p.tables.exec = Jvm.exec) (hb : c.code = cc) (hml : c.maxLocals = nL) (hown : s.vm.findClass own = some m.cls) (hts : ∀ x ∈ Cond.code y0 cc ml0 ret0 :: big, x.before args s = true) (hK : KK D aC ad (AW w ad) s s.heap) (hj : ∀ a b, a < wS w → b < wS w → ad a = ad b → a = b) (hP : Pic D aC w ad σ H) (hS : va_S (AW w ad) s.heap H locs) (hR : R = rmh h) (hsz : ls.size = nL) (hcs : cells = 0 ∧ slots = 0)
    {idx n : Nat} {oc : Option Nat} {wp : WP} (hce : ceOK l w own h idx n oc wp) {As rest : List Value} (hlen : As.length = n) (hcat : catS rest ≤ 8) {Q' : Option Value → Sg → Prop} (hw : wp As σ Q')
    (hdg : match oc with
      | some ci => decode cc pc = .ok (.invokevirtual idx, 3) ∧ ∃ a As', As = .ref a :: As' ∧ isK w a ci = true
      | none => decode cc pc = .ok (.invokestatic idx, 3))
    (kk : ∀ (r : Option Value) (τ : Sg) (H1 : Heap) (locs1 : List Loc), Q' r τ → Pic D aC w ad τ H1 → va_S (AW w ad) s.heap H1 locs1 → W p l e R s m args below meth c H1 locs1 cells slots QQ (F0 m (pc + 3) ls ((r.map (vr ad)).toList ++ rest.map (vr ad)))) : W p l e R s m args below meth c H locs cells slots QQ (F0 m pc ls ((As.map (vr ad)).reverse ++ rest.map (vr ad))) := by
  obtain ⟨y, yc, maxL, ret, hc, C, hh, hmx, hcode, hini, hk⟩ := hce
  obtain ⟨rfl, rfl⟩ := hcs
  subst hR
  have hG := big_good (y := y0) (cc := cc) (maxL := ml0) (ret := ret0) hcode
  have hM := C D aC ad hj σ As Q'
  have hbt : ∀ x ∈ big, x.before args s = true := fun x h => hts x (List.mem_cons_of_mem _ h)
  have hroom : (rmh hc).frames + 1 ≤ (rmh h).frames ∧ 8 + (maxL + 11) + (rmh hc).locals ≤ (rmh h).locals := by
    refine ⟨hh, ?_⟩
    show 8 + (maxL + 11) + 34 * hc ≤ 34 * h
    omega
  have hcat2 : 2 * (F0 m pc ls ((As.map (vr ad)).reverse ++ rest.map (vr ad))).monitorRoom + ((rest.map (vr ad)).map fun v => v.category).sum ≤ 8 := lv_room (by rw [catS_eq]; exact hcat)
  have hpre : ∀ U : State, U.heap = H → s.WarmedH U.vm → va_Pc (As.map (vr ad)) (fun U => KK D aC ad (AW w ad) U U.heap ∧ Pic D aC w ad σ U.heap ∧ wp As σ Q') (As.map (vr ad)).toArray U := fun U hU hW => ⟨rfl, hK.to hS hU hW, by rw [hU]; exact hP, hw⟩
  cases oc with
  | none =>
    obtain ⟨hl, hst, hd⟩ := hk
    rcases hl with hl | hl
    · exact pw_call (mc := 0) (ms := 0) (va_runS (As := As.map (vr ad)) (rest := rest.map (vr ad)) ⟨hx, hb, hml, hown, hts⟩ hM ⟨callB_of n hts hG rfl rfl rfl (hbt _ hini) (hbt _ hl) hd hroom, hbt _ hst⟩ ⟨blindC, hpre⟩ rfl (by simp [hlen]) hsz rfl hcat2 hdg ⟨Nat.zero_le _, Nat.zero_le _⟩) hS kk
    · exact pw_call (mc := 0) (ms := 0) (va_runSN (As := As.map (vr ad)) (rest := rest.map (vr ad)) (host := "FrameProver") ⟨hx, hb, hml, hown, hts⟩ hM ⟨va_cnB n hts hG rfl rfl rfl (hK.2.1 _ hl) (hbt _ hini) hd hroom, hbt _ hst, trivial⟩ ⟨blindC, hpre⟩ rfl (by simp [hlen]) hsz rfl hcat2 hdg ⟨Nat.zero_le _, Nat.zero_le _⟩) hS kk
  | some ci =>
    obtain ⟨hl, hin, hse, ⟨T, N, hcl⟩, hci, hd⟩ := hk
    obtain ⟨hdec, a, As', rfl, hka⟩ := hdg
    have hn1 : As'.length = n - 1 := by rw [← hlen]; simp
    have hstk : ((Value.ref a :: As').map (vr ad)).reverse ++ rest.map (vr ad) = (As'.map (vr ad)).reverse ++ .ref (ad a) :: rest.map (vr ad) := by simp [vr]
    rw [hstk] at hcat2 ⊢
    exact pw_call (mc := 0) (ms := 0) (va_runV (As := As'.map (vr ad)) (rest := rest.map (vr ad)) (C := y.cls) (b := ad a) ⟨hx, hb, hml, hown, hts⟩ hM ⟨callB_of (n - 1) hts hG rfl rfl rfl (hbt _ hini) (hbt _ hl) hd hroom, hbt _ hin, hbt _ hse⟩ ⟨blindC, hP.recv hK.1 hka hci hcl, hpre⟩ rfl (by simp [hn1]) hsz rfl hcat2 hdec ⟨Nat.zero_le _, Nat.zero_le _⟩) hS kk
end SND
end
section
/-! SOUNDNESS: each instruction -/
theorem ok_e {p : Prop} [Decidable p] {n k : Nat} {b : Bool} (h : ((decide p && Nat.beq n k) && b) = true) : (p ∧ n = k) ∧ b = true := by
  simp only [Bool.and_eq_true, decide_eq_true_eq, Nat.beq_eq] at h
  exact h
theorem ok_j {p q : Prop} [Decidable p] [Decidable q] {n k : Nat} (h : (decide p && decide q && Nat.beq n k) = true) : (p ∧ q) ∧ n = k := by
  simp only [Bool.and_eq_true, decide_eq_true_eq, Nat.beq_eq] at h
  exact h
theorem i_le_nlt {x y : Int32} (h : x ≤ y) : ¬ y < x := Int32.not_lt.mpr h
theorem i_nle_lt {x y : Int32} (h : ¬ x ≤ y) : y < x := Int32.not_le.mp h
theorem cat1_1 (ad : Nat → Nat) {v : Value} (h : cat1 v = true) : (vr ad v).category = 1 := by cases v <;> first | rfl | cases h
theorem map_tl (ad : Nat → Nat) (v : Option Value) (r : List Value) : (v.toList ++ r).map (vr ad) = (v.map (vr ad)).toList ++ r.map (vr ad) := by cases v <;> rfl
theorem putK_e {ty : FieldType} {v : Int32} {p : Prop} (h : putK ty v p) : (ty = .int ∨ (ty = .boolean ∧ nz v)) ∧ p := by
  unfold putK at h
  split at h
  · exact ⟨Or.inl rfl, h⟩
  · exact ⟨Or.inr ⟨rfl, h.1⟩, h.2⟩
  · exact h.elim
theorem retI_e {ret : Option FieldType} {x : Int32} {p : Prop} (h : retI ret x p) : (ret = some .int ∧ p) ∨ (ret = some .boolean ∧ nz x ∧ p) := by
  unfold retI at h
  split at h
  · exact Or.inl ⟨rfl, h⟩
  · exact Or.inr ⟨rfl, h⟩
  · exact h.elim
theorem isLong_e {ret : Option FieldType} (h : isLong ret = true) : ret = some .long := by
  unfold isLong at h
  split at h
  · rfl
  · cases h
theorem isObj_e {ret : Option FieldType} (h : isObj ret = true) : ∃ C, ret = some (.object C) := by
  unfold isObj at h
  split at h
  · exact ⟨_, rfl⟩
  · cases h
theorem swL_e {K : Int → Prop} {d : Int} : ∀ {ps : List (Int × Int)} {x : Int32}, swL K d ps x → K (Op.lookupswitch.offset ps d x.toInt)
  | [], x, h => h
  | (a, o) :: r, x, h => by
    unfold swL at h
    rw [Op.lookupswitch.offset_cons]
    cases hb : decide ((Int32.ofInt a).toInt = a) <;> rw [hb] at h
    · exact h.elim
    · have hb := of_decide_eq_true hb
      by_cases e : x = Int32.ofInt a
      · rw [if_pos (by rw [e]; exact hb.symm)]
        exact h.1 e
      · rw [if_neg (fun z => e (by rw [z]; exact (Int32.ofInt_toInt x).symm))]
        exact swL_e (h.2 e)
theorem swT_e {K : Int → Prop} {d : Int} : ∀ {l : List Int} {lo : Int} {x : Int32}, swT K d l lo x → (∃ (j : Nat) (o : Int), x.toInt = lo + j ∧ l[j]? = some o ∧ K o) ∨ ((x.toInt < lo ∨ lo + (l.length : Int) ≤ x.toInt) ∧ K d)
  | [], lo, x, h => Or.inr ⟨by simp only [List.length_nil]; omega, h⟩
  | o :: r, lo, x, h => by
    unfold swT at h
    cases hb : decide ((Int32.ofInt lo).toInt = lo) <;> rw [hb] at h
    · exact h.elim
    · have hb := of_decide_eq_true hb
      by_cases e : x = Int32.ofInt lo
      · exact Or.inl ⟨0, o, by rw [e, hb]; simp, rfl, h.1 e⟩
      · have hne : x.toInt ≠ lo := fun z => e (by rw [← z]; exact (Int32.ofInt_toInt x).symm)
        rcases swT_e (h.2 e) with ⟨j, o', h1, h2, h3⟩ | ⟨h1, h3⟩
        · exact Or.inl ⟨j + 1, o', by rw [h1]; omega, by simpa using h2, h3⟩
        · refine Or.inr ⟨?_, h3⟩
          simp only [List.length_cons]
          omega
set_option maxHeartbeats 4000000 in
set_option maxRecDepth 20000 in
theorem sxs_ok {p : Program} {l : Launch} {e : Env} {s : State} {m : MethodId} {args : Array Value} {below : List Frame} {meth : Method} {c : Code} {H : Heap} {locs : List Loc}
    {cc : ByteArray} {pc : Nat} {ls : Array Slot} {D : va_G} {aC : Nat → ClassId} {ad : Nat → Nat} {w : Wd} {σ : Sg} {own : String} {nL hh : Nat} {y0 : MethodName} {ml0 : Nat}
    {ft : Nat → Option (Nat × Nat)} {c32 : Nat → Option Int32} {c64 : Nat → Option Int64} {ce : Nat → Option (Nat × Option Nat × WP)} {sf : Nat → Option Bool} {ret : Option FieldType} {Q : Option Value → Sg → Prop} {K : Nat → VL → List Value → Sg → Prop}
    (hx : p.tables.exec = Jvm.exec) (hb : c.code = cc) (hml : c.maxLocals = nL) (hr : meth.sig.returnType = ret) (hlocks : meth.locks = false) (hown : s.vm.findClass own = some m.cls) (hts : ∀ x ∈ Cond.code y0 cc ml0 ret :: big, x.before args s = true) (hK : KK D aC ad (AW w ad) s s.heap) (hj : ∀ a b, a < wS w → b < wS w → ad a = ad b → a = b)
    (hft : ∀ x f, ft x = some f → ftOK own x f.1 f.2) (h32 : ∀ x v, c32 x = some v → Cond.constant own x v ∈ big) (h64 : ∀ x v, c64 x = some v → Cond.constantLong own x v ∈ big) (hce : ∀ x q, ce x = some q → ceOK l w own hh x q.1 q.2.1 q.2.2)
    (hsf : ∀ x b, sf x = some b → (bif b then Cond.fieldLink own x "FrameProver$StateSet" "ONES" "[J" else Cond.fieldLink own x "FrameProver$Machine" "INPUT_LANES" "[I") ∈ big)
    (hkK : ∀ (pc : Nat) (lv : VL) (st : List Value) (τ : Sg) (H : Heap) (locs : List Loc) (ls : Array Slot), lv_has ls nL (rel ad lv) → Pic D aC w ad τ H → va_S (AW w ad) s.heap H locs → K pc lv st τ → W p l e (rmh hh) s m args below meth c H locs 0 0 (MQ below (Qg w D aC ad Q) args s 0 0 (AW w ad)) (F0 m pc ls (st.map (vr ad))))
    {i : Instr} {n : Nat} {lv : VL} {st : List Value} (hok : okI cc nL pc i n = true) (hl : lv_has ls nL (rel ad lv)) (hP : Pic D aC w ad σ H) (hS : va_S (AW w ad) s.heap H locs) (h : sxs w ft c32 c64 ce sf ret Q K pc i n lv st σ) :
    W p l e (rmh hh) s m args below meth c H locs 0 0 (MQ below (Qg w D aC ad Q) args s 0 0 (AW w ad)) (F0 m pc ls (st.map (vr ad))) := by
  have hbt : ∀ x ∈ big, x.before args s = true := fun x h => hts x (List.mem_cons_of_mem _ h)
  cases i with
  | iconst v =>
    obtain ⟨⟨hd, hn⟩, hst⟩ := ok_e hok
    have hn : n = 1 := hn
    subst hn
    exact lv_iconst hx hb hd rfl (hkK _ _ _ _ _ _ _ hl hP hS h)
  | bipush v =>
    obtain ⟨⟨hd, hn⟩, hst⟩ := ok_e hok
    have hn : n = 2 := hn
    subst hn
    exact lv_bipush hx hb hd rfl (hkK _ _ _ _ _ _ _ hl hP hS h)
  | sipush v =>
    obtain ⟨⟨hd, hn⟩, hst⟩ := ok_e hok
    have hn : n = 3 := hn
    subst hn
    exact lv_sipush hx hb hd rfl (hkK _ _ _ _ _ _ _ hl hP hS h)
  | lconst v =>
    obtain ⟨⟨hd, hn⟩, hst⟩ := ok_e hok
    have hn : n = 1 := hn
    subst hn
    exact lv_lconst hx hb hd rfl (hkK _ _ _ _ _ _ _ hl hP hS h)
  | ldc x =>
    obtain ⟨⟨hd, hn⟩, hst⟩ := ok_e hok
    have hn : n = 2 := hn
    subst hn
    obtain ⟨v, hv, h⟩ := onS_e h
    exact lv_ldc hx hb hown (hbt _ (h32 _ _ hv)) hd (hkK _ _ _ _ _ _ _ hl hP hS h)
  | ldc2_w x =>
    obtain ⟨⟨hd, hn⟩, hst⟩ := ok_e hok
    have hn : n = 3 := hn
    subst hn
    obtain ⟨v, hv, h⟩ := onS_e h
    exact lv_ldc2 hx hb hown (hbt _ (h64 _ _ hv)) hd (hkK _ _ _ _ _ _ _ hl hP hS h)
  | iload_n k =>
    obtain ⟨⟨hd, hn⟩, hst⟩ := ok_e hok
    have hn : n = 1 := hn
    subst hn
    obtain ⟨x, hv, h⟩ := lki_e h
    exact lv_iload_n hx hb hd rfl (lk_has hl hv) (hkK _ _ _ _ _ _ _ hl hP hS h)
  | iload k =>
    obtain ⟨⟨hd, hn⟩, hst⟩ := ok_e hok
    have hn : n = 2 := hn
    subst hn
    obtain ⟨x, hv, h⟩ := lki_e h
    exact lv_iload hx hb hd (lk_has hl hv) (hkK _ _ _ _ _ _ _ hl hP hS h)
  | lload_n k =>
    obtain ⟨⟨hd, hn⟩, hst⟩ := ok_e hok
    have hn : n = 1 := hn
    subst hn
    obtain ⟨x, hv, h⟩ := lkl_e h
    exact lv_lload_n hx hb hd rfl (lk_has hl hv) (hkK _ _ _ _ _ _ _ hl hP hS h)
  | lload k =>
    obtain ⟨⟨hd, hn⟩, hst⟩ := ok_e hok
    have hn : n = 2 := hn
    subst hn
    obtain ⟨x, hv, h⟩ := lkl_e h
    exact lv_lload hx hb hd (lk_has hl hv) (hkK _ _ _ _ _ _ _ hl hP hS h)
  | aload_n k =>
    obtain ⟨⟨hd, hn⟩, hst⟩ := ok_e hok
    have hn : n = 1 := hn
    subst hn
    obtain ⟨x, hv, h⟩ := lkr_e h
    exact lv_aload_n hx hb hd rfl (lk_has hl hv) (hkK _ _ _ _ _ _ _ hl hP hS h)
  | aload k =>
    obtain ⟨⟨hd, hn⟩, hst⟩ := ok_e hok
    have hn : n = 2 := hn
    subst hn
    obtain ⟨x, hv, h⟩ := lkr_e h
    exact lv_aload hx hb hd (lk_has hl hv) (hkK _ _ _ _ _ _ _ hl hP hS h)
  | istore_n k =>
    obtain ⟨⟨hd, hn⟩, hst⟩ := ok_e hok
    have hn : n = 1 := hn
    subst hn
    obtain ⟨x, r, rfl, h⟩ := p1i_e h
    exact lv_istore_n (lv' := rel ad (((k : Nat), .int x) :: dl lv (k : Nat))) hx hb hd rfl hl (Nat.blt_eq.mp hst) (congrArg (fun z => ((k : Nat), Value.int x) :: z) (dl_eq ad (k : Nat) lv)) (fun ls hl => hkK _ _ _ _ _ _ _ hl hP hS h)
  | istore k =>
    obtain ⟨⟨hd, hn⟩, hst⟩ := ok_e hok
    have hn : n = 2 := hn
    subst hn
    obtain ⟨x, r, rfl, h⟩ := p1i_e h
    exact lv_istore (lv' := rel ad ((k, .int x) :: dl lv k)) hx hb hd hl (Nat.blt_eq.mp hst) (congrArg (fun z => (k, Value.int x) :: z) (dl_eq ad k lv)) (fun ls hl => hkK _ _ _ _ _ _ _ hl hP hS h)
  | astore_n k =>
    obtain ⟨⟨hd, hn⟩, hst⟩ := ok_e hok
    have hn : n = 1 := hn
    subst hn
    obtain ⟨x, r, rfl, h⟩ := p1r_e h
    exact lv_astore_n (lv' := rel ad (((k : Nat), .ref x) :: dl lv (k : Nat))) hx hb hd rfl hl (Nat.blt_eq.mp hst) (congrArg (fun z => ((k : Nat), Value.ref (ad x)) :: z) (dl_eq ad (k : Nat) lv)) (fun ls hl => hkK _ _ _ _ _ _ _ hl hP hS h)
  | astore k =>
    obtain ⟨⟨hd, hn⟩, hst⟩ := ok_e hok
    have hn : n = 2 := hn
    subst hn
    obtain ⟨x, r, rfl, h⟩ := p1r_e h
    exact lv_astore (lv' := rel ad ((k, .ref x) :: dl lv k)) hx hb hd hl (Nat.blt_eq.mp hst) (congrArg (fun z => (k, Value.ref (ad x)) :: z) (dl_eq ad k lv)) (fun ls hl => hkK _ _ _ _ _ _ _ hl hP hS h)
  | lstore_n k =>
    obtain ⟨⟨hd, hn⟩, hst⟩ := ok_e hok
    have hn : n = 1 := hn
    subst hn
    obtain ⟨x, r, rfl, h⟩ := p1l_e h
    exact lv_lstore_n (lv' := rel ad (((k : Nat), .long x) :: dl2 lv (k : Nat))) hx hb hd rfl hl (Nat.blt_eq.mp hst) (congrArg (fun z => ((k : Nat), Value.long x) :: z) (dl2_eq ad (k : Nat) lv)) (fun ls hl => hkK _ _ _ _ _ _ _ hl hP hS h)
  | lstore k =>
    obtain ⟨⟨hd, hn⟩, hst⟩ := ok_e hok
    have hn : n = 2 := hn
    subst hn
    obtain ⟨x, r, rfl, h⟩ := p1l_e h
    exact lv_lstore (lv' := rel ad ((k, .long x) :: dl2 lv k)) hx hb hd hl (Nat.blt_eq.mp hst) (congrArg (fun z => (k, Value.long x) :: z) (dl2_eq ad k lv)) (fun ls hl => hkK _ _ _ _ _ _ _ hl hP hS h)
  | iinc k v =>
    obtain ⟨⟨hd, hn⟩, hst⟩ := ok_e hok
    have hn : n = 3 := hn
    subst hn
    obtain ⟨x, hv, h⟩ := lki_e h
    obtain ⟨q, hq⟩ := List.getElem?_of_mem (rel_mem (ad := ad) (lk_mem hv))
    exact lv_iinc (lv' := rel ad ((k, .int (x + Int32.ofInt v)) :: dl lv k)) hx hb hd hl hq rfl (Nat.blt_eq.mp hst) (congrArg (fun z => (k, Value.int (x + Int32.ofInt v)) :: z) (dl_eq ad k lv)) (fun ls hl => hkK _ _ _ _ _ _ _ hl hP hS h)
  | iadd =>
    obtain ⟨⟨hd, hn⟩, hst⟩ := ok_e hok
    have hn : n = 1 := hn
    subst hn
    obtain ⟨y, x, r, rfl, h⟩ := p2i_e h
    exact lv_iadd hx hb hd (hkK _ _ _ _ _ _ _ hl hP hS h)
  | isub =>
    obtain ⟨⟨hd, hn⟩, hst⟩ := ok_e hok
    have hn : n = 1 := hn
    subst hn
    obtain ⟨y, x, r, rfl, h⟩ := p2i_e h
    exact lv_isub hx hb hd (hkK _ _ _ _ _ _ _ hl hP hS h)
  | imul =>
    obtain ⟨⟨hd, hn⟩, hst⟩ := ok_e hok
    have hn : n = 1 := hn
    subst hn
    obtain ⟨y, x, r, rfl, h⟩ := p2i_e h
    exact lv_imul hx hb hd (hkK _ _ _ _ _ _ _ hl hP hS h)
  | iand =>
    obtain ⟨⟨hd, hn⟩, hst⟩ := ok_e hok
    have hn : n = 1 := hn
    subst hn
    obtain ⟨y, x, r, rfl, h⟩ := p2i_e h
    exact lv_iand hx hb hd (hkK _ _ _ _ _ _ _ hl hP hS h)
  | ior =>
    obtain ⟨⟨hd, hn⟩, hst⟩ := ok_e hok
    have hn : n = 1 := hn
    subst hn
    obtain ⟨y, x, r, rfl, h⟩ := p2i_e h
    exact lv_ior hx hb hd (hkK _ _ _ _ _ _ _ hl hP hS h)
  | ixor =>
    obtain ⟨⟨hd, hn⟩, hst⟩ := ok_e hok
    have hn : n = 1 := hn
    subst hn
    obtain ⟨y, x, r, rfl, h⟩ := p2i_e h
    exact lv_ixor hx hb hd (hkK _ _ _ _ _ _ _ hl hP hS h)
  | ishl =>
    obtain ⟨⟨hd, hn⟩, hst⟩ := ok_e hok
    have hn : n = 1 := hn
    subst hn
    obtain ⟨y, x, r, rfl, h⟩ := p2i_e h
    exact lv_ishl hx hb hd (hkK _ _ _ _ _ _ _ hl hP hS h)
  | ishr =>
    obtain ⟨⟨hd, hn⟩, hst⟩ := ok_e hok
    have hn : n = 1 := hn
    subst hn
    obtain ⟨y, x, r, rfl, h⟩ := p2i_e h
    exact lv_ishr hx hb hd (hkK _ _ _ _ _ _ _ hl hP hS h)
  | idiv =>
    obtain ⟨⟨hd, hn⟩, hst⟩ := ok_e hok
    have hn : n = 1 := hn
    subst hn
    obtain ⟨y, x, r, rfl, h0, h⟩ := p2i_e h
    exact lv_idiv hx hb hd h0 (hkK _ _ _ _ _ _ _ hl hP hS h)
  | irem =>
    obtain ⟨⟨hd, hn⟩, hst⟩ := ok_e hok
    have hn : n = 1 := hn
    subst hn
    obtain ⟨y, x, r, rfl, h0, h⟩ := p2i_e h
    exact lv_irem hx hb hd h0 (hkK _ _ _ _ _ _ _ hl hP hS h)
  | ladd =>
    obtain ⟨⟨hd, hn⟩, hst⟩ := ok_e hok
    have hn : n = 1 := hn
    subst hn
    obtain ⟨y, x, r, rfl, h⟩ := p2l_e h
    exact lv_ladd hx hb hd (hkK _ _ _ _ _ _ _ hl hP hS h)
  | lsub =>
    obtain ⟨⟨hd, hn⟩, hst⟩ := ok_e hok
    have hn : n = 1 := hn
    subst hn
    obtain ⟨y, x, r, rfl, h⟩ := p2l_e h
    exact lv_lsub hx hb hd (hkK _ _ _ _ _ _ _ hl hP hS h)
  | land =>
    obtain ⟨⟨hd, hn⟩, hst⟩ := ok_e hok
    have hn : n = 1 := hn
    subst hn
    obtain ⟨y, x, r, rfl, h⟩ := p2l_e h
    exact lv_land hx hb hd (hkK _ _ _ _ _ _ _ hl hP hS h)
  | lor =>
    obtain ⟨⟨hd, hn⟩, hst⟩ := ok_e hok
    have hn : n = 1 := hn
    subst hn
    obtain ⟨y, x, r, rfl, h⟩ := p2l_e h
    exact lv_lor hx hb hd (hkK _ _ _ _ _ _ _ hl hP hS h)
  | lxor =>
    obtain ⟨⟨hd, hn⟩, hst⟩ := ok_e hok
    have hn : n = 1 := hn
    subst hn
    obtain ⟨y, x, r, rfl, h⟩ := p2l_e h
    exact lv_lxor hx hb hd (hkK _ _ _ _ _ _ _ hl hP hS h)
  | ineg =>
    obtain ⟨⟨hd, hn⟩, hst⟩ := ok_e hok
    have hn : n = 1 := hn
    subst hn
    obtain ⟨x, r, rfl, h⟩ := p1i_e h
    exact lv_ineg hx hb hd (hkK _ _ _ _ _ _ _ hl hP hS h)
  | lneg =>
    obtain ⟨⟨hd, hn⟩, hst⟩ := ok_e hok
    have hn : n = 1 := hn
    subst hn
    obtain ⟨x, r, rfl, h⟩ := p1l_e h
    exact lv_lneg hx hb hd (hkK _ _ _ _ _ _ _ hl hP hS h)
  | i2l =>
    obtain ⟨⟨hd, hn⟩, hst⟩ := ok_e hok
    have hn : n = 1 := hn
    subst hn
    obtain ⟨x, r, rfl, h⟩ := p1i_e h
    exact lv_i2l hx hb hd rfl (hkK _ _ _ _ _ _ _ hl hP hS h)
  | l2i =>
    obtain ⟨⟨hd, hn⟩, hst⟩ := ok_e hok
    have hn : n = 1 := hn
    subst hn
    obtain ⟨x, r, rfl, h⟩ := p1l_e h
    exact lv_l2i hx hb hd rfl (hkK _ _ _ _ _ _ _ hl hP hS h)
  | lshl =>
    obtain ⟨⟨hd, hn⟩, hst⟩ := ok_e hok
    have hn : n = 1 := hn
    subst hn
    obtain ⟨y, x, r, rfl, h⟩ := pil_e h
    exact lv_lshl hx hb hd rfl (hkK _ _ _ _ _ _ _ hl hP hS h)
  | lushr =>
    obtain ⟨⟨hd, hn⟩, hst⟩ := ok_e hok
    have hn : n = 1 := hn
    subst hn
    obtain ⟨y, x, r, rfl, h⟩ := pil_e h
    exact lv_lushr hx hb hd rfl (hkK _ _ _ _ _ _ _ hl hP hS h)
  | lcmp =>
    obtain ⟨⟨hd, hn⟩, hst⟩ := ok_e hok
    have hn : n = 1 := hn
    subst hn
    obtain ⟨y, x, r, rfl, h⟩ := p2l_e h
    exact W.lcmp hx hb hd (hkK _ _ _ _ _ _ _ hl hP hS h)
  | dup =>
    obtain ⟨⟨hd, hn⟩, hst⟩ := ok_e hok
    have hn : n = 1 := hn
    subst hn
    obtain ⟨v, r, rfl, hc, h⟩ := p1v_e h
    exact lv_dup hx hb hd (cat1_1 ad hc) (hkK _ _ _ _ _ _ _ hl hP hS h)
  | dup2 =>
    obtain ⟨⟨hd, hn⟩, hst⟩ := ok_e hok
    have hn : n = 1 := hn
    subst hn
    obtain ⟨v, r1, rfl, hc, h⟩ := p1v_e h
    obtain ⟨u, r, rfl, hc2, h⟩ := p1v_e h
    exact lv_dup2_11 hx hb hd (cat1_1 ad hc) (cat1_1 ad hc2) (hkK _ _ _ _ _ _ _ hl hP hS h)
  | pop =>
    obtain ⟨⟨hd, hn⟩, hst⟩ := ok_e hok
    have hn : n = 1 := hn
    subst hn
    obtain ⟨v, r, rfl, hc, h⟩ := p1v_e h
    exact lv_pop hx hb hd (cat1_1 ad hc) (hkK _ _ _ _ _ _ _ hl hP hS h)
  | goto t =>
    obtain ⟨⟨ht, hd⟩, hn⟩ := ok_j hok
    exact lv_goto (tgt := t.toNat) hx hb hd (by omega) (hkK _ _ _ _ _ _ _ hl hP hS h)
  | ifCond k t =>
    obtain ⟨⟨ht, hd⟩, hn⟩ := ok_j hok
    subst hn
    cases k with
    | eq =>
      obtain ⟨x, r, rfl, h⟩ := p1i_e h
      exact lv_if_eq (tgt := t.toNat) hx hb hd (by omega) (fun q => (hkK _ _ _ _ _ _ _ hl hP hS (h.1 q))) (fun q => (hkK _ _ _ _ _ _ _ hl hP hS (h.2 q)))
    | ne =>
      obtain ⟨x, r, rfl, h⟩ := p1i_e h
      exact lv_if_ne (tgt := t.toNat) hx hb hd (by omega) (fun q => (hkK _ _ _ _ _ _ _ hl hP hS (h.2 q))) (fun q => (hkK _ _ _ _ _ _ _ hl hP hS (h.1 q)))
    | lt =>
      obtain ⟨x, r, rfl, h⟩ := p1i_e h
      exact lv_if_lt (tgt := t.toNat) hx hb hd (by omega) (fun q => (hkK _ _ _ _ _ _ _ hl hP hS (h.1 q))) (fun q => (hkK _ _ _ _ _ _ _ hl hP hS (h.2 q)))
    | ge =>
      obtain ⟨x, r, rfl, h⟩ := p1i_e h
      exact lv_if_ge (tgt := t.toNat) hx hb hd (by omega) (fun q => (hkK _ _ _ _ _ _ _ hl hP hS (h.2 (i_le_nlt q)))) (fun q => (hkK _ _ _ _ _ _ _ hl hP hS (h.1 (i_nle_lt q))))
    | gt =>
      obtain ⟨x, r, rfl, h⟩ := p1i_e h
      exact lv_if_gt (tgt := t.toNat) hx hb hd (by omega) (fun q => (hkK _ _ _ _ _ _ _ hl hP hS (h.1 q))) (fun q => (hkK _ _ _ _ _ _ _ hl hP hS (h.2 q)))
    | le =>
      obtain ⟨x, r, rfl, h⟩ := p1i_e h
      exact lv_if_le (tgt := t.toNat) hx hb hd (by omega) (fun q => (hkK _ _ _ _ _ _ _ hl hP hS (h.2 (i_le_nlt q)))) (fun q => (hkK _ _ _ _ _ _ _ hl hP hS (h.1 (i_nle_lt q))))
  | if_icmp k t =>
    obtain ⟨⟨ht, hd⟩, hn⟩ := ok_j hok
    subst hn
    cases k with
    | eq =>
      obtain ⟨y, x, r, rfl, h⟩ := p2i_e h
      exact lv_icmp_eq (tgt := t.toNat) hx hb hd (by omega) (fun q => (hkK _ _ _ _ _ _ _ hl hP hS (h.1 q))) (fun q => (hkK _ _ _ _ _ _ _ hl hP hS (h.2 q)))
    | ne =>
      obtain ⟨y, x, r, rfl, h⟩ := p2i_e h
      exact lv_icmp_ne (tgt := t.toNat) hx hb hd (by omega) (fun q => (hkK _ _ _ _ _ _ _ hl hP hS (h.2 q))) (fun q => (hkK _ _ _ _ _ _ _ hl hP hS (h.1 q)))
    | lt =>
      obtain ⟨y, x, r, rfl, h⟩ := p2i_e h
      exact lv_icmp_lt (tgt := t.toNat) hx hb hd (by omega) (fun q => (hkK _ _ _ _ _ _ _ hl hP hS (h.1 q))) (fun q => (hkK _ _ _ _ _ _ _ hl hP hS (h.2 q)))
    | ge =>
      obtain ⟨y, x, r, rfl, h⟩ := p2i_e h
      exact lv_icmp_ge (tgt := t.toNat) hx hb hd (by omega) (fun q => (hkK _ _ _ _ _ _ _ hl hP hS (h.2 (i_le_nlt q)))) (fun q => (hkK _ _ _ _ _ _ _ hl hP hS (h.1 (i_nle_lt q))))
    | gt =>
      obtain ⟨y, x, r, rfl, h⟩ := p2i_e h
      exact lv_icmp_gt (tgt := t.toNat) hx hb hd (by omega) (fun q => (hkK _ _ _ _ _ _ _ hl hP hS (h.1 q))) (fun q => (hkK _ _ _ _ _ _ _ hl hP hS (h.2 q)))
    | le =>
      obtain ⟨y, x, r, rfl, h⟩ := p2i_e h
      exact lv_icmp_le (tgt := t.toNat) hx hb hd (by omega) (fun q => (hkK _ _ _ _ _ _ _ hl hP hS (h.2 (i_le_nlt q)))) (fun q => (hkK _ _ _ _ _ _ _ hl hP hS (h.1 (i_nle_lt q))))
  | lookupswitch d ps =>
    have hd := of_decide_eq_true hok
    obtain ⟨x, r, rfl, h⟩ := p1i_e h
    obtain ⟨hs, h⟩ := onB_e h
    have h1 := swL_e h
    obtain ⟨h2, h3⟩ := onB_e h1
    exact lv_lookup (tgt := ((pc : Int) + Op.lookupswitch.offset ps.toList d x.toInt).toNat) hx hb hd hs rfl (Int.toNat_of_nonneg (of_decide_eq_true h2)).symm (hkK _ _ _ _ _ _ _ hl hP hS (h3))
  | tableswitch d lo hi offs =>
    have hd := of_decide_eq_true hok
    obtain ⟨x, r, rfl, h⟩ := p1i_e h
    obtain ⟨hs, h⟩ := onB_e h
    have hs := of_decide_eq_true hs
    rcases swT_e h with ⟨j, o, h1, h2, h3⟩ | ⟨h1, h3⟩
    · obtain ⟨h4, h5⟩ := onB_e h3
      have hj : j < offs.size := by simpa using (List.getElem?_eq_some_iff.mp h2).1
      refine lv_tableIn (off := o) (tgt := ((pc : Int) + o).toNat) hx hb hd (by omega) (by omega) ?_ (Int.toNat_of_nonneg (of_decide_eq_true h4)).symm (hkK _ _ _ _ _ _ _ hl hP hS (h5))
      rw [show (x.toInt - lo).toNat = j by omega, ← h2, Array.getElem?_toList]
    · obtain ⟨h4, h5⟩ := onB_e h3
      exact lv_tableOut (tgt := ((pc : Int) + d).toNat) hx hb hd (by simp only [Array.length_toList] at h1; omega) (Int.toNat_of_nonneg (of_decide_eq_true h4)).symm (hkK _ _ _ _ _ _ _ hl hP hS (h5))
  | getfield x =>
    obtain ⟨⟨hd, hn⟩, hst⟩ := ok_e hok
    have hn : n = 3 := hn
    subst hn
    obtain ⟨f, hf, h⟩ := onS_e h
    obtain ⟨a, r, rfl, h⟩ := p1r_e h
    obtain ⟨hk, h⟩ := onB_e h
    exact pw_get hx hb hbt hown hK.1 hP (hft _ _ hf) (isK_1 hk) (isK_2 hk) hd (hkK _ _ _ _ _ _ _ hl hP hS h)
  | putfield x =>
    obtain ⟨⟨hd, hn⟩, hst⟩ := ok_e hok
    have hn : n = 3 := hn
    subst hn
    obtain ⟨f, hf, h⟩ := onS_e h
    obtain ⟨v, a, r, rfl, h⟩ := pir_e h
    obtain ⟨hk, h⟩ := onB_e h
    rw [Bool.and_eq_true] at hk
    obtain ⟨hty, h⟩ := putK_e h
    exact pw_put hx hb hbt hown hK.1 hP hj hS (hft _ _ hf) (by simpa using hk.1) (isK_1 hk.2) (isK_2 hk.2) hty hd (fun H1 locs1 hP hS => hkK _ _ _ _ _ _ _ hl hP hS h)
  | getstatic x =>
    obtain ⟨⟨hd, hn⟩, hst⟩ := ok_e hok
    have hn : n = 3 := hn
    subst hn
    obtain ⟨a, ha, h⟩ := onS_e h
    have hs1 := hsf _ _ ha
    cases a with
    | false =>
      exact va_gets hx hb hK.2.2.1.1 hS hown (hbt _ hs1) (fun _ z => z) hd (hkK _ _ _ _ _ _ _ hl hP hS h)
    | true =>
      exact va_gets hx hb hK.2.2.2.1 hS hown (hbt _ hs1) (fun _ z => z) hd (hkK _ _ _ _ _ _ _ hl hP hS h)
  | arraylength =>
    obtain ⟨⟨hd, hn⟩, hst⟩ := ok_e hok
    have hn : n = 1 := hn
    subst hn
    rcases pnl_e h with ⟨r, rfl, h2⟩ | h2
    · exact va_tlen hx hb hK.2.2.2.2 hS rfl hd (hkK _ _ _ _ _ _ _ hl hP hS h2)
    · obtain ⟨a, r, rfl, h3⟩ := p1r_e h2
      obtain ⟨hk, h4⟩ := onB_e h3
      simp only [isA, Bool.and_eq_true, Nat.ble_eq, Nat.blt_eq] at hk
      exact pw_alen hx hb hK.1 hP hk.1 hk.2.1 hk.2.2 hd (hkK _ _ _ _ _ _ _ hl hP hS h4)
  | baload =>
    obtain ⟨⟨hd, hn⟩, hst⟩ := ok_e hok
    have hn : n = 1 := hn
    subst hn
    obtain ⟨j, a, r, rfl, h2⟩ := pir_e h
    obtain ⟨hk, h9, h3⟩ := onB_e h2
    exact pw_zald hx hb hK.1 hP hk h9 hd (hkK _ _ _ _ _ _ _ hl hP hS h3)
  | iaload =>
    obtain ⟨⟨hd, hn⟩, hst⟩ := ok_e hok
    have hn : n = 1 := hn
    subst hn
    rcases pfl_e h with ⟨j, t, r, rfl, h9, h2⟩ | h2
    · exact va_ti hx hb hK.2.2.1.2 hS h9 rfl hd (hkK _ _ _ _ _ _ _ hl hP hS h2)
    · obtain ⟨j, a, r, rfl, h3⟩ := pir_e h2
      obtain ⟨hk, h9, h4⟩ := onB_e h3
      exact pw_iald hx hb hK.1 hP hk h9 hd (hkK _ _ _ _ _ _ _ hl hP hS h4)
  | laload =>
    obtain ⟨⟨hd, hn⟩, hst⟩ := ok_e hok
    have hn : n = 1 := hn
    subst hn
    rcases pnj_e h with ⟨j, r, rfl, h9, h2⟩ | h2
    · exact va_tl hx hb hK.2.2.2.2 hS h9 rfl hd (hkK _ _ _ _ _ _ _ hl hP hS h2)
    · obtain ⟨j, a, r, rfl, h3⟩ := pir_e h2
      obtain ⟨hk, h9, h4⟩ := onB_e h3
      exact pw_lald hx hb hK.1 hP hk h9 hd (hkK _ _ _ _ _ _ _ hl hP hS h4)
  | aaload =>
    obtain ⟨⟨hd, hn⟩, hst⟩ := ok_e hok
    have hn : n = 1 := hn
    subst hn
    obtain ⟨j, a, r, rfl, h⟩ := pir_e h
    obtain ⟨hk, h9, h⟩ := onB_e h
    rcases Bool.or_eq_true _ _ ▸ hk with hk | hk
    · exact pw_aald3 hx hb hK.1 hP hk h9 hd (hkK _ _ _ _ _ _ _ hl hP hS h)
    · exact pw_aald4 hx hb hK.1 hP hk h9 hd (hkK _ _ _ _ _ _ _ hl hP hS h)
  | iastore =>
    obtain ⟨⟨hd, hn⟩, hst⟩ := ok_e hok
    have hn : n = 1 := hn
    subst hn
    obtain ⟨x, j, a, r, rfl, h⟩ := piir_e h
    obtain ⟨hk, h9, h⟩ := onB_e h
    exact pw_iast hx hb hK.1 hP hj hS hk h9 hd (fun H1 locs1 hP hS => hkK _ _ _ _ _ _ _ hl hP hS h)
  | bastore =>
    obtain ⟨⟨hd, hn⟩, hst⟩ := ok_e hok
    have hn : n = 1 := hn
    subst hn
    obtain ⟨x, j, a, r, rfl, h⟩ := piir_e h
    obtain ⟨hk, h9, h⟩ := onB_e h
    exact pw_zast hx hb hK.1 hP hj hS hk h9 hd (fun H1 locs1 hP hS => hkK _ _ _ _ _ _ _ hl hP hS h)
  | lastore =>
    obtain ⟨⟨hd, hn⟩, hst⟩ := ok_e hok
    have hn : n = 1 := hn
    subst hn
    obtain ⟨x, j, a, r, rfl, h⟩ := plir_e h
    obtain ⟨hk, h9, h⟩ := onB_e h
    exact pw_last hx hb hK.1 hP hj hS hk h9 hd (fun H1 locs1 hP hS => hkK _ _ _ _ _ _ _ hl hP hS h)
  | invokevirtual x =>
    obtain ⟨⟨hd, hn⟩, hst⟩ := ok_e hok
    have hn : n = 3 := hn
    subst hn
    obtain ⟨q, hq, h⟩ := onS_e h
    obtain ⟨ci, hci, h⟩ := onS_e h
    obtain ⟨z, hz, h⟩ := onS_e h
    obtain ⟨a, As, hz1, h⟩ := p1r_e h
    obtain ⟨hk, h⟩ := onB_e h
    rw [Bool.and_eq_true] at hk
    obtain ⟨pre, e1, e2, e3⟩ := popA_e hz
    have hst2 : st.map (vr ad) = ((Value.ref a :: As).map (vr ad)).reverse ++ z.2.map (vr ad) := by
      rw [e2, List.map_append, ← List.map_reverse, ← hz1, e3]
      simp
    rw [hst2]
    have hq2 := hce _ _ hq
    rw [hci] at hq2
    exact pw_inv (y0 := y0) (ml0 := ml0) (ret0 := ret) (h := hh) hx hb hml hown hts hK hj hP hS rfl hl.1 ⟨rfl, rfl⟩ hq2 (by rw [← hz1, e3]; simp [e1]) (Nat.le_of_ble_eq_true hk.1) h ⟨hd, a, As, rfl, hk.2⟩ (fun v τ H1 locs1 h hP hS => by have h2 := hkK _ _ _ _ _ _ _ hl hP hS h; rw [map_tl] at h2; exact h2)
  | invokestatic x =>
    obtain ⟨⟨hd, hn⟩, hst⟩ := ok_e hok
    have hn : n = 3 := hn
    subst hn
    obtain ⟨q, hq, h⟩ := onS_e h
    obtain ⟨hn, h⟩ := onB_e h
    obtain ⟨z, hz, h⟩ := onS_e h
    obtain ⟨hk, h⟩ := onB_e h
    obtain ⟨pre, e1, e2, e3⟩ := popA_e hz
    have hst2 : st.map (vr ad) = (z.1.map (vr ad)).reverse ++ z.2.map (vr ad) := by
      rw [e2, List.map_append, ← List.map_reverse, e3]
      simp
    rw [hst2]
    have hq2 := hce _ _ hq
    rw [Option.isNone_iff_eq_none.mp hn] at hq2
    exact pw_inv (y0 := y0) (ml0 := ml0) (ret0 := ret) (h := hh) hx hb hml hown hts hK hj hP hS rfl hl.1 ⟨rfl, rfl⟩ hq2 (by rw [e3]; simp [e1]) (Nat.le_of_ble_eq_true hk) h hd (fun v τ H1 locs1 h hP hS => by have h2 := hkK _ _ _ _ _ _ _ hl hP hS h; rw [map_tl] at h2; exact h2)
  | ireturn =>
    obtain ⟨⟨hd, hn⟩, hst⟩ := ok_e hok
    have hn : n = 1 := hn
    subst hn
    obtain ⟨x, r, rfl, h⟩ := p1i_e h
    obtain ⟨hr0, h⟩ := onB_e h
    have hr0 := List.isEmpty_iff.mp hr0
    subst hr0
    rcases retI_e h with ⟨hr1, h⟩ | ⟨hr1, h0, h⟩
    · exact W.iret hx hb (hr.trans hr1) (fun t ht hW => ⟨⟨some (.int x), σ, rfl, h, by rw [ht]; exact hP⟩, hS.F ht⟩) hS.2.2 hd hlocks
    · exact W.zret hx hb (hr.trans hr1) (by rcases h0 with rfl | rfl <;> rfl) (fun t ht hW => ⟨⟨some (.int x), σ, rfl, h, by rw [ht]; exact hP⟩, hS.F ht⟩) hS.2.2 hd hlocks
  | lreturn =>
    obtain ⟨⟨hd, hn⟩, hst⟩ := ok_e hok
    have hn : n = 1 := hn
    subst hn
    replace h := p1l_e h
    obtain ⟨x, r, rfl, h⟩ := h
    replace h := onB_e h
    obtain ⟨hr0, h⟩ := h
    rw [Bool.and_eq_true] at hr0
    have hr1 := List.isEmpty_iff.mp hr0.1
    subst hr1
    exact W.lret hx hb (hr.trans (isLong_e hr0.2)) (fun t ht hW => ⟨⟨some (.long x), σ, rfl, h, by rw [ht]; exact hP⟩, hS.F ht⟩) hS.2.2 hd hlocks
  | areturn =>
    obtain ⟨⟨hd, hn⟩, hst⟩ := ok_e hok
    have hn : n = 1 := hn
    subst hn
    replace h := p1r_e h
    obtain ⟨a, r, rfl, h⟩ := h
    replace h := onB_e h
    obtain ⟨hr0, h⟩ := h
    rw [Bool.and_eq_true] at hr0
    have hr1 := List.isEmpty_iff.mp hr0.1
    subst hr1
    obtain ⟨C, hC⟩ := isObj_e hr0.2
    exact W.aret hx hb (hr.trans hC) (Or.inl ⟨C, rfl⟩) (Or.inr ⟨ad a, rfl⟩) (fun t ht hW => ⟨⟨some (.ref a), σ, rfl, h, by rw [ht]; exact hP⟩, hS.F ht⟩) hS.2.2 hd hlocks
  | return_ =>
    obtain ⟨⟨hd, hn⟩, hst⟩ := ok_e hok
    have hn : n = 1 := hn
    subst hn
    replace h := onB_e h
    obtain ⟨hr0, h⟩ := h
    rw [Bool.and_eq_true] at hr0
    have hr1 := List.isEmpty_iff.mp hr0.1
    subst hr1
    exact W.vret hx hb (hr.trans (Option.isNone_iff_eq_none.mp hr0.2)) (fun t ht hW => ⟨⟨none, σ, rfl, h, by rw [ht]; exact hP⟩, hS.F ht⟩) hS.2.2 hd hlocks
  | _ => exact False.elim h
end
section
theorem lg_len (ad : Nat → Nat) : ∀ As : List Value, (lg_sl (As.map (vr ad))).length = (lg_sl As).length
  | [] => rfl
  | v :: r => by
    have ih := lg_len ad r
    cases v <;> simp_all [lg_sl, vr, Value.category]
theorem lv_args_rel (ad : Nat → Nat) : ∀ (As : List Value) (k : Nat), lv_args k (As.map (vr ad)) = rel ad (arg0 k As)
  | [], _ => rfl
  | v :: r, k => by
    have e : (if (vr ad v).category = 2 then k + 2 else k + 1) = (bif cat1 v then k + 1 else k + 2) := by cases v <;> rfl
    show (k, vr ad v) :: lv_args (if (vr ad v).category = 2 then k + 2 else k + 1) (r.map (vr ad)) = (k, vr ad v) :: rel ad (arg0 (bif cat1 v then k + 1 else k + 2) r)
    rw [e, lv_args_rel ad r]
set_option maxHeartbeats 4000000 in
/-- from a place on, given the labels -/
theorem sx_ok {p : Program} {l : Launch} {e : Env} {s : State} {m : MethodId} {args : Array Value} {below : List Frame} {meth : Method} {c : Code}
    {cc : ByteArray} {D : va_G} {aC : Nat → ClassId} {ad : Nat → Nat} {w : Wd} {own : String} {nL hh : Nat} {y0 : MethodName} {ml0 : Nat}
    {ft : Nat → Option (Nat × Nat)} {c32 : Nat → Option Int32} {c64 : Nat → Option Int64} {ce : Nat → Option (Nat × Option Nat × WP)} {sf : Nat → Option Bool} {ret : Option FieldType} {Q : Option Value → Sg → Prop} {tab : Tab} {lab : Nat → Option (List Nat)} {P : Nat → List Value → Sg → Prop}
    (hx : p.tables.exec = Jvm.exec) (hb : c.code = cc) (hml : c.maxLocals = nL) (hr : meth.sig.returnType = ret) (hlocks : meth.locks = false) (hown : s.vm.findClass own = some m.cls) (hts : ∀ x ∈ Cond.code y0 cc ml0 ret :: big, x.before args s = true) (hK : KK D aC ad (AW w ad) s s.heap) (hj : ∀ a b, a < wS w → b < wS w → ad a = ad b → a = b)
    (hft : ∀ x f, ft x = some f → ftOK own x f.1 f.2) (h32 : ∀ x v, c32 x = some v → Cond.constant own x v ∈ big) (h64 : ∀ x v, c64 x = some v → Cond.constantLong own x v ∈ big) (hce : ∀ x q, ce x = some q → ceOK l w own hh x q.1 q.2.1 q.2.2)
    (hsf : ∀ x b, sf x = some b → (bif b then Cond.fieldLink own x "FrameProver$StateSet" "ONES" "[J" else Cond.fieldLink own x "FrameProver$Machine" "INPUT_LANES" "[I") ∈ big)
    (htab : ∀ pc q, tab pc = some q → okI cc nL pc q.1 q.2 = true)
    (hP9 : ∀ (pc : Nat) (ids : List Nat) (vs : List Value) (τ : Sg) (H : Heap) (locs : List Loc) (ls : Array Slot), lab pc = some ids → P pc vs τ → lv_has ls nL (rel ad (zipL ids vs)) → Pic D aC w ad τ H → va_S (AW w ad) s.heap H locs → W p l e (rmh hh) s m args below meth c H locs 0 0 (MQ below (Qg w D aC ad Q) args s 0 0 (AW w ad)) (F0 m pc ls [])) :
    ∀ (f pc : Nat) (lv : VL) (st : List Value) (σ : Sg) (H : Heap) (locs : List Loc) (ls : Array Slot), lv_has ls nL (rel ad lv) → Pic D aC w ad σ H → va_S (AW w ad) s.heap H locs → sx w ft c32 c64 ce sf ret tab lab P Q f pc lv st σ →
      W p l e (rmh hh) s m args below meth c H locs 0 0 (MQ below (Qg w D aC ad Q) args s 0 0 (AW w ad)) (F0 m pc ls (st.map (vr ad))) := by
  intro f
  induction f with
  | zero => intro pc lv st σ H locs ls _ _ _ h; exact h.elim
  | succ f ih =>
    intro pc lv st σ H locs ls hl hP hS h
    unfold sx at h
    cases hlab : lab pc with
    | some ids =>
      rw [hlab] at h
      obtain ⟨h1, h2⟩ := onB_e h
      obtain ⟨vs, h3, h4⟩ := onS_e h2
      rw [List.isEmpty_iff.mp h1]
      exact hP9 pc ids vs σ H locs ls hlab h4 (pick_zip hl h3) hP hS
    | none =>
      rw [hlab] at h
      obtain ⟨q, h1, h2⟩ := onS_e h
      exact sxs_ok hx hb hml hr hlocks hown hts hK hj hft h32 h64 hce hsf ih (htab _ _ h1) hl hP hS h2
set_option maxHeartbeats 4000000 in
/-- a method's contract out of its executor -/
theorem sxm_ok (l : Launch) {w : Wd} {y : MethodName} {cc : ByteArray} {nL : Nat} {ret : Option FieldType} {hh : Nat} {T : List (Nat × Instr × Nat)} {wp : WP}
    {ft : Nat → Option (Nat × Nat)} {c32 : Nat → Option Int32} {c64 : Nat → Option Int64} {ce : Nat → Option (Nat × Option Nat × WP)} {sf : Nat → Option Bool} {lab : Nat → Option (List Nat)}
    (hy : plainName y.cls = true) (hft : ∀ x f, ft x = some f → ftOK y.cls x f.1 f.2) (h32 : ∀ x v, c32 x = some v → Cond.constant y.cls x v ∈ big) (h64 : ∀ x v, c64 x = some v → Cond.constantLong y.cls x v ∈ big) (hce : ∀ x q, ce x = some q → ceOK l w y.cls hh x q.1 q.2.1 q.2.2)
    (hsf : ∀ x b, sf x = some b → (bif b then Cond.fieldLink y.cls x "FrameProver$StateSet" "ONES" "[J" else Cond.fieldLink y.cls x "FrameProver$Machine" "INPUT_LANES" "[I") ∈ big)
    (htab : tabOK cc nL T = true) (f : Nat) (hw : ∀ (As : List Value) (σ : Sg) (Q : Option Value → Sg → Prop), wp As σ Q → (lg_sl As).length ≤ nL ∧ sxm w ft c32 c64 ce sf ret (lkp T) lab f As σ Q) :
    Con l w y cc nL ret hh wp := by
  intro D aC ad hj σ As Q
  refine Met.ofW (cc := cc) (maxL := nL) (ret := ret) hy rfl ?_
  intro p e s m args below meth c s₁ B hml hv
  obtain ⟨rfl, hK, hP, h0⟩ := hv
  obtain ⟨hlen, h⟩ := hw As σ Q h0
  have hts := atoms_spec (ws := Cond.code y cc nL ret :: big) B.pre
  have hown : s.vm.findClass y.cls = some m.cls := findClass_of_methodNamed B.named
  have htb : ∀ pc q, lkp T pc = some q → okI cc nL pc q.1 q.2 = true := fun pc q hq => List.all_eq_true.mp htab (pc, q) (lkp_mem hq)
  have hlg : (lg_sl (As.map (vr ad))).length = (lg_sl As).length := lg_len ad As
  have hl := lv_entry (As.map (vr ad)) (n := nL) (by rw [hlg]; exact hlen)
  rw [lg_entry_eq]
  generalize (lg_sl (As.map (vr ad)) ++ List.replicate (nL - (lg_sl (As.map (vr ad))).length) Slot.unset).toArray = ls at hl ⊢
  have hl : lv_has ls nL (rel ad (arg0 0 As)) := by rw [← lv_args_rel]; exact hl
  let P : Nat → List Value → Sg → Prop := fun pc vs τ => ∀ (ids : List Nat) (H : Heap) (locs : List Loc) (ls : Array Slot), lab pc = some ids → lv_has ls nL (rel ad (zipL ids vs)) → Pic D aC w ad τ H → va_S (AW w ad) s.heap H locs → W p l e (rmh hh) s m (As.map (vr ad)).toArray below meth c H locs 0 0 (MQ below (Qg w D aC ad Q) (As.map (vr ad)).toArray s 0 0 (AW w ad)) (F0 m pc ls [])
  have key := sx_ok (P := P) (lab := lab) (tab := lkp T) (Q := Q) B.exec B.bytes hml B.returns B.notSynchronized hown hts hK hj hft h32 h64 hce hsf htb (fun pc ids vs τ H locs ls h1 h2 h3 h4 h5 => h2 ids H locs ls h1 h3 h4 h5) f
  refine key 0 (arg0 0 As) [] σ s.heap [] ls hl hP va_S.rf (h P ?_)
  intro pc vs τ hb ids H locs ls h1 h3 h4 h5
  unfold sxb at hb
  rw [h1] at hb
  obtain ⟨ids2, h6, h7⟩ := onS_e hb
  cases h6
  obtain ⟨q, h6, h7⟩ := onS_e h7
  exact sxs_ok (st := []) B.exec B.bytes hml B.returns B.notSynchronized hown hts hK hj hft h32 h64 hce hsf key (htb _ _ h6) h3 h4 h5 h7
end
section
/-! THE SHAPES of the two worlds, and what the pool entries say -/
def lkD : List Nat → Nat → Nat
  | [], _ => 0
  | a :: _, 0 => a
  | _ :: r, n + 1 => lkD r n
def wMK (i : Nat) : Nat := lkD [10, 20, 20, 20, 20, 21, 20, 20, 20, 20, 20, 21, 20, 20, 20, 20, 20, 20, 20, 20, 20, 21, 21, 20, 20, 20, 20] i
def wMN (i : Nat) : Nat := lkD [0, 80, 80, 80, 80, 80, 4, 3, 9, 4096, 4096, 4096, 5000, 5000, 25, 40, 40, 200, 200, 40, 256, 80, 65536, 100, 100, 80, 80] i
def wMR (_ k : Nat) : Nat := lkD [1, 2, 3, 4, 5, 0, 0, 0, 0, 0, 0, 0, 6, 7, 8, 9, 10, 11, 0, 0, 12, 13, 14, 0, 0, 0, 0, 15, 16, 17, 18, 0, 19, 0, 20, 21, 22, 23, 24, 0, 0, 0, 0, 0, 25, 26, 0] k
def wM : Wd := (wMK, wMN, wMR, 27)
def wXK (i : Nat) : Nat := bif Nat.blt i 30 then lkD [9, 3, 20, 20, 20, 20, 20, 20, 21, 6, 20, 6, 20, 8, 23, 23, 7, 22, 7, 22, 7, 22, 7, 22, 7, 22, 7, 22, 7, 22] i else bif Nat.blt i 1054 then (bif Nat.beq (i % 2) 0 then 7 else 22) else bif Nat.blt i 1064 then lkD [1, 24, 0, 7, 22, 20, 7, 22, 7, 22] (i - 1054) else bif Nat.blt i 1164 then lkD [0, 7, 22, 20] (i % 4) else lkD [4, 20, 20, 0, 7, 22, 20, 2, 5, 20, 20] (i - 1164)
def wXN (i : Nat) : Nat := bif Nat.blt i 30 then lkD [0, 0, 80, 80, 80, 80, 8, 80, 80, 0, 4, 0, 3, 0, 256, 256, 0, 4, 0, 4, 0, 4, 0, 4, 0, 4, 0, 4, 0, 4] i else bif Nat.blt i 1054 then (bif Nat.beq (i % 2) 0 then 0 else 4) else bif Nat.blt i 1064 then lkD [0, 25, 0, 0, 4, 0, 0, 4, 0, 4] (i - 1054) else bif Nat.blt i 1164 then (bif Nat.beq i 1067 then 0 else lkD [0, 0, 4, 200] (i % 4)) else lkD [0, 25, 25, 0, 0, 4, 100, 0, 0, 80, 9] (i - 1164)
def wXS : Nat → Nat → Nat := fun i k =>
  bif Nat.beq i 0 then lkD [1, 13, 1054, 1164, 1167, 1171, 1172, 1174] k else
  bif Nat.beq i 1 then lkD [2, 3, 4, 5, 6, 7, 8, 9, 11] k else
  bif Nat.beq i 13 then lkD [1, 14, 15, 16, 18, 20, 22, 24, 26, 28] k else
  bif Nat.beq i 1054 then lkD [1, 13, 1055, 1056, 1060, 1062] k else
  bif Nat.beq i 1164 then lkD [1, 13, 1054, 1165, 1166] k else
  bif Nat.beq i 1171 then lkD [1, 13, 1167] k else
  bif Nat.beq i 1172 then lkD [1173] k else
  bif Nat.beq i 14 then 30 + 4 * k else bif Nat.beq i 15 then 32 + 4 * k else bif Nat.beq i 1055 then 1064 + 4 * k else 0
def wXR (i k : Nat) : Nat := bif Nat.beq (wXK i) 7 then i + 1 else bif Nat.beq (wXK i) 0 then (bif Nat.beq k 0 then i + 3 else i + 1) else bif Nat.beq (wXK i) 6 then i + 1 else wXS i k
def wX : Wd := (wXK, wXN, wXR, 1175)
theorem fcl0 {own : String} {idx k : Nat} (hk : k < 4) (hl : Cond.fieldLink own idx RX0 (TX0 k).2.1 (TX0 k).2.2.1 ∈ big) (hC : (TX0 k).1 = RX0) (hf : (TX0 k).2.2.2 = ffin 0 k) : ftOK own idx 0 k := ⟨RX0, TX0, 4, rfl, by decide, hk, hl, hC, tyX0_ok, nmX0, lay0, hf⟩
theorem fcl1 {own : String} {idx k : Nat} (hk : k < 6) (hl : Cond.fieldLink own idx RX1 (TX1 k).2.1 (TX1 k).2.2.1 ∈ big) (hC : (TX1 k).1 = RX1) (hf : (TX1 k).2.2.2 = ffin 1 k) : ftOK own idx 1 k := ⟨RX1, TX1, 6, rfl, by decide, hk, hl, hC, tyX1_ok, nmX1, lay1, hf⟩
theorem fcl2 {own : String} {idx k : Nat} (hk : k < 5) (hl : Cond.fieldLink own idx RX2 (TX2 k).2.1 (TX2 k).2.2.1 ∈ big) (hC : (TX2 k).1 = RX2) (hf : (TX2 k).2.2.2 = ffin 2 k) : ftOK own idx 2 k := ⟨RX2, TX2, 5, rfl, by decide, hk, hl, hC, tyX2_ok, nmX2, lay2, hf⟩
theorem fcl3 {own : String} {idx k : Nat} (hk : k < 14) (hl : Cond.fieldLink own idx RX3 (TX3 k).2.1 (TX3 k).2.2.1 ∈ big) (hC : (TX3 k).1 = RX3) (hf : (TX3 k).2.2.2 = ffin 3 k) : ftOK own idx 3 k := ⟨RX3, TX3, 14, rfl, by decide, hk, hl, hC, tyX3_ok, nmX3, lay3, hf⟩
theorem fcl4 {own : String} {idx k : Nat} (hk : k < 10) (hl : Cond.fieldLink own idx RX4 (TX4 k).2.1 (TX4 k).2.2.1 ∈ big) (hC : (TX4 k).1 = RX4) (hf : (TX4 k).2.2.2 = ffin 4 k) : ftOK own idx 4 k := ⟨RX4, TX4, 10, rfl, by decide, hk, hl, hC, tyX4_ok, nmX4, lay4, hf⟩
theorem fcl5 {own : String} {idx k : Nat} (hk : k < 3) (hl : Cond.fieldLink own idx RX5 (TX5 k).2.1 (TX5 k).2.2.1 ∈ big) (hC : (TX5 k).1 = RX5) (hf : (TX5 k).2.2.2 = ffin 5 k) : ftOK own idx 5 k := ⟨RX5, TX5, 3, rfl, by decide, hk, hl, hC, tyX5_ok, nmX5, lay5, hf⟩
theorem fcl6 {own : String} {idx k : Nat} (hk : k < 2) (hl : Cond.fieldLink own idx RX6 (TX6 k).2.1 (TX6 k).2.2.1 ∈ big) (hC : (TX6 k).1 = RX6) (hf : (TX6 k).2.2.2 = ffin 6 k) : ftOK own idx 6 k := ⟨RX6, TX6, 2, rfl, by decide, hk, hl, hC, tyX6_ok, nmX6, lay6, hf⟩
theorem fcl7 {own : String} {idx k : Nat} (hk : k < 1) (hl : Cond.fieldLink own idx RX7 (TX7 k).2.1 (TX7 k).2.2.1 ∈ big) (hC : (TX7 k).1 = RX7) (hf : (TX7 k).2.2.2 = ffin 7 k) : ftOK own idx 7 k := ⟨RX7, TX7, 1, rfl, by decide, hk, hl, hC, tyX7_ok, nmX7, lay7, hf⟩
theorem fcl8 {own : String} {idx k : Nat} (hk : k < 11) (hl : Cond.fieldLink own idx RX8 (TX8 k).2.1 (TX8 k).2.2.1 ∈ big) (hC : (TX8 k).1 = RX8) (hf : (TX8 k).2.2.2 = ffin 8 k) : ftOK own idx 8 k := ⟨RX8, TX8, 11, rfl, by decide, hk, hl, hC, tyX8_ok, nmX8, lay8, hf⟩
theorem fcl9 {own : String} {idx k : Nat} (hk : k < 9) (hl : Cond.fieldLink own idx RX9 (TX9 k).2.1 (TX9 k).2.2.1 ∈ big) (hC : (TX9 k).1 = RX9) (hf : (TX9 k).2.2.2 = ffin 9 k) : ftOK own idx 9 k := ⟨RX9, TX9, 9, rfl, by decide, hk, hl, hC, tyX9_ok, nmX9, lay9, hf⟩
theorem fcl10 {own : String} {idx k : Nat} (hk : k < 47) (hl : Cond.fieldLink own idx RX10 (TX10 k).2.1 (TX10 k).2.2.1 ∈ big) (hC : (TX10 k).1 = RX10) (hf : (TX10 k).2.2.2 = ffin 10 k) : ftOK own idx 10 k := ⟨RX10, TX10, 47, rfl, by decide, hk, hl, hC, tyX10_ok, nmX10, lay10, hf⟩
theorem fto_RX0_10 : ftOK RX0 10 0 1 := fcl0 (by decide) (big_in 237 (by decide +kernel) (by decide +kernel)) rfl rfl
theorem fto_RX0_22 : ftOK RX0 22 0 0 := fcl0 (by decide) (big_in 236 (by decide +kernel) (by decide +kernel)) rfl rfl
theorem fto_RX0_26 : ftOK RX0 26 0 2 := fcl0 (by decide) (big_in 242 (by decide +kernel) (by decide +kernel)) rfl rfl
theorem fto_RX0_30 : ftOK RX0 30 0 3 := fcl0 (by decide) (big_in 246 (by decide +kernel) (by decide +kernel)) rfl rfl
def ft_RX0 : List (Nat × (Nat × Nat)) := [(10, (0, 1)), (22, (0, 0)), (26, (0, 2)), (30, (0, 3))]
theorem ft_RX0_ok : ∀ x f, lkp ft_RX0 x = some f → ftOK RX0 x f.1 f.2 := fun x f h => (show ∀ q ∈ ft_RX0, ftOK RX0 q.1 q.2.1 q.2.2 from List.forall_mem_cons.mpr ⟨fto_RX0_10, List.forall_mem_cons.mpr ⟨fto_RX0_22, List.forall_mem_cons.mpr ⟨fto_RX0_26, List.forall_mem_cons.mpr ⟨fto_RX0_30, fun _ h => absurd h List.not_mem_nil⟩⟩⟩⟩) (x, f) (lkp_mem h)
def c32_RX0 : List (Nat × Int32) := []
theorem c32_RX0_ok : ∀ x v, lkp c32_RX0 x = some v → Cond.constant RX0 x v ∈ big := fun x f h => (show ∀ q ∈ c32_RX0, Cond.constant RX0 q.1 q.2 ∈ big from fun _ h => absurd h List.not_mem_nil) (x, f) (lkp_mem h)
def c64_RX0 : List (Nat × Int64) := []
theorem c64_RX0_ok : ∀ x v, lkp c64_RX0 x = some v → Cond.constantLong RX0 x v ∈ big := fun x f h => (show ∀ q ∈ c64_RX0, Cond.constantLong RX0 q.1 q.2 ∈ big from fun _ h => absurd h List.not_mem_nil) (x, f) (lkp_mem h)
def sf_RX0 : List (Nat × Bool) := []
theorem sf_RX0_ok : ∀ x b, lkp sf_RX0 x = some b → (bif b then Cond.fieldLink RX0 x "FrameProver$StateSet" "ONES" "[J" else Cond.fieldLink RX0 x "FrameProver$Machine" "INPUT_LANES" "[I") ∈ big := fun x f h => (show ∀ q ∈ sf_RX0, (bif q.2 then Cond.fieldLink RX0 q.1 "FrameProver$StateSet" "ONES" "[J" else Cond.fieldLink RX0 q.1 "FrameProver$Machine" "INPUT_LANES" "[I") ∈ big from fun _ h => absurd h List.not_mem_nil) (x, f) (lkp_mem h)
theorem fto_RX1_11 : ftOK RX1 11 1 2 := fcl1 (by decide) (big_in 260 (by decide +kernel) (by decide +kernel)) rfl rfl
theorem fto_RX1_20 : ftOK RX1 20 1 3 := fcl1 (by decide) (big_in 261 (by decide +kernel) (by decide +kernel)) rfl rfl
theorem fto_RX1_27 : ftOK RX1 27 1 4 := fcl1 (by decide) (big_in 262 (by decide +kernel) (by decide +kernel)) rfl rfl
theorem fto_RX1_31 : ftOK RX1 31 1 5 := fcl1 (by decide) (big_in 263 (by decide +kernel) (by decide +kernel)) rfl rfl
theorem fto_RX1_34 : ftOK RX1 34 1 0 := fcl1 (by decide) (big_in 258 (by decide +kernel) (by decide +kernel)) rfl rfl
theorem fto_RX1_38 : ftOK RX1 38 1 1 := fcl1 (by decide) (big_in 259 (by decide +kernel) (by decide +kernel)) rfl rfl
theorem fto_RX1_55 : ftOK RX1 55 0 1 := fcl0 (by decide) (big_in 239 (by decide +kernel) (by decide +kernel)) rfl rfl
theorem fto_RX1_58 : ftOK RX1 58 3 13 := fcl3 (by decide) (big_in 131 (by decide +kernel) (by decide +kernel)) rfl rfl
theorem fto_RX1_90 : ftOK RX1 90 3 11 := fcl3 (by decide) (big_in 127 (by decide +kernel) (by decide +kernel)) rfl rfl
theorem fto_RX1_117 : ftOK RX1 117 0 2 := fcl0 (by decide) (big_in 244 (by decide +kernel) (by decide +kernel)) rfl rfl
def ft_RX1 : List (Nat × (Nat × Nat)) := [(11, (1, 2)), (20, (1, 3)), (27, (1, 4)), (31, (1, 5)), (34, (1, 0)), (38, (1, 1)), (55, (0, 1)), (58, (3, 13)), (90, (3, 11)), (117, (0, 2))]
theorem ft_RX1_ok : ∀ x f, lkp ft_RX1 x = some f → ftOK RX1 x f.1 f.2 := fun x f h => (show ∀ q ∈ ft_RX1, ftOK RX1 q.1 q.2.1 q.2.2 from List.forall_mem_cons.mpr ⟨fto_RX1_11, List.forall_mem_cons.mpr ⟨fto_RX1_20, List.forall_mem_cons.mpr ⟨fto_RX1_27, List.forall_mem_cons.mpr ⟨fto_RX1_31, List.forall_mem_cons.mpr ⟨fto_RX1_34, List.forall_mem_cons.mpr ⟨fto_RX1_38, List.forall_mem_cons.mpr ⟨fto_RX1_55, List.forall_mem_cons.mpr ⟨fto_RX1_58, List.forall_mem_cons.mpr ⟨fto_RX1_90, List.forall_mem_cons.mpr ⟨fto_RX1_117, fun _ h => absurd h List.not_mem_nil⟩⟩⟩⟩⟩⟩⟩⟩⟩⟩) (x, f) (lkp_mem h)
def c32_RX1 : List (Nat × Int32) := []
theorem c32_RX1_ok : ∀ x v, lkp c32_RX1 x = some v → Cond.constant RX1 x v ∈ big := fun x f h => (show ∀ q ∈ c32_RX1, Cond.constant RX1 q.1 q.2 ∈ big from fun _ h => absurd h List.not_mem_nil) (x, f) (lkp_mem h)
def c64_RX1 : List (Nat × Int64) := []
theorem c64_RX1_ok : ∀ x v, lkp c64_RX1 x = some v → Cond.constantLong RX1 x v ∈ big := fun x f h => (show ∀ q ∈ c64_RX1, Cond.constantLong RX1 q.1 q.2 ∈ big from fun _ h => absurd h List.not_mem_nil) (x, f) (lkp_mem h)
def sf_RX1 : List (Nat × Bool) := []
theorem sf_RX1_ok : ∀ x b, lkp sf_RX1 x = some b → (bif b then Cond.fieldLink RX1 x "FrameProver$StateSet" "ONES" "[J" else Cond.fieldLink RX1 x "FrameProver$Machine" "INPUT_LANES" "[I") ∈ big := fun x f h => (show ∀ q ∈ sf_RX1, (bif q.2 then Cond.fieldLink RX1 q.1 "FrameProver$StateSet" "ONES" "[J" else Cond.fieldLink RX1 q.1 "FrameProver$Machine" "INPUT_LANES" "[I") ∈ big from fun _ h => absurd h List.not_mem_nil) (x, f) (lkp_mem h)
theorem fto_RX2_9 : ftOK RX2 9 2 3 := fcl2 (by decide) (big_in 328 (by decide +kernel) (by decide +kernel)) rfl rfl
theorem fto_RX2_15 : ftOK RX2 15 2 4 := fcl2 (by decide) (big_in 330 (by decide +kernel) (by decide +kernel)) rfl rfl
theorem fto_RX2_18 : ftOK RX2 18 2 0 := fcl2 (by decide) (big_in 325 (by decide +kernel) (by decide +kernel)) rfl rfl
theorem fto_RX2_22 : ftOK RX2 22 2 1 := fcl2 (by decide) (big_in 326 (by decide +kernel) (by decide +kernel)) rfl rfl
theorem fto_RX2_26 : ftOK RX2 26 2 2 := fcl2 (by decide) (big_in 327 (by decide +kernel) (by decide +kernel)) rfl rfl
theorem fto_RX2_30 : ftOK RX2 30 0 1 := fcl0 (by decide) (big_in 238 (by decide +kernel) (by decide +kernel)) rfl rfl
theorem fto_RX2_36 : ftOK RX2 36 3 13 := fcl3 (by decide) (big_in 130 (by decide +kernel) (by decide +kernel)) rfl rfl
theorem fto_RX2_47 : ftOK RX2 47 8 4 := fcl8 (by decide) (big_in 188 (by decide +kernel) (by decide +kernel)) rfl rfl
theorem fto_RX2_80 : ftOK RX2 80 0 2 := fcl0 (by decide) (big_in 243 (by decide +kernel) (by decide +kernel)) rfl rfl
def ft_RX2 : List (Nat × (Nat × Nat)) := [(9, (2, 3)), (15, (2, 4)), (18, (2, 0)), (22, (2, 1)), (26, (2, 2)), (30, (0, 1)), (36, (3, 13)), (47, (8, 4)), (80, (0, 2))]
theorem ft_RX2_ok : ∀ x f, lkp ft_RX2 x = some f → ftOK RX2 x f.1 f.2 := fun x f h => (show ∀ q ∈ ft_RX2, ftOK RX2 q.1 q.2.1 q.2.2 from List.forall_mem_cons.mpr ⟨fto_RX2_9, List.forall_mem_cons.mpr ⟨fto_RX2_15, List.forall_mem_cons.mpr ⟨fto_RX2_18, List.forall_mem_cons.mpr ⟨fto_RX2_22, List.forall_mem_cons.mpr ⟨fto_RX2_26, List.forall_mem_cons.mpr ⟨fto_RX2_30, List.forall_mem_cons.mpr ⟨fto_RX2_36, List.forall_mem_cons.mpr ⟨fto_RX2_47, List.forall_mem_cons.mpr ⟨fto_RX2_80, fun _ h => absurd h List.not_mem_nil⟩⟩⟩⟩⟩⟩⟩⟩⟩) (x, f) (lkp_mem h)
def c32_RX2 : List (Nat × Int32) := []
theorem c32_RX2_ok : ∀ x v, lkp c32_RX2 x = some v → Cond.constant RX2 x v ∈ big := fun x f h => (show ∀ q ∈ c32_RX2, Cond.constant RX2 q.1 q.2 ∈ big from fun _ h => absurd h List.not_mem_nil) (x, f) (lkp_mem h)
def c64_RX2 : List (Nat × Int64) := []
theorem c64_RX2_ok : ∀ x v, lkp c64_RX2 x = some v → Cond.constantLong RX2 x v ∈ big := fun x f h => (show ∀ q ∈ c64_RX2, Cond.constantLong RX2 q.1 q.2 ∈ big from fun _ h => absurd h List.not_mem_nil) (x, f) (lkp_mem h)
def sf_RX2 : List (Nat × Bool) := []
theorem sf_RX2_ok : ∀ x b, lkp sf_RX2 x = some b → (bif b then Cond.fieldLink RX2 x "FrameProver$StateSet" "ONES" "[J" else Cond.fieldLink RX2 x "FrameProver$Machine" "INPUT_LANES" "[I") ∈ big := fun x f h => (show ∀ q ∈ sf_RX2, (bif q.2 then Cond.fieldLink RX2 q.1 "FrameProver$StateSet" "ONES" "[J" else Cond.fieldLink RX2 q.1 "FrameProver$Machine" "INPUT_LANES" "[I") ∈ big from fun _ h => absurd h List.not_mem_nil) (x, f) (lkp_mem h)
theorem fto_RX3_9 : ftOK RX3 9 3 0 := fcl3 (by decide) (big_in 108 (by decide +kernel) (by decide +kernel)) rfl rfl
theorem fto_RX3_15 : ftOK RX3 15 3 1 := fcl3 (by decide) (big_in 109 (by decide +kernel) (by decide +kernel)) rfl rfl
theorem fto_RX3_18 : ftOK RX3 18 3 2 := fcl3 (by decide) (big_in 110 (by decide +kernel) (by decide +kernel)) rfl rfl
theorem fto_RX3_21 : ftOK RX3 21 3 3 := fcl3 (by decide) (big_in 111 (by decide +kernel) (by decide +kernel)) rfl rfl
theorem fto_RX3_24 : ftOK RX3 24 3 4 := fcl3 (by decide) (big_in 112 (by decide +kernel) (by decide +kernel)) rfl rfl
theorem fto_RX3_27 : ftOK RX3 27 3 5 := fcl3 (by decide) (big_in 113 (by decide +kernel) (by decide +kernel)) rfl rfl
theorem fto_RX3_30 : ftOK RX3 30 3 6 := fcl3 (by decide) (big_in 114 (by decide +kernel) (by decide +kernel)) rfl rfl
theorem fto_RX3_39 : ftOK RX3 39 3 7 := fcl3 (by decide) (big_in 115 (by decide +kernel) (by decide +kernel)) rfl rfl
theorem fto_RX3_43 : ftOK RX3 43 3 8 := fcl3 (by decide) (big_in 117 (by decide +kernel) (by decide +kernel)) rfl rfl
theorem fto_RX3_46 : ftOK RX3 46 3 9 := fcl3 (by decide) (big_in 120 (by decide +kernel) (by decide +kernel)) rfl rfl
theorem fto_RX3_50 : ftOK RX3 50 3 10 := fcl3 (by decide) (big_in 122 (by decide +kernel) (by decide +kernel)) rfl rfl
theorem fto_RX3_61 : ftOK RX3 61 3 11 := fcl3 (by decide) (big_in 126 (by decide +kernel) (by decide +kernel)) rfl rfl
theorem fto_RX3_64 : ftOK RX3 64 3 13 := fcl3 (by decide) (big_in 133 (by decide +kernel) (by decide +kernel)) rfl rfl
theorem fto_RX3_67 : ftOK RX3 67 3 12 := fcl3 (by decide) (big_in 129 (by decide +kernel) (by decide +kernel)) rfl rfl
theorem fto_RX3_89 : ftOK RX3 89 6 1 := fcl6 (by decide) (big_in 100 (by decide +kernel) (by decide +kernel)) rfl rfl
def ft_RX3 : List (Nat × (Nat × Nat)) := [(9, (3, 0)), (15, (3, 1)), (18, (3, 2)), (21, (3, 3)), (24, (3, 4)), (27, (3, 5)), (30, (3, 6)), (39, (3, 7)), (43, (3, 8)), (46, (3, 9)), (50, (3, 10)), (61, (3, 11)), (64, (3, 13)), (67, (3, 12)), (89, (6, 1))]
theorem ft_RX3_ok : ∀ x f, lkp ft_RX3 x = some f → ftOK RX3 x f.1 f.2 := fun x f h => (show ∀ q ∈ ft_RX3, ftOK RX3 q.1 q.2.1 q.2.2 from List.forall_mem_cons.mpr ⟨fto_RX3_9, List.forall_mem_cons.mpr ⟨fto_RX3_15, List.forall_mem_cons.mpr ⟨fto_RX3_18, List.forall_mem_cons.mpr ⟨fto_RX3_21, List.forall_mem_cons.mpr ⟨fto_RX3_24, List.forall_mem_cons.mpr ⟨fto_RX3_27, List.forall_mem_cons.mpr ⟨fto_RX3_30, List.forall_mem_cons.mpr ⟨fto_RX3_39, List.forall_mem_cons.mpr ⟨fto_RX3_43, List.forall_mem_cons.mpr ⟨fto_RX3_46, List.forall_mem_cons.mpr ⟨fto_RX3_50, List.forall_mem_cons.mpr ⟨fto_RX3_61, List.forall_mem_cons.mpr ⟨fto_RX3_64, List.forall_mem_cons.mpr ⟨fto_RX3_67, List.forall_mem_cons.mpr ⟨fto_RX3_89, fun _ h => absurd h List.not_mem_nil⟩⟩⟩⟩⟩⟩⟩⟩⟩⟩⟩⟩⟩⟩⟩) (x, f) (lkp_mem h)
def c32_RX3 : List (Nat × Int32) := [(88, 65535)]
theorem c32_RX3_ok : ∀ x v, lkp c32_RX3 x = some v → Cond.constant RX3 x v ∈ big := fun x f h => (show ∀ q ∈ c32_RX3, Cond.constant RX3 q.1 q.2 ∈ big from List.forall_mem_cons.mpr ⟨big_in 547 (by decide +kernel) (by decide +kernel), fun _ h => absurd h List.not_mem_nil⟩) (x, f) (lkp_mem h)
def c64_RX3 : List (Nat × Int64) := []
theorem c64_RX3_ok : ∀ x v, lkp c64_RX3 x = some v → Cond.constantLong RX3 x v ∈ big := fun x f h => (show ∀ q ∈ c64_RX3, Cond.constantLong RX3 q.1 q.2 ∈ big from fun _ h => absurd h List.not_mem_nil) (x, f) (lkp_mem h)
def sf_RX3 : List (Nat × Bool) := [(85, false)]
theorem sf_RX3_ok : ∀ x b, lkp sf_RX3 x = some b → (bif b then Cond.fieldLink RX3 x "FrameProver$StateSet" "ONES" "[J" else Cond.fieldLink RX3 x "FrameProver$Machine" "INPUT_LANES" "[I") ∈ big := fun x f h => (show ∀ q ∈ sf_RX3, (bif q.2 then Cond.fieldLink RX3 q.1 "FrameProver$StateSet" "ONES" "[J" else Cond.fieldLink RX3 q.1 "FrameProver$Machine" "INPUT_LANES" "[I") ∈ big from List.forall_mem_cons.mpr ⟨big_in 548 (by decide +kernel) (by decide +kernel), fun _ h => absurd h List.not_mem_nil⟩) (x, f) (lkp_mem h)
theorem fto_RX4_9 : ftOK RX4 9 4 3 := fcl4 (by decide) (big_in 286 (by decide +kernel) (by decide +kernel)) rfl rfl
theorem fto_RX4_15 : ftOK RX4 15 4 4 := fcl4 (by decide) (big_in 287 (by decide +kernel) (by decide +kernel)) rfl rfl
theorem fto_RX4_18 : ftOK RX4 18 4 0 := fcl4 (by decide) (big_in 283 (by decide +kernel) (by decide +kernel)) rfl rfl
theorem fto_RX4_22 : ftOK RX4 22 4 1 := fcl4 (by decide) (big_in 284 (by decide +kernel) (by decide +kernel)) rfl rfl
theorem fto_RX4_26 : ftOK RX4 26 4 2 := fcl4 (by decide) (big_in 285 (by decide +kernel) (by decide +kernel)) rfl rfl
theorem fto_RX4_30 : ftOK RX4 30 4 5 := fcl4 (by decide) (big_in 288 (by decide +kernel) (by decide +kernel)) rfl rfl
theorem fto_RX4_34 : ftOK RX4 34 4 6 := fcl4 (by decide) (big_in 289 (by decide +kernel) (by decide +kernel)) rfl rfl
theorem fto_RX4_37 : ftOK RX4 37 4 7 := fcl4 (by decide) (big_in 290 (by decide +kernel) (by decide +kernel)) rfl rfl
theorem fto_RX4_40 : ftOK RX4 40 4 8 := fcl4 (by decide) (big_in 292 (by decide +kernel) (by decide +kernel)) rfl rfl
theorem fto_RX4_43 : ftOK RX4 43 4 9 := fcl4 (by decide) (big_in 294 (by decide +kernel) (by decide +kernel)) rfl rfl
theorem fto_RX4_56 : ftOK RX4 56 0 1 := fcl0 (by decide) (big_in 240 (by decide +kernel) (by decide +kernel)) rfl rfl
theorem fto_RX4_62 : ftOK RX4 62 8 4 := fcl8 (by decide) (big_in 189 (by decide +kernel) (by decide +kernel)) rfl rfl
theorem fto_RX4_83 : ftOK RX4 83 3 13 := fcl3 (by decide) (big_in 132 (by decide +kernel) (by decide +kernel)) rfl rfl
def ft_RX4 : List (Nat × (Nat × Nat)) := [(9, (4, 3)), (15, (4, 4)), (18, (4, 0)), (22, (4, 1)), (26, (4, 2)), (30, (4, 5)), (34, (4, 6)), (37, (4, 7)), (40, (4, 8)), (43, (4, 9)), (56, (0, 1)), (62, (8, 4)), (83, (3, 13))]
theorem ft_RX4_ok : ∀ x f, lkp ft_RX4 x = some f → ftOK RX4 x f.1 f.2 := fun x f h => (show ∀ q ∈ ft_RX4, ftOK RX4 q.1 q.2.1 q.2.2 from List.forall_mem_cons.mpr ⟨fto_RX4_9, List.forall_mem_cons.mpr ⟨fto_RX4_15, List.forall_mem_cons.mpr ⟨fto_RX4_18, List.forall_mem_cons.mpr ⟨fto_RX4_22, List.forall_mem_cons.mpr ⟨fto_RX4_26, List.forall_mem_cons.mpr ⟨fto_RX4_30, List.forall_mem_cons.mpr ⟨fto_RX4_34, List.forall_mem_cons.mpr ⟨fto_RX4_37, List.forall_mem_cons.mpr ⟨fto_RX4_40, List.forall_mem_cons.mpr ⟨fto_RX4_43, List.forall_mem_cons.mpr ⟨fto_RX4_56, List.forall_mem_cons.mpr ⟨fto_RX4_62, List.forall_mem_cons.mpr ⟨fto_RX4_83, fun _ h => absurd h List.not_mem_nil⟩⟩⟩⟩⟩⟩⟩⟩⟩⟩⟩⟩⟩) (x, f) (lkp_mem h)
def c32_RX4 : List (Nat × Int32) := [(49, 1000000)]
theorem c32_RX4_ok : ∀ x v, lkp c32_RX4 x = some v → Cond.constant RX4 x v ∈ big := fun x f h => (show ∀ q ∈ c32_RX4, Cond.constant RX4 q.1 q.2 ∈ big from List.forall_mem_cons.mpr ⟨big_in 625 (by decide +kernel) (by decide +kernel), fun _ h => absurd h List.not_mem_nil⟩) (x, f) (lkp_mem h)
def c64_RX4 : List (Nat × Int64) := []
theorem c64_RX4_ok : ∀ x v, lkp c64_RX4 x = some v → Cond.constantLong RX4 x v ∈ big := fun x f h => (show ∀ q ∈ c64_RX4, Cond.constantLong RX4 q.1 q.2 ∈ big from fun _ h => absurd h List.not_mem_nil) (x, f) (lkp_mem h)
def sf_RX4 : List (Nat × Bool) := []
theorem sf_RX4_ok : ∀ x b, lkp sf_RX4 x = some b → (bif b then Cond.fieldLink RX4 x "FrameProver$StateSet" "ONES" "[J" else Cond.fieldLink RX4 x "FrameProver$Machine" "INPUT_LANES" "[I") ∈ big := fun x f h => (show ∀ q ∈ sf_RX4, (bif q.2 then Cond.fieldLink RX4 q.1 "FrameProver$StateSet" "ONES" "[J" else Cond.fieldLink RX4 q.1 "FrameProver$Machine" "INPUT_LANES" "[I") ∈ big from fun _ h => absurd h List.not_mem_nil) (x, f) (lkp_mem h)
theorem fto_RX5_9 : ftOK RX5 9 5 0 := fcl5 (by decide) (big_in 349 (by decide +kernel) (by decide +kernel)) rfl rfl
theorem fto_RX5_15 : ftOK RX5 15 3 10 := fcl3 (by decide) (big_in 123 (by decide +kernel) (by decide +kernel)) rfl rfl
theorem fto_RX5_27 : ftOK RX5 27 5 1 := fcl5 (by decide) (big_in 350 (by decide +kernel) (by decide +kernel)) rfl rfl
theorem fto_RX5_34 : ftOK RX5 34 5 2 := fcl5 (by decide) (big_in 352 (by decide +kernel) (by decide +kernel)) rfl rfl
def ft_RX5 : List (Nat × (Nat × Nat)) := [(9, (5, 0)), (15, (3, 10)), (27, (5, 1)), (34, (5, 2))]
theorem ft_RX5_ok : ∀ x f, lkp ft_RX5 x = some f → ftOK RX5 x f.1 f.2 := fun x f h => (show ∀ q ∈ ft_RX5, ftOK RX5 q.1 q.2.1 q.2.2 from List.forall_mem_cons.mpr ⟨fto_RX5_9, List.forall_mem_cons.mpr ⟨fto_RX5_15, List.forall_mem_cons.mpr ⟨fto_RX5_27, List.forall_mem_cons.mpr ⟨fto_RX5_34, fun _ h => absurd h List.not_mem_nil⟩⟩⟩⟩) (x, f) (lkp_mem h)
def c32_RX5 : List (Nat × Int32) := []
theorem c32_RX5_ok : ∀ x v, lkp c32_RX5 x = some v → Cond.constant RX5 x v ∈ big := fun x f h => (show ∀ q ∈ c32_RX5, Cond.constant RX5 q.1 q.2 ∈ big from fun _ h => absurd h List.not_mem_nil) (x, f) (lkp_mem h)
def c64_RX5 : List (Nat × Int64) := []
theorem c64_RX5_ok : ∀ x v, lkp c64_RX5 x = some v → Cond.constantLong RX5 x v ∈ big := fun x f h => (show ∀ q ∈ c64_RX5, Cond.constantLong RX5 q.1 q.2 ∈ big from fun _ h => absurd h List.not_mem_nil) (x, f) (lkp_mem h)
def sf_RX5 : List (Nat × Bool) := []
theorem sf_RX5_ok : ∀ x b, lkp sf_RX5 x = some b → (bif b then Cond.fieldLink RX5 x "FrameProver$StateSet" "ONES" "[J" else Cond.fieldLink RX5 x "FrameProver$Machine" "INPUT_LANES" "[I") ∈ big := fun x f h => (show ∀ q ∈ sf_RX5, (bif q.2 then Cond.fieldLink RX5 q.1 "FrameProver$StateSet" "ONES" "[J" else Cond.fieldLink RX5 q.1 "FrameProver$Machine" "INPUT_LANES" "[I") ∈ big from fun _ h => absurd h List.not_mem_nil) (x, f) (lkp_mem h)
theorem fto_RX6_15 : ftOK RX6 15 6 0 := fcl6 (by decide) (big_in 96 (by decide +kernel) (by decide +kernel)) rfl rfl
theorem fto_RX6_21 : ftOK RX6 21 6 1 := fcl6 (by decide) (big_in 97 (by decide +kernel) (by decide +kernel)) rfl rfl
def ft_RX6 : List (Nat × (Nat × Nat)) := [(15, (6, 0)), (21, (6, 1))]
theorem ft_RX6_ok : ∀ x f, lkp ft_RX6 x = some f → ftOK RX6 x f.1 f.2 := fun x f h => (show ∀ q ∈ ft_RX6, ftOK RX6 q.1 q.2.1 q.2.2 from List.forall_mem_cons.mpr ⟨fto_RX6_15, List.forall_mem_cons.mpr ⟨fto_RX6_21, fun _ h => absurd h List.not_mem_nil⟩⟩) (x, f) (lkp_mem h)
def c32_RX6 : List (Nat × Int32) := []
theorem c32_RX6_ok : ∀ x v, lkp c32_RX6 x = some v → Cond.constant RX6 x v ∈ big := fun x f h => (show ∀ q ∈ c32_RX6, Cond.constant RX6 q.1 q.2 ∈ big from fun _ h => absurd h List.not_mem_nil) (x, f) (lkp_mem h)
def c64_RX6 : List (Nat × Int64) := []
theorem c64_RX6_ok : ∀ x v, lkp c64_RX6 x = some v → Cond.constantLong RX6 x v ∈ big := fun x f h => (show ∀ q ∈ c64_RX6, Cond.constantLong RX6 q.1 q.2 ∈ big from fun _ h => absurd h List.not_mem_nil) (x, f) (lkp_mem h)
def sf_RX6 : List (Nat × Bool) := []
theorem sf_RX6_ok : ∀ x b, lkp sf_RX6 x = some b → (bif b then Cond.fieldLink RX6 x "FrameProver$StateSet" "ONES" "[J" else Cond.fieldLink RX6 x "FrameProver$Machine" "INPUT_LANES" "[I") ∈ big := fun x f h => (show ∀ q ∈ sf_RX6, (bif q.2 then Cond.fieldLink RX6 q.1 "FrameProver$StateSet" "ONES" "[J" else Cond.fieldLink RX6 q.1 "FrameProver$Machine" "INPUT_LANES" "[I") ∈ big from fun _ h => absurd h List.not_mem_nil) (x, f) (lkp_mem h)
theorem fto_RX7_11 : ftOK RX7 11 7 0 := fcl7 (by decide) (big_in 178 (by decide +kernel) (by decide +kernel)) rfl rfl
def ft_RX7 : List (Nat × (Nat × Nat)) := [(11, (7, 0))]
theorem ft_RX7_ok : ∀ x f, lkp ft_RX7 x = some f → ftOK RX7 x f.1 f.2 := fun x f h => (show ∀ q ∈ ft_RX7, ftOK RX7 q.1 q.2.1 q.2.2 from List.forall_mem_cons.mpr ⟨fto_RX7_11, fun _ h => absurd h List.not_mem_nil⟩) (x, f) (lkp_mem h)
def c32_RX7 : List (Nat × Int32) := []
theorem c32_RX7_ok : ∀ x v, lkp c32_RX7 x = some v → Cond.constant RX7 x v ∈ big := fun x f h => (show ∀ q ∈ c32_RX7, Cond.constant RX7 q.1 q.2 ∈ big from fun _ h => absurd h List.not_mem_nil) (x, f) (lkp_mem h)
def c64_RX7 : List (Nat × Int64) := [(22, -1)]
theorem c64_RX7_ok : ∀ x v, lkp c64_RX7 x = some v → Cond.constantLong RX7 x v ∈ big := fun x f h => (show ∀ q ∈ c64_RX7, Cond.constantLong RX7 q.1 q.2 ∈ big from List.forall_mem_cons.mpr ⟨big_in 381 (by decide +kernel) (by decide +kernel), fun _ h => absurd h List.not_mem_nil⟩) (x, f) (lkp_mem h)
def sf_RX7 : List (Nat × Bool) := [(35, true)]
theorem sf_RX7_ok : ∀ x b, lkp sf_RX7 x = some b → (bif b then Cond.fieldLink RX7 x "FrameProver$StateSet" "ONES" "[J" else Cond.fieldLink RX7 x "FrameProver$Machine" "INPUT_LANES" "[I") ∈ big := fun x f h => (show ∀ q ∈ sf_RX7, (bif q.2 then Cond.fieldLink RX7 q.1 "FrameProver$StateSet" "ONES" "[J" else Cond.fieldLink RX7 q.1 "FrameProver$Machine" "INPUT_LANES" "[I") ∈ big from List.forall_mem_cons.mpr ⟨big_in 679 (by decide +kernel) (by decide +kernel), fun _ h => absurd h List.not_mem_nil⟩) (x, f) (lkp_mem h)
theorem fto_RX8_11 : ftOK RX8 11 8 1 := fcl8 (by decide) (big_in 184 (by decide +kernel) (by decide +kernel)) rfl rfl
theorem fto_RX8_17 : ftOK RX8 17 8 2 := fcl8 (by decide) (big_in 185 (by decide +kernel) (by decide +kernel)) rfl rfl
theorem fto_RX8_21 : ftOK RX8 21 8 3 := fcl8 (by decide) (big_in 186 (by decide +kernel) (by decide +kernel)) rfl rfl
theorem fto_RX8_25 : ftOK RX8 25 8 4 := fcl8 (by decide) (big_in 187 (by decide +kernel) (by decide +kernel)) rfl rfl
theorem fto_RX8_28 : ftOK RX8 28 8 5 := fcl8 (by decide) (big_in 190 (by decide +kernel) (by decide +kernel)) rfl rfl
theorem fto_RX8_31 : ftOK RX8 31 8 6 := fcl8 (by decide) (big_in 191 (by decide +kernel) (by decide +kernel)) rfl rfl
theorem fto_RX8_34 : ftOK RX8 34 8 7 := fcl8 (by decide) (big_in 192 (by decide +kernel) (by decide +kernel)) rfl rfl
theorem fto_RX8_37 : ftOK RX8 37 8 8 := fcl8 (by decide) (big_in 193 (by decide +kernel) (by decide +kernel)) rfl rfl
theorem fto_RX8_40 : ftOK RX8 40 8 9 := fcl8 (by decide) (big_in 194 (by decide +kernel) (by decide +kernel)) rfl rfl
theorem fto_RX8_43 : ftOK RX8 43 8 10 := fcl8 (by decide) (big_in 195 (by decide +kernel) (by decide +kernel)) rfl rfl
theorem fto_RX8_47 : ftOK RX8 47 8 0 := fcl8 (by decide) (big_in 183 (by decide +kernel) (by decide +kernel)) rfl rfl
theorem fto_RX8_95 : ftOK RX8 95 3 13 := fcl3 (by decide) (big_in 134 (by decide +kernel) (by decide +kernel)) rfl rfl
theorem fto_RX8_140 : ftOK RX8 140 3 8 := fcl3 (by decide) (big_in 119 (by decide +kernel) (by decide +kernel)) rfl rfl
theorem fto_RX8_144 : ftOK RX8 144 6 1 := fcl6 (by decide) (big_in 99 (by decide +kernel) (by decide +kernel)) rfl rfl
def ft_RX8 : List (Nat × (Nat × Nat)) := [(11, (8, 1)), (17, (8, 2)), (21, (8, 3)), (25, (8, 4)), (28, (8, 5)), (31, (8, 6)), (34, (8, 7)), (37, (8, 8)), (40, (8, 9)), (43, (8, 10)), (47, (8, 0)), (95, (3, 13)), (140, (3, 8)), (144, (6, 1))]
theorem ft_RX8_ok : ∀ x f, lkp ft_RX8 x = some f → ftOK RX8 x f.1 f.2 := fun x f h => (show ∀ q ∈ ft_RX8, ftOK RX8 q.1 q.2.1 q.2.2 from List.forall_mem_cons.mpr ⟨fto_RX8_11, List.forall_mem_cons.mpr ⟨fto_RX8_17, List.forall_mem_cons.mpr ⟨fto_RX8_21, List.forall_mem_cons.mpr ⟨fto_RX8_25, List.forall_mem_cons.mpr ⟨fto_RX8_28, List.forall_mem_cons.mpr ⟨fto_RX8_31, List.forall_mem_cons.mpr ⟨fto_RX8_34, List.forall_mem_cons.mpr ⟨fto_RX8_37, List.forall_mem_cons.mpr ⟨fto_RX8_40, List.forall_mem_cons.mpr ⟨fto_RX8_43, List.forall_mem_cons.mpr ⟨fto_RX8_47, List.forall_mem_cons.mpr ⟨fto_RX8_95, List.forall_mem_cons.mpr ⟨fto_RX8_140, List.forall_mem_cons.mpr ⟨fto_RX8_144, fun _ h => absurd h List.not_mem_nil⟩⟩⟩⟩⟩⟩⟩⟩⟩⟩⟩⟩⟩⟩) (x, f) (lkp_mem h)
def c32_RX8 : List (Nat × Int32) := []
theorem c32_RX8_ok : ∀ x v, lkp c32_RX8 x = some v → Cond.constant RX8 x v ∈ big := fun x f h => (show ∀ q ∈ c32_RX8, Cond.constant RX8 q.1 q.2 ∈ big from fun _ h => absurd h List.not_mem_nil) (x, f) (lkp_mem h)
def c64_RX8 : List (Nat × Int64) := []
theorem c64_RX8_ok : ∀ x v, lkp c64_RX8 x = some v → Cond.constantLong RX8 x v ∈ big := fun x f h => (show ∀ q ∈ c64_RX8, Cond.constantLong RX8 q.1 q.2 ∈ big from fun _ h => absurd h List.not_mem_nil) (x, f) (lkp_mem h)
def sf_RX8 : List (Nat × Bool) := []
theorem sf_RX8_ok : ∀ x b, lkp sf_RX8 x = some b → (bif b then Cond.fieldLink RX8 x "FrameProver$StateSet" "ONES" "[J" else Cond.fieldLink RX8 x "FrameProver$Machine" "INPUT_LANES" "[I") ∈ big := fun x f h => (show ∀ q ∈ sf_RX8, (bif q.2 then Cond.fieldLink RX8 q.1 "FrameProver$StateSet" "ONES" "[J" else Cond.fieldLink RX8 q.1 "FrameProver$Machine" "INPUT_LANES" "[I") ∈ big from fun _ h => absurd h List.not_mem_nil) (x, f) (lkp_mem h)
theorem fto_RX9_10 : ftOK RX9 10 9 0 := fcl9 (by decide) (big_in 401 (by decide +kernel) (by decide +kernel)) rfl rfl
theorem fto_RX9_21 : ftOK RX9 21 9 1 := fcl9 (by decide) (big_in 402 (by decide +kernel) (by decide +kernel)) rfl rfl
theorem fto_RX9_30 : ftOK RX9 30 9 2 := fcl9 (by decide) (big_in 403 (by decide +kernel) (by decide +kernel)) rfl rfl
theorem fto_RX9_39 : ftOK RX9 39 9 3 := fcl9 (by decide) (big_in 404 (by decide +kernel) (by decide +kernel)) rfl rfl
theorem fto_RX9_48 : ftOK RX9 48 9 4 := fcl9 (by decide) (big_in 405 (by decide +kernel) (by decide +kernel)) rfl rfl
theorem fto_RX9_57 : ftOK RX9 57 9 5 := fcl9 (by decide) (big_in 406 (by decide +kernel) (by decide +kernel)) rfl rfl
theorem fto_RX9_64 : ftOK RX9 64 9 6 := fcl9 (by decide) (big_in 407 (by decide +kernel) (by decide +kernel)) rfl rfl
theorem fto_RX9_68 : ftOK RX9 68 9 7 := fcl9 (by decide) (big_in 408 (by decide +kernel) (by decide +kernel)) rfl rfl
theorem fto_RX9_79 : ftOK RX9 79 3 11 := fcl3 (by decide) (big_in 125 (by decide +kernel) (by decide +kernel)) rfl rfl
theorem fto_RX9_91 : ftOK RX9 91 3 12 := fcl3 (by decide) (big_in 128 (by decide +kernel) (by decide +kernel)) rfl rfl
theorem fto_RX9_116 : ftOK RX9 116 3 9 := fcl3 (by decide) (big_in 121 (by decide +kernel) (by decide +kernel)) rfl rfl
theorem fto_RX9_119 : ftOK RX9 119 3 7 := fcl3 (by decide) (big_in 116 (by decide +kernel) (by decide +kernel)) rfl rfl
theorem fto_RX9_127 : ftOK RX9 127 3 8 := fcl3 (by decide) (big_in 118 (by decide +kernel) (by decide +kernel)) rfl rfl
theorem fto_RX9_136 : ftOK RX9 136 3 10 := fcl3 (by decide) (big_in 124 (by decide +kernel) (by decide +kernel)) rfl rfl
theorem fto_RX9_139 : ftOK RX9 139 6 1 := fcl6 (by decide) (big_in 98 (by decide +kernel) (by decide +kernel)) rfl rfl
theorem fto_RX9_144 : ftOK RX9 144 4 8 := fcl4 (by decide) (big_in 293 (by decide +kernel) (by decide +kernel)) rfl rfl
theorem fto_RX9_147 : ftOK RX9 147 0 2 := fcl0 (by decide) (big_in 245 (by decide +kernel) (by decide +kernel)) rfl rfl
theorem fto_RX9_148 : ftOK RX9 148 3 13 := fcl3 (by decide) (big_in 135 (by decide +kernel) (by decide +kernel)) rfl rfl
theorem fto_RX9_151 : ftOK RX9 151 9 8 := fcl9 (by decide) (big_in 409 (by decide +kernel) (by decide +kernel)) rfl rfl
theorem fto_RX9_184 : ftOK RX9 184 4 7 := fcl4 (by decide) (big_in 291 (by decide +kernel) (by decide +kernel)) rfl rfl
theorem fto_RX9_225 : ftOK RX9 225 4 9 := fcl4 (by decide) (big_in 295 (by decide +kernel) (by decide +kernel)) rfl rfl
theorem fto_RX9_263 : ftOK RX9 263 0 1 := fcl0 (by decide) (big_in 241 (by decide +kernel) (by decide +kernel)) rfl rfl
theorem fto_RX9_296 : ftOK RX9 296 2 3 := fcl2 (by decide) (big_in 329 (by decide +kernel) (by decide +kernel)) rfl rfl
theorem fto_RX9_299 : ftOK RX9 299 2 4 := fcl2 (by decide) (big_in 331 (by decide +kernel) (by decide +kernel)) rfl rfl
theorem fto_RX9_312 : ftOK RX9 312 5 1 := fcl5 (by decide) (big_in 351 (by decide +kernel) (by decide +kernel)) rfl rfl
theorem fto_RX9_313 : ftOK RX9 313 5 2 := fcl5 (by decide) (big_in 353 (by decide +kernel) (by decide +kernel)) rfl rfl
theorem fto_RX9_327 : ftOK RX9 327 8 10 := fcl8 (by decide) (big_in 196 (by decide +kernel) (by decide +kernel)) rfl rfl
def ft_RX9 : List (Nat × (Nat × Nat)) := [(10, (9, 0)), (21, (9, 1)), (30, (9, 2)), (39, (9, 3)), (48, (9, 4)), (57, (9, 5)), (64, (9, 6)), (68, (9, 7)), (79, (3, 11)), (91, (3, 12)), (116, (3, 9)), (119, (3, 7)), (127, (3, 8)), (136, (3, 10)), (139, (6, 1)), (144, (4, 8)), (147, (0, 2)), (148, (3, 13)), (151, (9, 8)), (184, (4, 7)), (225, (4, 9)), (263, (0, 1)), (296, (2, 3)), (299, (2, 4)), (312, (5, 1)), (313, (5, 2)), (327, (8, 10))]
theorem ft_RX9_ok : ∀ x f, lkp ft_RX9 x = some f → ftOK RX9 x f.1 f.2 := fun x f h => (show ∀ q ∈ ft_RX9, ftOK RX9 q.1 q.2.1 q.2.2 from List.forall_mem_cons.mpr ⟨fto_RX9_10, List.forall_mem_cons.mpr ⟨fto_RX9_21, List.forall_mem_cons.mpr ⟨fto_RX9_30, List.forall_mem_cons.mpr ⟨fto_RX9_39, List.forall_mem_cons.mpr ⟨fto_RX9_48, List.forall_mem_cons.mpr ⟨fto_RX9_57, List.forall_mem_cons.mpr ⟨fto_RX9_64, List.forall_mem_cons.mpr ⟨fto_RX9_68, List.forall_mem_cons.mpr ⟨fto_RX9_79, List.forall_mem_cons.mpr ⟨fto_RX9_91, List.forall_mem_cons.mpr ⟨fto_RX9_116, List.forall_mem_cons.mpr ⟨fto_RX9_119, List.forall_mem_cons.mpr ⟨fto_RX9_127, List.forall_mem_cons.mpr ⟨fto_RX9_136, List.forall_mem_cons.mpr ⟨fto_RX9_139, List.forall_mem_cons.mpr ⟨fto_RX9_144, List.forall_mem_cons.mpr ⟨fto_RX9_147, List.forall_mem_cons.mpr ⟨fto_RX9_148, List.forall_mem_cons.mpr ⟨fto_RX9_151, List.forall_mem_cons.mpr ⟨fto_RX9_184, List.forall_mem_cons.mpr ⟨fto_RX9_225, List.forall_mem_cons.mpr ⟨fto_RX9_263, List.forall_mem_cons.mpr ⟨fto_RX9_296, List.forall_mem_cons.mpr ⟨fto_RX9_299, List.forall_mem_cons.mpr ⟨fto_RX9_312, List.forall_mem_cons.mpr ⟨fto_RX9_313, List.forall_mem_cons.mpr ⟨fto_RX9_327, fun _ h => absurd h List.not_mem_nil⟩⟩⟩⟩⟩⟩⟩⟩⟩⟩⟩⟩⟩⟩⟩⟩⟩⟩⟩⟩⟩⟩⟩⟩⟩⟩⟩) (x, f) (lkp_mem h)
def c32_RX9 : List (Nat × Int32) := []
theorem c32_RX9_ok : ∀ x v, lkp c32_RX9 x = some v → Cond.constant RX9 x v ∈ big := fun x f h => (show ∀ q ∈ c32_RX9, Cond.constant RX9 q.1 q.2 ∈ big from fun _ h => absurd h List.not_mem_nil) (x, f) (lkp_mem h)
def c64_RX9 : List (Nat × Int64) := []
theorem c64_RX9_ok : ∀ x v, lkp c64_RX9 x = some v → Cond.constantLong RX9 x v ∈ big := fun x f h => (show ∀ q ∈ c64_RX9, Cond.constantLong RX9 q.1 q.2 ∈ big from fun _ h => absurd h List.not_mem_nil) (x, f) (lkp_mem h)
def sf_RX9 : List (Nat × Bool) := []
theorem sf_RX9_ok : ∀ x b, lkp sf_RX9 x = some b → (bif b then Cond.fieldLink RX9 x "FrameProver$StateSet" "ONES" "[J" else Cond.fieldLink RX9 x "FrameProver$Machine" "INPUT_LANES" "[I") ∈ big := fun x f h => (show ∀ q ∈ sf_RX9, (bif q.2 then Cond.fieldLink RX9 q.1 "FrameProver$StateSet" "ONES" "[J" else Cond.fieldLink RX9 q.1 "FrameProver$Machine" "INPUT_LANES" "[I") ∈ big from fun _ h => absurd h List.not_mem_nil) (x, f) (lkp_mem h)
theorem fto_RX10_7 : ftOK RX10 7 10 0 := fcl10 (by decide) (big_in 1083 (by decide +kernel) (by decide +kernel)) rfl rfl
theorem fto_RX10_13 : ftOK RX10 13 10 1 := fcl10 (by decide) (big_in 1084 (by decide +kernel) (by decide +kernel)) rfl rfl
theorem fto_RX10_16 : ftOK RX10 16 10 2 := fcl10 (by decide) (big_in 1085 (by decide +kernel) (by decide +kernel)) rfl rfl
theorem fto_RX10_19 : ftOK RX10 19 10 3 := fcl10 (by decide) (big_in 1086 (by decide +kernel) (by decide +kernel)) rfl rfl
theorem fto_RX10_22 : ftOK RX10 22 10 4 := fcl10 (by decide) (big_in 1087 (by decide +kernel) (by decide +kernel)) rfl rfl
theorem fto_RX10_26 : ftOK RX10 26 10 9 := fcl10 (by decide) (big_in 1092 (by decide +kernel) (by decide +kernel)) rfl rfl
theorem fto_RX10_30 : ftOK RX10 30 10 12 := fcl10 (by decide) (big_in 1095 (by decide +kernel) (by decide +kernel)) rfl rfl
theorem fto_RX10_33 : ftOK RX10 33 10 13 := fcl10 (by decide) (big_in 1096 (by decide +kernel) (by decide +kernel)) rfl rfl
theorem fto_RX10_36 : ftOK RX10 36 10 14 := fcl10 (by decide) (big_in 1097 (by decide +kernel) (by decide +kernel)) rfl rfl
theorem fto_RX10_39 : ftOK RX10 39 10 15 := fcl10 (by decide) (big_in 1098 (by decide +kernel) (by decide +kernel)) rfl rfl
theorem fto_RX10_42 : ftOK RX10 42 10 16 := fcl10 (by decide) (big_in 1099 (by decide +kernel) (by decide +kernel)) rfl rfl
theorem fto_RX10_45 : ftOK RX10 45 10 17 := fcl10 (by decide) (big_in 1100 (by decide +kernel) (by decide +kernel)) rfl rfl
theorem fto_RX10_48 : ftOK RX10 48 10 20 := fcl10 (by decide) (big_in 1103 (by decide +kernel) (by decide +kernel)) rfl rfl
theorem fto_RX10_51 : ftOK RX10 51 10 21 := fcl10 (by decide) (big_in 1104 (by decide +kernel) (by decide +kernel)) rfl rfl
theorem fto_RX10_54 : ftOK RX10 54 10 22 := fcl10 (by decide) (big_in 1105 (by decide +kernel) (by decide +kernel)) rfl rfl
theorem fto_RX10_57 : ftOK RX10 57 10 27 := fcl10 (by decide) (big_in 1110 (by decide +kernel) (by decide +kernel)) rfl rfl
theorem fto_RX10_60 : ftOK RX10 60 10 28 := fcl10 (by decide) (big_in 1111 (by decide +kernel) (by decide +kernel)) rfl rfl
theorem fto_RX10_63 : ftOK RX10 63 10 29 := fcl10 (by decide) (big_in 1112 (by decide +kernel) (by decide +kernel)) rfl rfl
theorem fto_RX10_66 : ftOK RX10 66 10 30 := fcl10 (by decide) (big_in 1113 (by decide +kernel) (by decide +kernel)) rfl rfl
theorem fto_RX10_69 : ftOK RX10 69 10 31 := fcl10 (by decide) (big_in 1114 (by decide +kernel) (by decide +kernel)) rfl rfl
theorem fto_RX10_72 : ftOK RX10 72 10 32 := fcl10 (by decide) (big_in 1115 (by decide +kernel) (by decide +kernel)) rfl rfl
theorem fto_RX10_75 : ftOK RX10 75 10 34 := fcl10 (by decide) (big_in 1117 (by decide +kernel) (by decide +kernel)) rfl rfl
theorem fto_RX10_78 : ftOK RX10 78 10 35 := fcl10 (by decide) (big_in 1118 (by decide +kernel) (by decide +kernel)) rfl rfl
theorem fto_RX10_82 : ftOK RX10 82 10 36 := fcl10 (by decide) (big_in 1119 (by decide +kernel) (by decide +kernel)) rfl rfl
theorem fto_RX10_85 : ftOK RX10 85 10 37 := fcl10 (by decide) (big_in 1120 (by decide +kernel) (by decide +kernel)) rfl rfl
theorem fto_RX10_88 : ftOK RX10 88 10 38 := fcl10 (by decide) (big_in 1121 (by decide +kernel) (by decide +kernel)) rfl rfl
theorem fto_RX10_91 : ftOK RX10 91 10 40 := fcl10 (by decide) (big_in 1123 (by decide +kernel) (by decide +kernel)) rfl rfl
theorem fto_RX10_94 : ftOK RX10 94 10 41 := fcl10 (by decide) (big_in 1124 (by decide +kernel) (by decide +kernel)) rfl rfl
theorem fto_RX10_97 : ftOK RX10 97 10 44 := fcl10 (by decide) (big_in 1127 (by decide +kernel) (by decide +kernel)) rfl rfl
theorem fto_RX10_100 : ftOK RX10 100 10 45 := fcl10 (by decide) (big_in 1128 (by decide +kernel) (by decide +kernel)) rfl rfl
theorem fto_RX10_103 : ftOK RX10 103 10 46 := fcl10 (by decide) (big_in 1129 (by decide +kernel) (by decide +kernel)) rfl rfl
theorem fto_RX10_106 : ftOK RX10 106 10 6 := fcl10 (by decide) (big_in 1089 (by decide +kernel) (by decide +kernel)) rfl rfl
theorem fto_RX10_109 : ftOK RX10 109 10 7 := fcl10 (by decide) (big_in 1090 (by decide +kernel) (by decide +kernel)) rfl rfl
theorem fto_RX10_112 : ftOK RX10 112 10 5 := fcl10 (by decide) (big_in 1088 (by decide +kernel) (by decide +kernel)) rfl rfl
theorem fto_RX10_122 : ftOK RX10 122 10 8 := fcl10 (by decide) (big_in 1091 (by decide +kernel) (by decide +kernel)) rfl rfl
theorem fto_RX10_137 : ftOK RX10 137 10 10 := fcl10 (by decide) (big_in 1093 (by decide +kernel) (by decide +kernel)) rfl rfl
theorem fto_RX10_140 : ftOK RX10 140 10 11 := fcl10 (by decide) (big_in 1094 (by decide +kernel) (by decide +kernel)) rfl rfl
theorem fto_RX10_148 : ftOK RX10 148 10 25 := fcl10 (by decide) (big_in 1108 (by decide +kernel) (by decide +kernel)) rfl rfl
theorem fto_RX10_151 : ftOK RX10 151 10 39 := fcl10 (by decide) (big_in 1122 (by decide +kernel) (by decide +kernel)) rfl rfl
theorem fto_RX10_157 : ftOK RX10 157 10 18 := fcl10 (by decide) (big_in 1101 (by decide +kernel) (by decide +kernel)) rfl rfl
theorem fto_RX10_179 : ftOK RX10 179 10 19 := fcl10 (by decide) (big_in 1102 (by decide +kernel) (by decide +kernel)) rfl rfl
theorem fto_RX10_188 : ftOK RX10 188 10 23 := fcl10 (by decide) (big_in 1106 (by decide +kernel) (by decide +kernel)) rfl rfl
theorem fto_RX10_191 : ftOK RX10 191 10 24 := fcl10 (by decide) (big_in 1107 (by decide +kernel) (by decide +kernel)) rfl rfl
theorem fto_RX10_194 : ftOK RX10 194 10 26 := fcl10 (by decide) (big_in 1109 (by decide +kernel) (by decide +kernel)) rfl rfl
theorem fto_RX10_197 : ftOK RX10 197 10 33 := fcl10 (by decide) (big_in 1116 (by decide +kernel) (by decide +kernel)) rfl rfl
theorem fto_RX10_278 : ftOK RX10 278 10 42 := fcl10 (by decide) (big_in 1125 (by decide +kernel) (by decide +kernel)) rfl rfl
theorem fto_RX10_281 : ftOK RX10 281 10 43 := fcl10 (by decide) (big_in 1126 (by decide +kernel) (by decide +kernel)) rfl rfl
def ft_RX10 : List (Nat × (Nat × Nat)) := [(7, (10, 0)), (13, (10, 1)), (16, (10, 2)), (19, (10, 3)), (22, (10, 4)), (26, (10, 9)), (30, (10, 12)), (33, (10, 13)), (36, (10, 14)), (39, (10, 15)), (42, (10, 16)), (45, (10, 17)), (48, (10, 20)), (51, (10, 21)), (54, (10, 22)), (57, (10, 27)), (60, (10, 28)), (63, (10, 29)), (66, (10, 30)), (69, (10, 31)), (72, (10, 32)), (75, (10, 34)), (78, (10, 35)), (82, (10, 36)), (85, (10, 37)), (88, (10, 38)), (91, (10, 40)), (94, (10, 41)), (97, (10, 44)), (100, (10, 45)), (103, (10, 46)), (106, (10, 6)), (109, (10, 7)), (112, (10, 5)), (122, (10, 8)), (137, (10, 10)), (140, (10, 11)), (148, (10, 25)), (151, (10, 39)), (157, (10, 18)), (179, (10, 19)), (188, (10, 23)), (191, (10, 24)), (194, (10, 26)), (197, (10, 33)), (278, (10, 42)), (281, (10, 43))]
theorem ft_RX10_ok : ∀ x f, lkp ft_RX10 x = some f → ftOK RX10 x f.1 f.2 := fun x f h => (show ∀ q ∈ ft_RX10, ftOK RX10 q.1 q.2.1 q.2.2 from List.forall_mem_cons.mpr ⟨fto_RX10_7, List.forall_mem_cons.mpr ⟨fto_RX10_13, List.forall_mem_cons.mpr ⟨fto_RX10_16, List.forall_mem_cons.mpr ⟨fto_RX10_19, List.forall_mem_cons.mpr ⟨fto_RX10_22, List.forall_mem_cons.mpr ⟨fto_RX10_26, List.forall_mem_cons.mpr ⟨fto_RX10_30, List.forall_mem_cons.mpr ⟨fto_RX10_33, List.forall_mem_cons.mpr ⟨fto_RX10_36, List.forall_mem_cons.mpr ⟨fto_RX10_39, List.forall_mem_cons.mpr ⟨fto_RX10_42, List.forall_mem_cons.mpr ⟨fto_RX10_45, List.forall_mem_cons.mpr ⟨fto_RX10_48, List.forall_mem_cons.mpr ⟨fto_RX10_51, List.forall_mem_cons.mpr ⟨fto_RX10_54, List.forall_mem_cons.mpr ⟨fto_RX10_57, List.forall_mem_cons.mpr ⟨fto_RX10_60, List.forall_mem_cons.mpr ⟨fto_RX10_63, List.forall_mem_cons.mpr ⟨fto_RX10_66, List.forall_mem_cons.mpr ⟨fto_RX10_69, List.forall_mem_cons.mpr ⟨fto_RX10_72, List.forall_mem_cons.mpr ⟨fto_RX10_75, List.forall_mem_cons.mpr ⟨fto_RX10_78, List.forall_mem_cons.mpr ⟨fto_RX10_82, List.forall_mem_cons.mpr ⟨fto_RX10_85, List.forall_mem_cons.mpr ⟨fto_RX10_88, List.forall_mem_cons.mpr ⟨fto_RX10_91, List.forall_mem_cons.mpr ⟨fto_RX10_94, List.forall_mem_cons.mpr ⟨fto_RX10_97, List.forall_mem_cons.mpr ⟨fto_RX10_100, List.forall_mem_cons.mpr ⟨fto_RX10_103, List.forall_mem_cons.mpr ⟨fto_RX10_106, List.forall_mem_cons.mpr ⟨fto_RX10_109, List.forall_mem_cons.mpr ⟨fto_RX10_112, List.forall_mem_cons.mpr ⟨fto_RX10_122, List.forall_mem_cons.mpr ⟨fto_RX10_137, List.forall_mem_cons.mpr ⟨fto_RX10_140, List.forall_mem_cons.mpr ⟨fto_RX10_148, List.forall_mem_cons.mpr ⟨fto_RX10_151, List.forall_mem_cons.mpr ⟨fto_RX10_157, List.forall_mem_cons.mpr ⟨fto_RX10_179, List.forall_mem_cons.mpr ⟨fto_RX10_188, List.forall_mem_cons.mpr ⟨fto_RX10_191, List.forall_mem_cons.mpr ⟨fto_RX10_194, List.forall_mem_cons.mpr ⟨fto_RX10_197, List.forall_mem_cons.mpr ⟨fto_RX10_278, List.forall_mem_cons.mpr ⟨fto_RX10_281, fun _ h => absurd h List.not_mem_nil⟩⟩⟩⟩⟩⟩⟩⟩⟩⟩⟩⟩⟩⟩⟩⟩⟩⟩⟩⟩⟩⟩⟩⟩⟩⟩⟩⟩⟩⟩⟩⟩⟩⟩⟩⟩⟩⟩⟩⟩⟩⟩⟩⟩⟩⟩⟩) (x, f) (lkp_mem h)
def c32_RX10 : List (Nat × Int32) := [(81, 65536)]
theorem c32_RX10_ok : ∀ x v, lkp c32_RX10 x = some v → Cond.constant RX10 x v ∈ big := fun x f h => (show ∀ q ∈ c32_RX10, Cond.constant RX10 q.1 q.2 ∈ big from List.forall_mem_cons.mpr ⟨big_in 1082 (by decide +kernel) (by decide +kernel), fun _ h => absurd h List.not_mem_nil⟩) (x, f) (lkp_mem h)
def c64_RX10 : List (Nat × Int64) := [(143, 2), (250, 5000), (264, 24), (290, -8), (292, -2)]
theorem c64_RX10_ok : ∀ x v, lkp c64_RX10 x = some v → Cond.constantLong RX10 x v ∈ big := fun x f h => (show ∀ q ∈ c64_RX10, Cond.constantLong RX10 q.1 q.2 ∈ big from List.forall_mem_cons.mpr ⟨big_in 1276 (by decide +kernel) (by decide +kernel), List.forall_mem_cons.mpr ⟨big_in 1337 (by decide +kernel) (by decide +kernel), List.forall_mem_cons.mpr ⟨big_in 1444 (by decide +kernel) (by decide +kernel), List.forall_mem_cons.mpr ⟨big_in 1545 (by decide +kernel) (by decide +kernel), List.forall_mem_cons.mpr ⟨big_in 1546 (by decide +kernel) (by decide +kernel), fun _ h => absurd h List.not_mem_nil⟩⟩⟩⟩⟩) (x, f) (lkp_mem h)
def sf_RX10 : List (Nat × Bool) := []
theorem sf_RX10_ok : ∀ x b, lkp sf_RX10 x = some b → (bif b then Cond.fieldLink RX10 x "FrameProver$StateSet" "ONES" "[J" else Cond.fieldLink RX10 x "FrameProver$Machine" "INPUT_LANES" "[I") ∈ big := fun x f h => (show ∀ q ∈ sf_RX10, (bif q.2 then Cond.fieldLink RX10 q.1 "FrameProver$StateSet" "ONES" "[J" else Cond.fieldLink RX10 q.1 "FrameProver$Machine" "INPUT_LANES" "[I") ∈ big from fun _ h => absurd h List.not_mem_nil) (x, f) (lkp_mem h)
def ft_RJ13 : List (Nat × (Nat × Nat)) := []
theorem ft_RJ13_ok : ∀ x f, lkp ft_RJ13 x = some f → ftOK RJ13 x f.1 f.2 := fun x f h => (show ∀ q ∈ ft_RJ13, ftOK RJ13 q.1 q.2.1 q.2.2 from fun _ h => absurd h List.not_mem_nil) (x, f) (lkp_mem h)
def c32_RJ13 : List (Nat × Int32) := []
theorem c32_RJ13_ok : ∀ x v, lkp c32_RJ13 x = some v → Cond.constant RJ13 x v ∈ big := fun x f h => (show ∀ q ∈ c32_RJ13, Cond.constant RJ13 q.1 q.2 ∈ big from fun _ h => absurd h List.not_mem_nil) (x, f) (lkp_mem h)
def c64_RJ13 : List (Nat × Int64) := [(314, 6148914691236517205), (316, 3689348814741910323), (318, 1085102592571150095)]
theorem c64_RJ13_ok : ∀ x v, lkp c64_RJ13 x = some v → Cond.constantLong RJ13 x v ∈ big := fun x f h => (show ∀ q ∈ c64_RJ13, Cond.constantLong RJ13 q.1 q.2 ∈ big from List.forall_mem_cons.mpr ⟨big_in 882 (by decide +kernel) (by decide +kernel), List.forall_mem_cons.mpr ⟨big_in 883 (by decide +kernel) (by decide +kernel), List.forall_mem_cons.mpr ⟨big_in 884 (by decide +kernel) (by decide +kernel), fun _ h => absurd h List.not_mem_nil⟩⟩⟩) (x, f) (lkp_mem h)
def sf_RJ13 : List (Nat × Bool) := []
theorem sf_RJ13_ok : ∀ x b, lkp sf_RJ13 x = some b → (bif b then Cond.fieldLink RJ13 x "FrameProver$StateSet" "ONES" "[J" else Cond.fieldLink RJ13 x "FrameProver$Machine" "INPUT_LANES" "[I") ∈ big := fun x f h => (show ∀ q ∈ sf_RJ13, (bif q.2 then Cond.fieldLink RJ13 q.1 "FrameProver$StateSet" "ONES" "[J" else Cond.fieldLink RJ13 q.1 "FrameProver$Machine" "INPUT_LANES" "[I") ∈ big from fun _ h => absurd h List.not_mem_nil) (x, f) (lkp_mem h)
def ft_RJ9 : List (Nat × (Nat × Nat)) := []
theorem ft_RJ9_ok : ∀ x f, lkp ft_RJ9 x = some f → ftOK RJ9 x f.1 f.2 := fun x f h => (show ∀ q ∈ ft_RJ9, ftOK RJ9 q.1 q.2.1 q.2.2 from fun _ h => absurd h List.not_mem_nil) (x, f) (lkp_mem h)
def c32_RJ9 : List (Nat × Int32) := []
theorem c32_RJ9_ok : ∀ x v, lkp c32_RJ9 x = some v → Cond.constant RJ9 x v ∈ big := fun x f h => (show ∀ q ∈ c32_RJ9, Cond.constant RJ9 q.1 q.2 ∈ big from fun _ h => absurd h List.not_mem_nil) (x, f) (lkp_mem h)
def c64_RJ9 : List (Nat × Int64) := []
theorem c64_RJ9_ok : ∀ x v, lkp c64_RJ9 x = some v → Cond.constantLong RJ9 x v ∈ big := fun x f h => (show ∀ q ∈ c64_RJ9, Cond.constantLong RJ9 q.1 q.2 ∈ big from fun _ h => absurd h List.not_mem_nil) (x, f) (lkp_mem h)
def sf_RJ9 : List (Nat × Bool) := []
theorem sf_RJ9_ok : ∀ x b, lkp sf_RJ9 x = some b → (bif b then Cond.fieldLink RJ9 x "FrameProver$StateSet" "ONES" "[J" else Cond.fieldLink RJ9 x "FrameProver$Machine" "INPUT_LANES" "[I") ∈ big := fun x f h => (show ∀ q ∈ sf_RJ9, (bif q.2 then Cond.fieldLink RJ9 q.1 "FrameProver$StateSet" "ONES" "[J" else Cond.fieldLink RJ9 q.1 "FrameProver$Machine" "INPUT_LANES" "[I") ∈ big from fun _ h => absurd h List.not_mem_nil) (x, f) (lkp_mem h)
end
section
/-! what the pool entries of methods say; what is known of each method -/
theorem mi_X0_restart : Cond.code yX0_restart cX0_restart 2 none ∈ big ∧ Cond.initialized yX0_restart.cls ∈ big := ⟨big_in 376 (by decide +kernel) (by decide +kernel), big_in 66 (by decide +kernel) (by decide +kernel)⟩
theorem mv_X0_restart : Cond.instanceMethod yX0_restart ∈ big ∧ Cond.selects yX0_restart.cls yX0_restart yX0_restart ∈ big := ⟨big_in 374 (by decide +kernel) (by decide +kernel), big_in 375 (by decide +kernel) (by decide +kernel)⟩
theorem mi_X0_isFull : Cond.code yX0_isFull cX0_isFull 1 (some .boolean) ∈ big ∧ Cond.initialized yX0_isFull.cls ∈ big := ⟨big_in 745 (by decide +kernel) (by decide +kernel), big_in 66 (by decide +kernel) (by decide +kernel)⟩
theorem mv_X0_isFull : Cond.instanceMethod yX0_isFull ∈ big ∧ Cond.selects yX0_isFull.cls yX0_isFull yX0_isFull ∈ big := ⟨big_in 743 (by decide +kernel) (by decide +kernel), big_in 744 (by decide +kernel) (by decide +kernel)⟩
theorem mi_X0_hasIndex : Cond.code yX0_hasIndex cX0_hasIndex 2 (some .boolean) ∈ big ∧ Cond.initialized yX0_hasIndex.cls ∈ big := ⟨big_in 661 (by decide +kernel) (by decide +kernel), big_in 66 (by decide +kernel) (by decide +kernel)⟩
theorem mv_X0_hasIndex : Cond.instanceMethod yX0_hasIndex ∈ big ∧ Cond.selects yX0_hasIndex.cls yX0_hasIndex yX0_hasIndex ∈ big := ⟨big_in 659 (by decide +kernel) (by decide +kernel), big_in 660 (by decide +kernel) (by decide +kernel)⟩
theorem mi_X0_cubeAt : Cond.code yX0_cubeAt cX0_cubeAt 2 (some .int) ∈ big ∧ Cond.initialized yX0_cubeAt.cls ∈ big := ⟨big_in 657 (by decide +kernel) (by decide +kernel), big_in 66 (by decide +kernel) (by decide +kernel)⟩
theorem mv_X0_cubeAt : Cond.instanceMethod yX0_cubeAt ∈ big ∧ Cond.selects yX0_cubeAt.cls yX0_cubeAt yX0_cubeAt ∈ big := ⟨big_in 655 (by decide +kernel) (by decide +kernel), big_in 656 (by decide +kernel) (by decide +kernel)⟩
theorem mi_X0_put : Cond.code yX0_put cX0_put 2 (some .boolean) ∈ big ∧ Cond.initialized yX0_put.cls ∈ big := ⟨big_in 684 (by decide +kernel) (by decide +kernel), big_in 66 (by decide +kernel) (by decide +kernel)⟩
theorem mv_X0_put : Cond.instanceMethod yX0_put ∈ big ∧ Cond.selects yX0_put.cls yX0_put yX0_put ∈ big := ⟨big_in 682 (by decide +kernel) (by decide +kernel), big_in 683 (by decide +kernel) (by decide +kernel)⟩
theorem mi_X0_hasCube : Cond.code yX0_hasCube cX0_hasCube 3 (some .boolean) ∈ big ∧ Cond.initialized yX0_hasCube.cls ∈ big := ⟨big_in 665 (by decide +kernel) (by decide +kernel), big_in 66 (by decide +kernel) (by decide +kernel)⟩
theorem mv_X0_hasCube : Cond.instanceMethod yX0_hasCube ∈ big ∧ Cond.selects yX0_hasCube.cls yX0_hasCube yX0_hasCube ∈ big := ⟨big_in 663 (by decide +kernel) (by decide +kernel), big_in 664 (by decide +kernel) (by decide +kernel)⟩
theorem mi_X0_hasAllOf : Cond.code yX0_hasAllOf cX0_hasAllOf 3 (some .boolean) ∈ big ∧ Cond.initialized yX0_hasAllOf.cls ∈ big := ⟨big_in 692 (by decide +kernel) (by decide +kernel), big_in 66 (by decide +kernel) (by decide +kernel)⟩
theorem mv_X0_hasAllOf : Cond.instanceMethod yX0_hasAllOf ∈ big ∧ Cond.selects yX0_hasAllOf.cls yX0_hasAllOf yX0_hasAllOf ∈ big := ⟨big_in 690 (by decide +kernel) (by decide +kernel), big_in 691 (by decide +kernel) (by decide +kernel)⟩
theorem mi_X0_becomeLike : Cond.code yX0_becomeLike cX0_becomeLike 3 none ∈ big ∧ Cond.initialized yX0_becomeLike.cls ∈ big := ⟨big_in 826 (by decide +kernel) (by decide +kernel), big_in 66 (by decide +kernel) (by decide +kernel)⟩
theorem mv_X0_becomeLike : Cond.instanceMethod yX0_becomeLike ∈ big ∧ Cond.selects yX0_becomeLike.cls yX0_becomeLike yX0_becomeLike ∈ big := ⟨big_in 824 (by decide +kernel) (by decide +kernel), big_in 825 (by decide +kernel) (by decide +kernel)⟩
theorem mi_X0_change : Cond.code yX0_change cX0_change 3 none ∈ big ∧ Cond.initialized yX0_change.cls ∈ big := ⟨big_in 967 (by decide +kernel) (by decide +kernel), big_in 66 (by decide +kernel) (by decide +kernel)⟩
theorem mv_X0_change : Cond.instanceMethod yX0_change ∈ big ∧ Cond.selects yX0_change.cls yX0_change yX0_change ∈ big := ⟨big_in 965 (by decide +kernel) (by decide +kernel), big_in 966 (by decide +kernel) (by decide +kernel)⟩
theorem mi_X0_takeOut : Cond.code yX0_takeOut cX0_takeOut 3 none ∈ big ∧ Cond.initialized yX0_takeOut.cls ∈ big := ⟨big_in 1019 (by decide +kernel) (by decide +kernel), big_in 66 (by decide +kernel) (by decide +kernel)⟩
theorem mv_X0_takeOut : Cond.instanceMethod yX0_takeOut ∈ big ∧ Cond.selects yX0_takeOut.cls yX0_takeOut yX0_takeOut ∈ big := ⟨big_in 1017 (by decide +kernel) (by decide +kernel), big_in 1018 (by decide +kernel) (by decide +kernel)⟩
theorem mi_X0_putBack : Cond.code yX0_putBack cX0_putBack 4 none ∈ big ∧ Cond.initialized yX0_putBack.cls ∈ big := ⟨big_in 1023 (by decide +kernel) (by decide +kernel), big_in 66 (by decide +kernel) (by decide +kernel)⟩
theorem mv_X0_putBack : Cond.instanceMethod yX0_putBack ∈ big ∧ Cond.selects yX0_putBack.cls yX0_putBack yX0_putBack ∈ big := ⟨big_in 1021 (by decide +kernel) (by decide +kernel), big_in 1022 (by decide +kernel) (by decide +kernel)⟩
theorem mi_X0_findLeft : Cond.code yX0_findLeft cX0_findLeft 2 none ∈ big ∧ Cond.initialized yX0_findLeft.cls ∈ big := ⟨big_in 971 (by decide +kernel) (by decide +kernel), big_in 66 (by decide +kernel) (by decide +kernel)⟩
theorem mv_X0_findLeft : Cond.instanceMethod yX0_findLeft ∈ big ∧ Cond.selects yX0_findLeft.cls yX0_findLeft yX0_findLeft ∈ big := ⟨big_in 970 (by decide +kernel) (by decide +kernel), big_in 20 (by decide +kernel) (by decide +kernel)⟩
theorem mi_X1_restart : Cond.code yX1_restart cX1_restart 2 none ∈ big ∧ Cond.initialized yX1_restart.cls ∈ big := ⟨big_in 368 (by decide +kernel) (by decide +kernel), big_in 65 (by decide +kernel) (by decide +kernel)⟩
theorem mv_X1_restart : Cond.instanceMethod yX1_restart ∈ big ∧ Cond.selects yX1_restart.cls yX1_restart yX1_restart ∈ big := ⟨big_in 366 (by decide +kernel) (by decide +kernel), big_in 367 (by decide +kernel) (by decide +kernel)⟩
theorem mi_X1_frame : Cond.code yX1_frame cX1_frame 2 (some (.object "FrameProver$Clauses")) ∈ big ∧ Cond.initialized yX1_frame.cls ∈ big := ⟨big_in 385 (by decide +kernel) (by decide +kernel), big_in 65 (by decide +kernel) (by decide +kernel)⟩
theorem mv_X1_frame : Cond.instanceMethod yX1_frame ∈ big ∧ Cond.selects yX1_frame.cls yX1_frame yX1_frame ∈ big := ⟨big_in 383 (by decide +kernel) (by decide +kernel), big_in 384 (by decide +kernel) (by decide +kernel)⟩
theorem mi_X1_leastInto : Cond.code yX1_leastInto cX1_leastInto 5 (some .int) ∈ big ∧ Cond.initialized yX1_leastInto.cls ∈ big := ⟨big_in 714 (by decide +kernel) (by decide +kernel), big_in 65 (by decide +kernel) (by decide +kernel)⟩
theorem mv_X1_leastInto : Cond.instanceMethod yX1_leastInto ∈ big ∧ Cond.selects yX1_leastInto.cls yX1_leastInto yX1_leastInto ∈ big := ⟨big_in 712 (by decide +kernel) (by decide +kernel), big_in 713 (by decide +kernel) (by decide +kernel)⟩
theorem mi_X1_canKeepOut : Cond.code yX1_canKeepOut cX1_canKeepOut 3 (some .boolean) ∈ big ∧ Cond.initialized yX1_canKeepOut.cls ∈ big := ⟨big_in 846 (by decide +kernel) (by decide +kernel), big_in 65 (by decide +kernel) (by decide +kernel)⟩
theorem mv_X1_canKeepOut : Cond.instanceMethod yX1_canKeepOut ∈ big ∧ Cond.selects yX1_canKeepOut.cls yX1_canKeepOut yX1_canKeepOut ∈ big := ⟨big_in 844 (by decide +kernel) (by decide +kernel), big_in 845 (by decide +kernel) (by decide +kernel)⟩
theorem mi_X1_widened : Cond.code yX1_widened cX1_widened 7 (some .int) ∈ big ∧ Cond.initialized yX1_widened.cls ∈ big := ⟨big_in 733 (by decide +kernel) (by decide +kernel), big_in 65 (by decide +kernel) (by decide +kernel)⟩
theorem mv_X1_widened : Cond.instanceMethod yX1_widened ∈ big ∧ Cond.selects yX1_widened.cls yX1_widened yX1_widened ∈ big := ⟨big_in 731 (by decide +kernel) (by decide +kernel), big_in 732 (by decide +kernel) (by decide +kernel)⟩
theorem mi_X1_putUpTo : Cond.code yX1_putUpTo cX1_putUpTo 4 (some .boolean) ∈ big ∧ Cond.initialized yX1_putUpTo.cls ∈ big := ⟨big_in 741 (by decide +kernel) (by decide +kernel), big_in 65 (by decide +kernel) (by decide +kernel)⟩
theorem mv_X1_putUpTo : Cond.instanceMethod yX1_putUpTo ∈ big ∧ Cond.selects yX1_putUpTo.cls yX1_putUpTo yX1_putUpTo ∈ big := ⟨big_in 739 (by decide +kernel) (by decide +kernel), big_in 740 (by decide +kernel) (by decide +kernel)⟩
theorem mi_X1_pushOn : Cond.code yX1_pushOn cX1_pushOn 6 (some .boolean) ∈ big ∧ Cond.initialized yX1_pushOn.cls ∈ big := ⟨big_in 643 (by decide +kernel) (by decide +kernel), big_in 65 (by decide +kernel) (by decide +kernel)⟩
theorem mv_X1_pushOn : Cond.instanceMethod yX1_pushOn ∈ big ∧ Cond.selects yX1_pushOn.cls yX1_pushOn yX1_pushOn ∈ big := ⟨big_in 641 (by decide +kernel) (by decide +kernel), big_in 642 (by decide +kernel) (by decide +kernel)⟩
theorem mi_X2_fault : Cond.code yX2_fault cX2_fault 1 (some .int) ∈ big ∧ Cond.initialized yX2_fault.cls ∈ big := ⟨big_in 987 (by decide +kernel) (by decide +kernel), big_in 68 (by decide +kernel) (by decide +kernel)⟩
theorem mv_X2_fault : Cond.instanceMethod yX2_fault ∈ big ∧ Cond.selects yX2_fault.cls yX2_fault yX2_fault ∈ big := ⟨big_in 985 (by decide +kernel) (by decide +kernel), big_in 986 (by decide +kernel) (by decide +kernel)⟩
theorem mi_X2_leastThatLeadsOut : Cond.code yX2_leastThatLeadsOut cX2_leastThatLeadsOut 2 (some .int) ∈ big ∧ Cond.initialized yX2_leastThatLeadsOut.cls ∈ big := ⟨big_in 993 (by decide +kernel) (by decide +kernel), big_in 68 (by decide +kernel) (by decide +kernel)⟩
theorem mv_X2_leastThatLeadsOut : Cond.instanceMethod yX2_leastThatLeadsOut ∈ big ∧ Cond.selects yX2_leastThatLeadsOut.cls yX2_leastThatLeadsOut yX2_leastThatLeadsOut ∈ big := ⟨big_in 992 (by decide +kernel) (by decide +kernel), big_in 21 (by decide +kernel) (by decide +kernel)⟩
theorem mi_X2_judgeList : Cond.code yX2_judgeList cX2_judgeList 2 (some .int) ∈ big ∧ Cond.initialized yX2_judgeList.cls ∈ big := ⟨big_in 983 (by decide +kernel) (by decide +kernel), big_in 68 (by decide +kernel) (by decide +kernel)⟩
theorem mv_X2_judgeList : Cond.instanceMethod yX2_judgeList ∈ big ∧ Cond.selects yX2_judgeList.cls yX2_judgeList yX2_judgeList ∈ big := ⟨big_in 981 (by decide +kernel) (by decide +kernel), big_in 982 (by decide +kernel) (by decide +kernel)⟩
theorem mi_X2_shrinkList : Cond.code yX2_shrinkList cX2_shrinkList 5 (some .int) ∈ big ∧ Cond.initialized yX2_shrinkList.cls ∈ big := ⟨big_in 1014 (by decide +kernel) (by decide +kernel), big_in 68 (by decide +kernel) (by decide +kernel)⟩
theorem mv_X2_shrinkList : Cond.instanceMethod yX2_shrinkList ∈ big ∧ Cond.selects yX2_shrinkList.cls yX2_shrinkList yX2_shrinkList ∈ big := ⟨big_in 1012 (by decide +kernel) (by decide +kernel), big_in 1013 (by decide +kernel) (by decide +kernel)⟩
theorem mi_X3_isFull : Cond.code yX3_isFull cX3_isFull 1 (some .boolean) ∈ big ∧ Cond.initialized yX3_isFull.cls ∈ big := ⟨big_in 436 (by decide +kernel) (by decide +kernel), big_in 60 (by decide +kernel) (by decide +kernel)⟩
theorem mv_X3_isFull : Cond.instanceMethod yX3_isFull ∈ big ∧ Cond.selects yX3_isFull.cls yX3_isFull yX3_isFull ∈ big := ⟨big_in 434 (by decide +kernel) (by decide +kernel), big_in 435 (by decide +kernel) (by decide +kernel)⟩
theorem mi_X3_addPart : Cond.code yX3_addPart cX3_addPart 5 (some .int) ∈ big ∧ Cond.initialized yX3_addPart.cls ∈ big := ⟨big_in 448 (by decide +kernel) (by decide +kernel), big_in 60 (by decide +kernel) (by decide +kernel)⟩
theorem mv_X3_addPart : Cond.instanceMethod yX3_addPart ∈ big ∧ Cond.selects yX3_addPart.cls yX3_addPart yX3_addPart ∈ big := ⟨big_in 446 (by decide +kernel) (by decide +kernel), big_in 447 (by decide +kernel) (by decide +kernel)⟩
theorem mi_X3_addBit : Cond.code yX3_addBit cX3_addBit 4 (some .int) ∈ big ∧ Cond.initialized yX3_addBit.cls ∈ big := ⟨big_in 444 (by decide +kernel) (by decide +kernel), big_in 60 (by decide +kernel) (by decide +kernel)⟩
theorem mv_X3_addBit : Cond.instanceMethod yX3_addBit ∈ big ∧ Cond.selects yX3_addBit.cls yX3_addBit yX3_addBit ∈ big := ⟨big_in 442 (by decide +kernel) (by decide +kernel), big_in 443 (by decide +kernel) (by decide +kernel)⟩
theorem mi_X3_addInput : Cond.code yX3_addInput cX3_addInput 2 (some .int) ∈ big ∧ Cond.initialized yX3_addInput.cls ∈ big := ⟨big_in 460 (by decide +kernel) (by decide +kernel), big_in 60 (by decide +kernel) (by decide +kernel)⟩
theorem mv_X3_addInput : Cond.instanceMethod yX3_addInput ∈ big ∧ Cond.selects yX3_addInput.cls yX3_addInput yX3_addInput ∈ big := ⟨big_in 458 (by decide +kernel) (by decide +kernel), big_in 459 (by decide +kernel) (by decide +kernel)⟩
theorem mi_X3_setNext : Cond.code yX3_setNext cX3_setNext 4 (some .int) ∈ big ∧ Cond.initialized yX3_setNext.cls ∈ big := ⟨big_in 482 (by decide +kernel) (by decide +kernel), big_in 60 (by decide +kernel) (by decide +kernel)⟩
theorem mv_X3_setNext : Cond.instanceMethod yX3_setNext ∈ big ∧ Cond.selects yX3_setNext.cls yX3_setNext yX3_setNext ∈ big := ⟨big_in 480 (by decide +kernel) (by decide +kernel), big_in 481 (by decide +kernel) (by decide +kernel)⟩
theorem mi_X3_hasPart : Cond.code yX3_hasPart cX3_hasPart 2 (some .boolean) ∈ big ∧ Cond.initialized yX3_hasPart.cls ∈ big := ⟨big_in 452 (by decide +kernel) (by decide +kernel), big_in 60 (by decide +kernel) (by decide +kernel)⟩
theorem mv_X3_hasPart : Cond.instanceMethod yX3_hasPart ∈ big ∧ Cond.selects yX3_hasPart.cls yX3_hasPart yX3_hasPart ∈ big := ⟨big_in 450 (by decide +kernel) (by decide +kernel), big_in 451 (by decide +kernel) (by decide +kernel)⟩
theorem mi_X3_hasSign : Cond.code yX3_hasSign cX3_hasSign 2 (some .boolean) ∈ big ∧ Cond.initialized yX3_hasSign.cls ∈ big := ⟨big_in 468 (by decide +kernel) (by decide +kernel), big_in 60 (by decide +kernel) (by decide +kernel)⟩
theorem mv_X3_hasSign : Cond.instanceMethod yX3_hasSign ∈ big ∧ Cond.selects yX3_hasSign.cls yX3_hasSign yX3_hasSign ∈ big := ⟨big_in 466 (by decide +kernel) (by decide +kernel), big_in 467 (by decide +kernel) (by decide +kernel)⟩
theorem mi_X3_states : Cond.code yX3_states cX3_states 1 (some .int) ∈ big ∧ Cond.initialized yX3_states.cls ∈ big := ⟨big_in 372 (by decide +kernel) (by decide +kernel), big_in 60 (by decide +kernel) (by decide +kernel)⟩
theorem mv_X3_states : Cond.instanceMethod yX3_states ∈ big ∧ Cond.selects yX3_states.cls yX3_states yX3_states ∈ big := ⟨big_in 370 (by decide +kernel) (by decide +kernel), big_in 371 (by decide +kernel) (by decide +kernel)⟩
theorem mi_X3_choicesInAll : Cond.code yX3_choicesInAll cX3_choicesInAll 1 (some .int) ∈ big ∧ Cond.initialized yX3_choicesInAll.cls ∈ big := ⟨big_in 534 (by decide +kernel) (by decide +kernel), big_in 60 (by decide +kernel) (by decide +kernel)⟩
theorem mv_X3_choicesInAll : Cond.instanceMethod yX3_choicesInAll ∈ big ∧ Cond.selects yX3_choicesInAll.cls yX3_choicesInAll yX3_choicesInAll ∈ big := ⟨big_in 532 (by decide +kernel) (by decide +kernel), big_in 533 (by decide +kernel) (by decide +kernel)⟩
theorem mi_X3_hasState : Cond.code yX3_hasState cX3_hasState 2 (some .boolean) ∈ big ∧ Cond.initialized yX3_hasState.cls ∈ big := ⟨big_in 579 (by decide +kernel) (by decide +kernel), big_in 60 (by decide +kernel) (by decide +kernel)⟩
theorem mv_X3_hasState : Cond.instanceMethod yX3_hasState ∈ big ∧ Cond.selects yX3_hasState.cls yX3_hasState yX3_hasState ∈ big := ⟨big_in 577 (by decide +kernel) (by decide +kernel), big_in 578 (by decide +kernel) (by decide +kernel)⟩
theorem mi_X3_hasChoices : Cond.code yX3_hasChoices cX3_hasChoices 2 (some .boolean) ∈ big ∧ Cond.initialized yX3_hasChoices.cls ∈ big := ⟨big_in 530 (by decide +kernel) (by decide +kernel), big_in 60 (by decide +kernel) (by decide +kernel)⟩
theorem mv_X3_hasChoices : Cond.instanceMethod yX3_hasChoices ∈ big ∧ Cond.selects yX3_hasChoices.cls yX3_hasChoices yX3_hasChoices ∈ big := ⟨big_in 528 (by decide +kernel) (by decide +kernel), big_in 529 (by decide +kernel) (by decide +kernel)⟩
theorem mi_X3_kindOf : Cond.code yX3_kindOf cX3_kindOf 2 (some .int) ∈ big ∧ Cond.initialized yX3_kindOf.cls ∈ big := ⟨big_in 478 (by decide +kernel) (by decide +kernel), big_in 60 (by decide +kernel) (by decide +kernel)⟩
theorem mv_X3_kindOf : Cond.instanceMethod yX3_kindOf ∈ big ∧ Cond.selects yX3_kindOf.cls yX3_kindOf yX3_kindOf ∈ big := ⟨big_in 476 (by decide +kernel) (by decide +kernel), big_in 477 (by decide +kernel) (by decide +kernel)⟩
theorem mi_X3_firstSign : Cond.code yX3_firstSign cX3_firstSign 2 (some .int) ∈ big ∧ Cond.initialized yX3_firstSign.cls ∈ big := ⟨big_in 510 (by decide +kernel) (by decide +kernel), big_in 60 (by decide +kernel) (by decide +kernel)⟩
theorem mv_X3_firstSign : Cond.instanceMethod yX3_firstSign ∈ big ∧ Cond.selects yX3_firstSign.cls yX3_firstSign yX3_firstSign ∈ big := ⟨big_in 508 (by decide +kernel) (by decide +kernel), big_in 509 (by decide +kernel) (by decide +kernel)⟩
theorem mi_X3_secondSign : Cond.code yX3_secondSign cX3_secondSign 2 (some .int) ∈ big ∧ Cond.initialized yX3_secondSign.cls ∈ big := ⟨big_in 514 (by decide +kernel) (by decide +kernel), big_in 60 (by decide +kernel) (by decide +kernel)⟩
theorem mv_X3_secondSign : Cond.instanceMethod yX3_secondSign ∈ big ∧ Cond.selects yX3_secondSign.cls yX3_secondSign yX3_secondSign ∈ big := ⟨big_in 512 (by decide +kernel) (by decide +kernel), big_in 513 (by decide +kernel) (by decide +kernel)⟩
theorem mi_X3_evaluate : Cond.code yX3_evaluate cX3_evaluate 3 none ∈ big ∧ Cond.initialized yX3_evaluate.cls ∈ big := ⟨big_in 538 (by decide +kernel) (by decide +kernel), big_in 60 (by decide +kernel) (by decide +kernel)⟩
theorem mv_X3_evaluate : Cond.instanceMethod yX3_evaluate ∈ big ∧ Cond.selects yX3_evaluate.cls yX3_evaluate yX3_evaluate ∈ big := ⟨big_in 536 (by decide +kernel) (by decide +kernel), big_in 537 (by decide +kernel) (by decide +kernel)⟩
theorem mi_X3_lanesIn : Cond.code yX3_lanesIn cX3_lanesIn 4 (some .int) ∈ big ∧ Cond.initialized yX3_lanesIn.cls ∈ big := ⟨big_in 542 (by decide +kernel) (by decide +kernel), big_in 60 (by decide +kernel) (by decide +kernel)⟩
theorem mv_X3_lanesIn : Cond.instanceMethod yX3_lanesIn ∈ big ∧ Cond.selects yX3_lanesIn.cls yX3_lanesIn yX3_lanesIn ∈ big := ⟨big_in 541 (by decide +kernel) (by decide +kernel), big_in 3 (by decide +kernel) (by decide +kernel)⟩
theorem mi_X3_partLanes : Cond.code yX3_partLanes cX3_partLanes 2 (some .int) ∈ big ∧ Cond.initialized yX3_partLanes.cls ∈ big := ⟨big_in 1043 (by decide +kernel) (by decide +kernel), big_in 60 (by decide +kernel) (by decide +kernel)⟩
theorem mv_X3_partLanes : Cond.instanceMethod yX3_partLanes ∈ big ∧ Cond.selects yX3_partLanes.cls yX3_partLanes yX3_partLanes ∈ big := ⟨big_in 1041 (by decide +kernel) (by decide +kernel), big_in 1042 (by decide +kernel) (by decide +kernel)⟩
theorem mi_X3_signLanes : Cond.code yX3_signLanes cX3_signLanes 3 (some .int) ∈ big ∧ Cond.initialized yX3_signLanes.cls ∈ big := ⟨big_in 546 (by decide +kernel) (by decide +kernel), big_in 60 (by decide +kernel) (by decide +kernel)⟩
theorem mv_X3_signLanes : Cond.instanceMethod yX3_signLanes ∈ big ∧ Cond.selects yX3_signLanes.cls yX3_signLanes yX3_signLanes ∈ big := ⟨big_in 544 (by decide +kernel) (by decide +kernel), big_in 545 (by decide +kernel) (by decide +kernel)⟩
theorem mi_X3_rightLanes : Cond.code yX3_rightLanes cX3_rightLanes 3 (some .int) ∈ big ∧ Cond.initialized yX3_rightLanes.cls ∈ big := ⟨big_in 557 (by decide +kernel) (by decide +kernel), big_in 60 (by decide +kernel) (by decide +kernel)⟩
theorem mv_X3_rightLanes : Cond.instanceMethod yX3_rightLanes ∈ big ∧ Cond.selects yX3_rightLanes.cls yX3_rightLanes yX3_rightLanes ∈ big := ⟨big_in 555 (by decide +kernel) (by decide +kernel), big_in 556 (by decide +kernel) (by decide +kernel)⟩
theorem mi_X3_badLanes : Cond.code yX3_badLanes cX3_badLanes 1 (some .int) ∈ big ∧ Cond.initialized yX3_badLanes.cls ∈ big := ⟨big_in 585 (by decide +kernel) (by decide +kernel), big_in 60 (by decide +kernel) (by decide +kernel)⟩
theorem mv_X3_badLanes : Cond.instanceMethod yX3_badLanes ∈ big ∧ Cond.selects yX3_badLanes.cls yX3_badLanes yX3_badLanes ∈ big := ⟨big_in 583 (by decide +kernel) (by decide +kernel), big_in 584 (by decide +kernel) (by decide +kernel)⟩
theorem mi_X3_isRight : Cond.code yX3_isRight cX3_isRight 2 (some .boolean) ∈ big ∧ Cond.initialized yX3_isRight.cls ∈ big := ⟨big_in 553 (by decide +kernel) (by decide +kernel), big_in 60 (by decide +kernel) (by decide +kernel)⟩
theorem mv_X3_isRight : Cond.instanceMethod yX3_isRight ∈ big ∧ Cond.selects yX3_isRight.cls yX3_isRight yX3_isRight ∈ big := ⟨big_in 551 (by decide +kernel) (by decide +kernel), big_in 552 (by decide +kernel) (by decide +kernel)⟩
theorem mi_X3_stateAfter : Cond.code yX3_stateAfter cX3_stateAfter 5 (some .int) ∈ big ∧ Cond.initialized yX3_stateAfter.cls ∈ big := ⟨big_in 565 (by decide +kernel) (by decide +kernel), big_in 60 (by decide +kernel) (by decide +kernel)⟩
theorem mv_X3_stateAfter : Cond.instanceMethod yX3_stateAfter ∈ big ∧ Cond.selects yX3_stateAfter.cls yX3_stateAfter yX3_stateAfter ∈ big := ⟨big_in 563 (by decide +kernel) (by decide +kernel), big_in 564 (by decide +kernel) (by decide +kernel)⟩
theorem mi_X3_leastChoicesTo : Cond.code yX3_leastChoicesTo cX3_leastChoicesTo 4 (some .int) ∈ big ∧ Cond.initialized yX3_leastChoicesTo.cls ∈ big := ⟨big_in 813 (by decide +kernel) (by decide +kernel), big_in 60 (by decide +kernel) (by decide +kernel)⟩
theorem mv_X3_leastChoicesTo : Cond.instanceMethod yX3_leastChoicesTo ∈ big ∧ Cond.selects yX3_leastChoicesTo.cls yX3_leastChoicesTo yX3_leastChoicesTo ∈ big := ⟨big_in 811 (by decide +kernel) (by decide +kernel), big_in 812 (by decide +kernel) (by decide +kernel)⟩
theorem mi_X3_leastChoicesOfBad : Cond.code yX3_leastChoicesOfBad cX3_leastChoicesOfBad 3 (some .int) ∈ big ∧ Cond.initialized yX3_leastChoicesOfBad.cls ∈ big := ⟨big_in 808 (by decide +kernel) (by decide +kernel), big_in 60 (by decide +kernel) (by decide +kernel)⟩
theorem mv_X3_leastChoicesOfBad : Cond.instanceMethod yX3_leastChoicesOfBad ∈ big ∧ Cond.selects yX3_leastChoicesOfBad.cls yX3_leastChoicesOfBad yX3_leastChoicesOfBad ∈ big := ⟨big_in 806 (by decide +kernel) (by decide +kernel), big_in 807 (by decide +kernel) (by decide +kernel)⟩
theorem mi_X3_coneBits : Cond.code yX3_coneBits cX3_coneBits 3 (some .int) ∈ big ∧ Cond.initialized yX3_coneBits.cls ∈ big := ⟨big_in 909 (by decide +kernel) (by decide +kernel), big_in 60 (by decide +kernel) (by decide +kernel)⟩
theorem mv_X3_coneBits : Cond.instanceMethod yX3_coneBits ∈ big ∧ Cond.selects yX3_coneBits.cls yX3_coneBits yX3_coneBits ∈ big := ⟨big_in 907 (by decide +kernel) (by decide +kernel), big_in 908 (by decide +kernel) (by decide +kernel)⟩
theorem mi_X3_markPass : Cond.code yX3_markPass cX3_markPass 2 none ∈ big ∧ Cond.initialized yX3_markPass.cls ∈ big := ⟨big_in 918 (by decide +kernel) (by decide +kernel), big_in 60 (by decide +kernel) (by decide +kernel)⟩
theorem mv_X3_markPass : Cond.instanceMethod yX3_markPass ∈ big ∧ Cond.selects yX3_markPass.cls yX3_markPass yX3_markPass ∈ big := ⟨big_in 917 (by decide +kernel) (by decide +kernel), big_in 13 (by decide +kernel) (by decide +kernel)⟩
theorem mi_X3_isMarked : Cond.code yX3_isMarked cX3_isMarked 2 (some .boolean) ∈ big ∧ Cond.initialized yX3_isMarked.cls ∈ big := ⟨big_in 922 (by decide +kernel) (by decide +kernel), big_in 60 (by decide +kernel) (by decide +kernel)⟩
theorem mv_X3_isMarked : Cond.instanceMethod yX3_isMarked ∈ big ∧ Cond.selects yX3_isMarked.cls yX3_isMarked yX3_isMarked ∈ big := ⟨big_in 921 (by decide +kernel) (by decide +kernel), big_in 14 (by decide +kernel) (by decide +kernel)⟩
theorem mi_X3_markSign : Cond.code yX3_markSign cX3_markSign 2 none ∈ big ∧ Cond.initialized yX3_markSign.cls ∈ big := ⟨big_in 913 (by decide +kernel) (by decide +kernel), big_in 60 (by decide +kernel) (by decide +kernel)⟩
theorem mv_X3_markSign : Cond.instanceMethod yX3_markSign ∈ big ∧ Cond.selects yX3_markSign.cls yX3_markSign yX3_markSign ∈ big := ⟨big_in 912 (by decide +kernel) (by decide +kernel), big_in 12 (by decide +kernel) (by decide +kernel)⟩
theorem mi_X4_forget : Cond.code yX4_forget cX4_forget 1 none ∈ big ∧ Cond.initialized yX4_forget.cls ∈ big := ⟨big_in 398 (by decide +kernel) (by decide +kernel), big_in 67 (by decide +kernel) (by decide +kernel)⟩
theorem mv_X4_forget : Cond.instanceMethod yX4_forget ∈ big ∧ Cond.selects yX4_forget.cls yX4_forget yX4_forget ∈ big := ⟨big_in 396 (by decide +kernel) (by decide +kernel), big_in 397 (by decide +kernel) (by decide +kernel)⟩
theorem mi_X4_goOn : Cond.code yX4_goOn cX4_goOn 5 (some .int) ∈ big ∧ Cond.initialized yX4_goOn.cls ∈ big := ⟨big_in 616 (by decide +kernel) (by decide +kernel), big_in 67 (by decide +kernel) (by decide +kernel)⟩
theorem mv_X4_goOn : Cond.instanceMethod yX4_goOn ∈ big ∧ Cond.selects yX4_goOn.cls yX4_goOn yX4_goOn ∈ big := ⟨big_in 614 (by decide +kernel) (by decide +kernel), big_in 615 (by decide +kernel) (by decide +kernel)⟩
theorem mi_X4_begin : Cond.code yX4_begin cX4_begin 1 none ∈ big ∧ Cond.initialized yX4_begin.cls ∈ big := ⟨big_in 620 (by decide +kernel) (by decide +kernel), big_in 67 (by decide +kernel) (by decide +kernel)⟩
theorem mv_X4_begin : Cond.instanceMethod yX4_begin ∈ big ∧ Cond.selects yX4_begin.cls yX4_begin yX4_begin ∈ big := ⟨big_in 619 (by decide +kernel) (by decide +kernel), big_in 5 (by decide +kernel) (by decide +kernel)⟩
theorem mi_X4_look : Cond.code yX4_look cX4_look 5 none ∈ big ∧ Cond.initialized yX4_look.cls ∈ big := ⟨big_in 698 (by decide +kernel) (by decide +kernel), big_in 67 (by decide +kernel) (by decide +kernel)⟩
theorem mv_X4_look : Cond.instanceMethod yX4_look ∈ big ∧ Cond.selects yX4_look.cls yX4_look yX4_look ∈ big := ⟨big_in 697 (by decide +kernel) (by decide +kernel), big_in 8 (by decide +kernel) (by decide +kernel)⟩
theorem mi_X4_addTrouble : Cond.code yX4_addTrouble cX4_addTrouble 3 none ∈ big ∧ Cond.initialized yX4_addTrouble.cls ∈ big := ⟨big_in 635 (by decide +kernel) (by decide +kernel), big_in 67 (by decide +kernel) (by decide +kernel)⟩
theorem mv_X4_addTrouble : Cond.instanceMethod yX4_addTrouble ∈ big ∧ Cond.selects yX4_addTrouble.cls yX4_addTrouble yX4_addTrouble ∈ big := ⟨big_in 634 (by decide +kernel) (by decide +kernel), big_in 6 (by decide +kernel) (by decide +kernel)⟩
theorem mi_X4_push : Cond.code yX4_push cX4_push 2 none ∈ big ∧ Cond.initialized yX4_push.cls ∈ big := ⟨big_in 639 (by decide +kernel) (by decide +kernel), big_in 67 (by decide +kernel) (by decide +kernel)⟩
theorem mv_X4_push : Cond.instanceMethod yX4_push ∈ big ∧ Cond.selects yX4_push.cls yX4_push yX4_push ∈ big := ⟨big_in 638 (by decide +kernel) (by decide +kernel), big_in 7 (by decide +kernel) (by decide +kernel)⟩
theorem mi_X4_troubleState : Cond.code yX4_troubleState cX4_troubleState 2 (some .int) ∈ big ∧ Cond.initialized yX4_troubleState.cls ∈ big := ⟨big_in 702 (by decide +kernel) (by decide +kernel), big_in 67 (by decide +kernel) (by decide +kernel)⟩
theorem mv_X4_troubleState : Cond.instanceMethod yX4_troubleState ∈ big ∧ Cond.selects yX4_troubleState.cls yX4_troubleState yX4_troubleState ∈ big := ⟨big_in 700 (by decide +kernel) (by decide +kernel), big_in 701 (by decide +kernel) (by decide +kernel)⟩
theorem mi_X4_troubleFrame : Cond.code yX4_troubleFrame cX4_troubleFrame 2 (some .int) ∈ big ∧ Cond.initialized yX4_troubleFrame.cls ∈ big := ⟨big_in 706 (by decide +kernel) (by decide +kernel), big_in 67 (by decide +kernel) (by decide +kernel)⟩
theorem mv_X4_troubleFrame : Cond.instanceMethod yX4_troubleFrame ∈ big ∧ Cond.selects yX4_troubleFrame.cls yX4_troubleFrame yX4_troubleFrame ∈ big := ⟨big_in 704 (by decide +kernel) (by decide +kernel), big_in 705 (by decide +kernel) (by decide +kernel)⟩
theorem mi_X4_hasWall : Cond.code yX4_hasWall cX4_hasWall 1 (some .boolean) ∈ big ∧ Cond.initialized yX4_hasWall.cls ∈ big := ⟨big_in 822 (by decide +kernel) (by decide +kernel), big_in 67 (by decide +kernel) (by decide +kernel)⟩
theorem mv_X4_hasWall : Cond.instanceMethod yX4_hasWall ∈ big ∧ Cond.selects yX4_hasWall.cls yX4_hasWall yX4_hasWall ∈ big := ⟨big_in 820 (by decide +kernel) (by decide +kernel), big_in 821 (by decide +kernel) (by decide +kernel)⟩
theorem mi_X4_hasWay : Cond.code yX4_hasWay cX4_hasWay 1 (some .boolean) ∈ big ∧ Cond.initialized yX4_hasWay.cls ∈ big := ⟨big_in 780 (by decide +kernel) (by decide +kernel), big_in 67 (by decide +kernel) (by decide +kernel)⟩
theorem mv_X4_hasWay : Cond.instanceMethod yX4_hasWay ∈ big ∧ Cond.selects yX4_hasWay.cls yX4_hasWay yX4_hasWay ∈ big := ⟨big_in 778 (by decide +kernel) (by decide +kernel), big_in 779 (by decide +kernel) (by decide +kernel)⟩
theorem mi_X4_waySteps : Cond.code yX4_waySteps cX4_waySteps 1 (some .int) ∈ big ∧ Cond.initialized yX4_waySteps.cls ∈ big := ⟨big_in 784 (by decide +kernel) (by decide +kernel), big_in 67 (by decide +kernel) (by decide +kernel)⟩
theorem mv_X4_waySteps : Cond.instanceMethod yX4_waySteps ∈ big ∧ Cond.selects yX4_waySteps.cls yX4_waySteps yX4_waySteps ∈ big := ⟨big_in 782 (by decide +kernel) (by decide +kernel), big_in 783 (by decide +kernel) (by decide +kernel)⟩
theorem mi_X4_stateOfWay : Cond.code yX4_stateOfWay cX4_stateOfWay 2 (some .int) ∈ big ∧ Cond.initialized yX4_stateOfWay.cls ∈ big := ⟨big_in 793 (by decide +kernel) (by decide +kernel), big_in 67 (by decide +kernel) (by decide +kernel)⟩
theorem mv_X4_stateOfWay : Cond.instanceMethod yX4_stateOfWay ∈ big ∧ Cond.selects yX4_stateOfWay.cls yX4_stateOfWay yX4_stateOfWay ∈ big := ⟨big_in 791 (by decide +kernel) (by decide +kernel), big_in 792 (by decide +kernel) (by decide +kernel)⟩
theorem mi_X4_choiceOfWay : Cond.code yX4_choiceOfWay cX4_choiceOfWay 2 (some .int) ∈ big ∧ Cond.initialized yX4_choiceOfWay.cls ∈ big := ⟨big_in 801 (by decide +kernel) (by decide +kernel), big_in 67 (by decide +kernel) (by decide +kernel)⟩
theorem mv_X4_choiceOfWay : Cond.instanceMethod yX4_choiceOfWay ∈ big ∧ Cond.selects yX4_choiceOfWay.cls yX4_choiceOfWay yX4_choiceOfWay ∈ big := ⟨big_in 799 (by decide +kernel) (by decide +kernel), big_in 800 (by decide +kernel) (by decide +kernel)⟩
theorem mi_X5_layOut : Cond.code yX5_layOut cX5_layOut 4 none ∈ big ∧ Cond.initialized yX5_layOut.cls ∈ big := ⟨big_in 1036 (by decide +kernel) (by decide +kernel), big_in 69 (by decide +kernel) (by decide +kernel)⟩
theorem mv_X5_layOut : Cond.instanceMethod yX5_layOut ∈ big ∧ Cond.selects yX5_layOut.cls yX5_layOut yX5_layOut ∈ big := ⟨big_in 1034 (by decide +kernel) (by decide +kernel), big_in 1035 (by decide +kernel) (by decide +kernel)⟩
theorem mi_X5_number : Cond.code yX5_number cX5_number 2 (some .int) ∈ big ∧ Cond.initialized yX5_number.cls ∈ big := ⟨big_in 1055 (by decide +kernel) (by decide +kernel), big_in 69 (by decide +kernel) (by decide +kernel)⟩
theorem mv_X5_number : Cond.instanceMethod yX5_number ∈ big ∧ Cond.selects yX5_number.cls yX5_number yX5_number ∈ big := ⟨big_in 1053 (by decide +kernel) (by decide +kernel), big_in 1054 (by decide +kernel) (by decide +kernel)⟩
theorem mi_X5_hasStretch : Cond.code yX5_hasStretch cX5_hasStretch 3 (some .boolean) ∈ big ∧ Cond.initialized yX5_hasStretch.cls ∈ big := ⟨big_in 1063 (by decide +kernel) (by decide +kernel), big_in 69 (by decide +kernel) (by decide +kernel)⟩
theorem mv_X5_hasStretch : Cond.instanceMethod yX5_hasStretch ∈ big ∧ Cond.selects yX5_hasStretch.cls yX5_hasStretch yX5_hasStretch ∈ big := ⟨big_in 1061 (by decide +kernel) (by decide +kernel), big_in 1062 (by decide +kernel) (by decide +kernel)⟩
theorem mi_X5_moveStretch : Cond.code yX5_moveStretch cX5_moveStretch 4 none ∈ big ∧ Cond.initialized yX5_moveStretch.cls ∈ big := ⟨big_in 1067 (by decide +kernel) (by decide +kernel), big_in 69 (by decide +kernel) (by decide +kernel)⟩
theorem mv_X5_moveStretch : Cond.instanceMethod yX5_moveStretch ∈ big ∧ Cond.selects yX5_moveStretch.cls yX5_moveStretch yX5_moveStretch ∈ big := ⟨big_in 1065 (by decide +kernel) (by decide +kernel), big_in 1066 (by decide +kernel) (by decide +kernel)⟩
theorem mi_X6_put : Cond.code yX6_put cX6_put 2 (some .boolean) ∈ big ∧ Cond.initialized yX6_put.cls ∈ big := ⟨big_in 498 (by decide +kernel) (by decide +kernel), big_in 61 (by decide +kernel) (by decide +kernel)⟩
theorem mv_X6_put : Cond.instanceMethod yX6_put ∈ big ∧ Cond.selects yX6_put.cls yX6_put yX6_put ∈ big := ⟨big_in 496 (by decide +kernel) (by decide +kernel), big_in 497 (by decide +kernel) (by decide +kernel)⟩
theorem mi_X6_signAt : Cond.code yX6_signAt cX6_signAt 2 (some .int) ∈ big ∧ Cond.initialized yX6_signAt.cls ∈ big := ⟨big_in 561 (by decide +kernel) (by decide +kernel), big_in 61 (by decide +kernel) (by decide +kernel)⟩
theorem mv_X6_signAt : Cond.instanceMethod yX6_signAt ∈ big ∧ Cond.selects yX6_signAt.cls yX6_signAt yX6_signAt ∈ big := ⟨big_in 559 (by decide +kernel) (by decide +kernel), big_in 560 (by decide +kernel) (by decide +kernel)⟩
theorem mi_X7_has : Cond.code yX7_has cX7_has 2 (some .boolean) ∈ big ∧ Cond.initialized yX7_has.cls ∈ big := ⟨big_in 624 (by decide +kernel) (by decide +kernel), big_in 64 (by decide +kernel) (by decide +kernel)⟩
theorem mv_X7_has : Cond.instanceMethod yX7_has ∈ big ∧ Cond.selects yX7_has.cls yX7_has yX7_has ∈ big := ⟨big_in 622 (by decide +kernel) (by decide +kernel), big_in 623 (by decide +kernel) (by decide +kernel)⟩
theorem mi_X7_put : Cond.code yX7_put cX7_put 2 none ∈ big ∧ Cond.initialized yX7_put.cls ∈ big := ⟨big_in 394 (by decide +kernel) (by decide +kernel), big_in 64 (by decide +kernel) (by decide +kernel)⟩
theorem mv_X7_put : Cond.instanceMethod yX7_put ∈ big ∧ Cond.selects yX7_put.cls yX7_put yX7_put ∈ big := ⟨big_in 392 (by decide +kernel) (by decide +kernel), big_in 393 (by decide +kernel) (by decide +kernel)⟩
theorem mi_X7_becomeEmpty : Cond.code yX7_becomeEmpty cX7_becomeEmpty 1 none ∈ big ∧ Cond.initialized yX7_becomeEmpty.cls ∈ big := ⟨big_in 597 (by decide +kernel) (by decide +kernel), big_in 64 (by decide +kernel) (by decide +kernel)⟩
theorem mv_X7_becomeEmpty : Cond.instanceMethod yX7_becomeEmpty ∈ big ∧ Cond.selects yX7_becomeEmpty.cls yX7_becomeEmpty yX7_becomeEmpty ∈ big := ⟨big_in 595 (by decide +kernel) (by decide +kernel), big_in 596 (by decide +kernel) (by decide +kernel)⟩
theorem mi_X7_becomeOnly : Cond.code yX7_becomeOnly cX7_becomeOnly 2 none ∈ big ∧ Cond.initialized yX7_becomeOnly.cls ∈ big := ⟨big_in 389 (by decide +kernel) (by decide +kernel), big_in 64 (by decide +kernel) (by decide +kernel)⟩
theorem mv_X7_becomeOnly : Cond.instanceMethod yX7_becomeOnly ∈ big ∧ Cond.selects yX7_becomeOnly.cls yX7_becomeOnly yX7_becomeOnly ∈ big := ⟨big_in 387 (by decide +kernel) (by decide +kernel), big_in 388 (by decide +kernel) (by decide +kernel)⟩
theorem mi_X7_becomeFirst : Cond.code yX7_becomeFirst cX7_becomeFirst 4 none ∈ big ∧ Cond.initialized yX7_becomeFirst.cls ∈ big := ⟨big_in 380 (by decide +kernel) (by decide +kernel), big_in 64 (by decide +kernel) (by decide +kernel)⟩
theorem mv_X7_becomeFirst : Cond.instanceMethod yX7_becomeFirst ∈ big ∧ Cond.selects yX7_becomeFirst.cls yX7_becomeFirst yX7_becomeFirst ∈ big := ⟨big_in 378 (by decide +kernel) (by decide +kernel), big_in 379 (by decide +kernel) (by decide +kernel)⟩
theorem mi_X7_becomeCube : Cond.code yX7_becomeCube cX7_becomeCube 5 none ∈ big ∧ Cond.initialized yX7_becomeCube.cls ∈ big := ⟨big_in 718 (by decide +kernel) (by decide +kernel), big_in 64 (by decide +kernel) (by decide +kernel)⟩
theorem mv_X7_becomeCube : Cond.instanceMethod yX7_becomeCube ∈ big ∧ Cond.selects yX7_becomeCube.cls yX7_becomeCube yX7_becomeCube ∈ big := ⟨big_in 716 (by decide +kernel) (by decide +kernel), big_in 717 (by decide +kernel) (by decide +kernel)⟩
theorem mi_X7_wordOfCube : Cond.code yX7_wordOfCube cX7_wordOfCube 8 (some .long) ∈ big ∧ Cond.initialized yX7_wordOfCube.cls ∈ big := ⟨big_in 678 (by decide +kernel) (by decide +kernel), big_in 64 (by decide +kernel) (by decide +kernel)⟩
theorem ms_X7_wordOfCube : Cond.static yX7_wordOfCube ∈ big := big_in 677 (by decide +kernel) (by decide +kernel)
theorem mi_X7_becomeLike : Cond.code yX7_becomeLike cX7_becomeLike 3 none ∈ big ∧ Cond.initialized yX7_becomeLike.cls ∈ big := ⟨big_in 874 (by decide +kernel) (by decide +kernel), big_in 64 (by decide +kernel) (by decide +kernel)⟩
theorem mv_X7_becomeLike : Cond.instanceMethod yX7_becomeLike ∈ big ∧ Cond.selects yX7_becomeLike.cls yX7_becomeLike yX7_becomeLike ∈ big := ⟨big_in 872 (by decide +kernel) (by decide +kernel), big_in 873 (by decide +kernel) (by decide +kernel)⟩
theorem mi_X7_putAll : Cond.code yX7_putAll cX7_putAll 3 none ∈ big ∧ Cond.initialized yX7_putAll.cls ∈ big := ⟨big_in 653 (by decide +kernel) (by decide +kernel), big_in 64 (by decide +kernel) (by decide +kernel)⟩
theorem mv_X7_putAll : Cond.instanceMethod yX7_putAll ∈ big ∧ Cond.selects yX7_putAll.cls yX7_putAll yX7_putAll ∈ big := ⟨big_in 651 (by decide +kernel) (by decide +kernel), big_in 652 (by decide +kernel) (by decide +kernel)⟩
theorem mi_X7_dropAll : Cond.code yX7_dropAll cX7_dropAll 3 none ∈ big ∧ Cond.initialized yX7_dropAll.cls ∈ big := ⟨big_in 870 (by decide +kernel) (by decide +kernel), big_in 64 (by decide +kernel) (by decide +kernel)⟩
theorem mv_X7_dropAll : Cond.instanceMethod yX7_dropAll ∈ big ∧ Cond.selects yX7_dropAll.cls yX7_dropAll yX7_dropAll ∈ big := ⟨big_in 868 (by decide +kernel) (by decide +kernel), big_in 869 (by decide +kernel) (by decide +kernel)⟩
theorem mi_X7_dropCube : Cond.code yX7_dropCube cX7_dropCube 5 none ∈ big ∧ Cond.initialized yX7_dropCube.cls ∈ big := ⟨big_in 688 (by decide +kernel) (by decide +kernel), big_in 64 (by decide +kernel) (by decide +kernel)⟩
theorem mv_X7_dropCube : Cond.instanceMethod yX7_dropCube ∈ big ∧ Cond.selects yX7_dropCube.cls yX7_dropCube yX7_dropCube ∈ big := ⟨big_in 686 (by decide +kernel) (by decide +kernel), big_in 687 (by decide +kernel) (by decide +kernel)⟩
theorem mi_X7_meets : Cond.code yX7_meets cX7_meets 5 (some .boolean) ∈ big ∧ Cond.initialized yX7_meets.cls ∈ big := ⟨big_in 729 (by decide +kernel) (by decide +kernel), big_in 64 (by decide +kernel) (by decide +kernel)⟩
theorem mv_X7_meets : Cond.instanceMethod yX7_meets ∈ big ∧ Cond.selects yX7_meets.cls yX7_meets yX7_meets ∈ big := ⟨big_in 727 (by decide +kernel) (by decide +kernel), big_in 728 (by decide +kernel) (by decide +kernel)⟩
theorem mi_X7_meetsCube : Cond.code yX7_meetsCube cX7_meetsCube 7 (some .boolean) ∈ big ∧ Cond.initialized yX7_meetsCube.cls ∈ big := ⟨big_in 669 (by decide +kernel) (by decide +kernel), big_in 64 (by decide +kernel) (by decide +kernel)⟩
theorem mv_X7_meetsCube : Cond.instanceMethod yX7_meetsCube ∈ big ∧ Cond.selects yX7_meetsCube.cls yX7_meetsCube yX7_meetsCube ∈ big := ⟨big_in 667 (by decide +kernel) (by decide +kernel), big_in 668 (by decide +kernel) (by decide +kernel)⟩
theorem mi_X7_isInside : Cond.code yX7_isInside cX7_isInside 5 (some .boolean) ∈ big ∧ Cond.initialized yX7_isInside.cls ∈ big := ⟨big_in 901 (by decide +kernel) (by decide +kernel), big_in 64 (by decide +kernel) (by decide +kernel)⟩
theorem mv_X7_isInside : Cond.instanceMethod yX7_isInside ∈ big ∧ Cond.selects yX7_isInside.cls yX7_isInside yX7_isInside ∈ big := ⟨big_in 899 (by decide +kernel) (by decide +kernel), big_in 900 (by decide +kernel) (by decide +kernel)⟩
theorem mi_X7_leastCommon : Cond.code yX7_leastCommon cX7_leastCommon 3 (some .int) ∈ big ∧ Cond.initialized yX7_leastCommon.cls ∈ big := ⟨big_in 630 (by decide +kernel) (by decide +kernel), big_in 64 (by decide +kernel) (by decide +kernel)⟩
theorem mv_X7_leastCommon : Cond.instanceMethod yX7_leastCommon ∈ big ∧ Cond.selects yX7_leastCommon.cls yX7_leastCommon yX7_leastCommon ∈ big := ⟨big_in 628 (by decide +kernel) (by decide +kernel), big_in 629 (by decide +kernel) (by decide +kernel)⟩
theorem mi_X7_leastOutside : Cond.code yX7_leastOutside cX7_leastOutside 3 (some .int) ∈ big ∧ Cond.initialized yX7_leastOutside.cls ∈ big := ⟨big_in 1001 (by decide +kernel) (by decide +kernel), big_in 64 (by decide +kernel) (by decide +kernel)⟩
theorem mv_X7_leastOutside : Cond.instanceMethod yX7_leastOutside ∈ big ∧ Cond.selects yX7_leastOutside.cls yX7_leastOutside yX7_leastOutside ∈ big := ⟨big_in 999 (by decide +kernel) (by decide +kernel), big_in 1000 (by decide +kernel) (by decide +kernel)⟩
theorem mi_X7_howMany : Cond.code yX7_howMany cX7_howMany 3 (some .int) ∈ big ∧ Cond.initialized yX7_howMany.cls ∈ big := ⟨big_in 878 (by decide +kernel) (by decide +kernel), big_in 64 (by decide +kernel) (by decide +kernel)⟩
theorem mv_X7_howMany : Cond.instanceMethod yX7_howMany ∈ big ∧ Cond.selects yX7_howMany.cls yX7_howMany yX7_howMany ∈ big := ⟨big_in 876 (by decide +kernel) (by decide +kernel), big_in 877 (by decide +kernel) (by decide +kernel)⟩
theorem mi_X8_renew : Cond.code yX8_renew cX8_renew 2 none ∈ big ∧ Cond.initialized yX8_renew.cls ∈ big := ⟨big_in 593 (by decide +kernel) (by decide +kernel), big_in 63 (by decide +kernel) (by decide +kernel)⟩
theorem mv_X8_renew : Cond.instanceMethod yX8_renew ∈ big ∧ Cond.selects yX8_renew.cls yX8_renew yX8_renew ∈ big := ⟨big_in 591 (by decide +kernel) (by decide +kernel), big_in 592 (by decide +kernel) (by decide +kernel)⟩
theorem mi_X8_renewFrom : Cond.code yX8_renewFrom cX8_renewFrom 4 none ∈ big ∧ Cond.initialized yX8_renewFrom.cls ∈ big := ⟨big_in 609 (by decide +kernel) (by decide +kernel), big_in 63 (by decide +kernel) (by decide +kernel)⟩
theorem mv_X8_renewFrom : Cond.instanceMethod yX8_renewFrom ∈ big ∧ Cond.selects yX8_renewFrom.cls yX8_renewFrom yX8_renewFrom ∈ big := ⟨big_in 608 (by decide +kernel) (by decide +kernel), big_in 4 (by decide +kernel) (by decide +kernel)⟩
theorem mi_X8_from : Cond.code yX8_from cX8_from 2 (some (.object "FrameProver$StateSet")) ∈ big ∧ Cond.initialized yX8_from.cls ∈ big := ⟨big_in 605 (by decide +kernel) (by decide +kernel), big_in 63 (by decide +kernel) (by decide +kernel)⟩
theorem mv_X8_from : Cond.instanceMethod yX8_from ∈ big ∧ Cond.selects yX8_from.cls yX8_from yX8_from ∈ big := ⟨big_in 603 (by decide +kernel) (by decide +kernel), big_in 604 (by decide +kernel) (by decide +kernel)⟩
theorem mi_X8_leadsFrom : Cond.code yX8_leadsFrom cX8_leadsFrom 2 (some (.object "FrameProver$StateSet")) ∈ big ∧ Cond.initialized yX8_leadsFrom.cls ∈ big := ⟨big_in 939 (by decide +kernel) (by decide +kernel), big_in 63 (by decide +kernel) (by decide +kernel)⟩
theorem mv_X8_leadsFrom : Cond.instanceMethod yX8_leadsFrom ∈ big ∧ Cond.selects yX8_leadsFrom.cls yX8_leadsFrom yX8_leadsFrom ∈ big := ⟨big_in 938 (by decide +kernel) (by decide +kernel), big_in 16 (by decide +kernel) (by decide +kernel)⟩
theorem mi_X8_putAllFrom : Cond.code yX8_putAllFrom cX8_putAllFrom 4 none ∈ big ∧ Cond.initialized yX8_putAllFrom.cls ∈ big := ⟨big_in 648 (by decide +kernel) (by decide +kernel), big_in 63 (by decide +kernel) (by decide +kernel)⟩
theorem mv_X8_putAllFrom : Cond.instanceMethod yX8_putAllFrom ∈ big ∧ Cond.selects yX8_putAllFrom.cls yX8_putAllFrom yX8_putAllFrom ∈ big := ⟨big_in 646 (by decide +kernel) (by decide +kernel), big_in 647 (by decide +kernel) (by decide +kernel)⟩
theorem mi_X8_beginReach : Cond.code yX8_beginReach cX8_beginReach 1 none ∈ big ∧ Cond.initialized yX8_beginReach.cls ∈ big := ⟨big_in 859 (by decide +kernel) (by decide +kernel), big_in 63 (by decide +kernel) (by decide +kernel)⟩
theorem mv_X8_beginReach : Cond.instanceMethod yX8_beginReach ∈ big ∧ Cond.selects yX8_beginReach.cls yX8_beginReach yX8_beginReach ∈ big := ⟨big_in 858 (by decide +kernel) (by decide +kernel), big_in 10 (by decide +kernel) (by decide +kernel)⟩
theorem mi_X8_reachOn : Cond.code yX8_reachOn cX8_reachOn 1 (some .boolean) ∈ big ∧ Cond.initialized yX8_reachOn.cls ∈ big := ⟨big_in 865 (by decide +kernel) (by decide +kernel), big_in 63 (by decide +kernel) (by decide +kernel)⟩
theorem mv_X8_reachOn : Cond.instanceMethod yX8_reachOn ∈ big ∧ Cond.selects yX8_reachOn.cls yX8_reachOn yX8_reachOn ∈ big := ⟨big_in 864 (by decide +kernel) (by decide +kernel), big_in 11 (by decide +kernel) (by decide +kernel)⟩
theorem mi_X8_reached : Cond.code yX8_reached cX8_reached 4 (some (.object "FrameProver$StateSet")) ∈ big ∧ Cond.initialized yX8_reached.cls ∈ big := ⟨big_in 892 (by decide +kernel) (by decide +kernel), big_in 63 (by decide +kernel) (by decide +kernel)⟩
theorem mv_X8_reached : Cond.instanceMethod yX8_reached ∈ big ∧ Cond.selects yX8_reached.cls yX8_reached yX8_reached ∈ big := ⟨big_in 890 (by decide +kernel) (by decide +kernel), big_in 891 (by decide +kernel) (by decide +kernel)⟩
theorem mi_X8_fewestToBad : Cond.code yX8_fewestToBad cX8_fewestToBad 2 (some .int) ∈ big ∧ Cond.initialized yX8_fewestToBad.cls ∈ big := ⟨big_in 855 (by decide +kernel) (by decide +kernel), big_in 63 (by decide +kernel) (by decide +kernel)⟩
theorem mv_X8_fewestToBad : Cond.instanceMethod yX8_fewestToBad ∈ big ∧ Cond.selects yX8_fewestToBad.cls yX8_fewestToBad yX8_fewestToBad ∈ big := ⟨big_in 853 (by decide +kernel) (by decide +kernel), big_in 854 (by decide +kernel) (by decide +kernel)⟩
theorem mi_X8_leastForEver : Cond.code yX8_leastForEver cX8_leastForEver 3 (some .int) ∈ big ∧ Cond.initialized yX8_leastForEver.cls ∈ big := ⟨big_in 931 (by decide +kernel) (by decide +kernel), big_in 63 (by decide +kernel) (by decide +kernel)⟩
theorem mv_X8_leastForEver : Cond.instanceMethod yX8_leastForEver ∈ big ∧ Cond.selects yX8_leastForEver.cls yX8_leastForEver yX8_leastForEver ∈ big := ⟨big_in 929 (by decide +kernel) (by decide +kernel), big_in 930 (by decide +kernel) (by decide +kernel)⟩
theorem mi_X8_closeLeads : Cond.code yX8_closeLeads cX8_closeLeads 4 none ∈ big ∧ Cond.initialized yX8_closeLeads.cls ∈ big := ⟨big_in 935 (by decide +kernel) (by decide +kernel), big_in 63 (by decide +kernel) (by decide +kernel)⟩
theorem mv_X8_closeLeads : Cond.instanceMethod yX8_closeLeads ∈ big ∧ Cond.selects yX8_closeLeads.cls yX8_closeLeads yX8_closeLeads ∈ big := ⟨big_in 934 (by decide +kernel) (by decide +kernel), big_in 15 (by decide +kernel) (by decide +kernel)⟩
theorem mi_X8_findCircle : Cond.code yX8_findCircle cX8_findCircle 3 none ∈ big ∧ Cond.initialized yX8_findCircle.cls ∈ big := ⟨big_in 944 (by decide +kernel) (by decide +kernel), big_in 63 (by decide +kernel) (by decide +kernel)⟩
theorem mv_X8_findCircle : Cond.instanceMethod yX8_findCircle ∈ big ∧ Cond.selects yX8_findCircle.cls yX8_findCircle yX8_findCircle ∈ big := ⟨big_in 943 (by decide +kernel) (by decide +kernel), big_in 17 (by decide +kernel) (by decide +kernel)⟩
theorem mi_X8_isCircleFair : Cond.code yX8_isCircleFair cX8_isCircleFair 2 (some .boolean) ∈ big ∧ Cond.initialized yX8_isCircleFair.cls ∈ big := ⟨big_in 948 (by decide +kernel) (by decide +kernel), big_in 63 (by decide +kernel) (by decide +kernel)⟩
theorem mv_X8_isCircleFair : Cond.instanceMethod yX8_isCircleFair ∈ big ∧ Cond.selects yX8_isCircleFair.cls yX8_isCircleFair yX8_isCircleFair ∈ big := ⟨big_in 947 (by decide +kernel) (by decide +kernel), big_in 18 (by decide +kernel) (by decide +kernel)⟩
theorem mi_X8_isInCircle : Cond.code yX8_isInCircle cX8_isInCircle 5 (some .boolean) ∈ big ∧ Cond.initialized yX8_isInCircle.cls ∈ big := ⟨big_in 953 (by decide +kernel) (by decide +kernel), big_in 63 (by decide +kernel) (by decide +kernel)⟩
theorem mv_X8_isInCircle : Cond.instanceMethod yX8_isInCircle ∈ big ∧ Cond.selects yX8_isInCircle.cls yX8_isInCircle yX8_isInCircle ∈ big := ⟨big_in 952 (by decide +kernel) (by decide +kernel), big_in 19 (by decide +kernel) (by decide +kernel)⟩
theorem mi_X9_bit : Cond.code yX9_bit cX9_bit 4 (some .int) ∈ big ∧ Cond.initialized yX9_bit.cls ∈ big := ⟨big_in 432 (by decide +kernel) (by decide +kernel), big_in 59 (by decide +kernel) (by decide +kernel)⟩
theorem mv_X9_bit : Cond.instanceMethod yX9_bit ∈ big ∧ Cond.selects yX9_bit.cls yX9_bit yX9_bit ∈ big := ⟨big_in 430 (by decide +kernel) (by decide +kernel), big_in 431 (by decide +kernel) (by decide +kernel)⟩
theorem mi_X9_input : Cond.code yX9_input cX9_input 2 (some .int) ∈ big ∧ Cond.initialized yX9_input.cls ∈ big := ⟨big_in 456 (by decide +kernel) (by decide +kernel), big_in 59 (by decide +kernel) (by decide +kernel)⟩
theorem mv_X9_input : Cond.instanceMethod yX9_input ∈ big ∧ Cond.selects yX9_input.cls yX9_input yX9_input ∈ big := ⟨big_in 454 (by decide +kernel) (by decide +kernel), big_in 455 (by decide +kernel) (by decide +kernel)⟩
theorem mi_X9_gate : Cond.code yX9_gate cX9_gate 4 (some .int) ∈ big ∧ Cond.initialized yX9_gate.cls ∈ big := ⟨big_in 464 (by decide +kernel) (by decide +kernel), big_in 59 (by decide +kernel) (by decide +kernel)⟩
theorem mv_X9_gate : Cond.instanceMethod yX9_gate ∈ big ∧ Cond.selects yX9_gate.cls yX9_gate yX9_gate ∈ big := ⟨big_in 462 (by decide +kernel) (by decide +kernel), big_in 463 (by decide +kernel) (by decide +kernel)⟩
theorem mi_X9_next : Cond.code yX9_next cX9_next 4 (some .int) ∈ big ∧ Cond.initialized yX9_next.cls ∈ big := ⟨big_in 473 (by decide +kernel) (by decide +kernel), big_in 59 (by decide +kernel) (by decide +kernel)⟩
theorem mv_X9_next : Cond.instanceMethod yX9_next ∈ big ∧ Cond.selects yX9_next.cls yX9_next yX9_next ∈ big := ⟨big_in 471 (by decide +kernel) (by decide +kernel), big_in 472 (by decide +kernel) (by decide +kernel)⟩
theorem mi_X9_bad : Cond.code yX9_bad cX9_bad 3 (some .int) ∈ big ∧ Cond.initialized yX9_bad.cls ∈ big := ⟨big_in 486 (by decide +kernel) (by decide +kernel), big_in 59 (by decide +kernel) (by decide +kernel)⟩
theorem mv_X9_bad : Cond.instanceMethod yX9_bad ∈ big ∧ Cond.selects yX9_bad.cls yX9_bad yX9_bad ∈ big := ⟨big_in 484 (by decide +kernel) (by decide +kernel), big_in 485 (by decide +kernel) (by decide +kernel)⟩
theorem mi_X9_assume : Cond.code yX9_assume cX9_assume 2 (some .int) ∈ big ∧ Cond.initialized yX9_assume.cls ∈ big := ⟨big_in 490 (by decide +kernel) (by decide +kernel), big_in 59 (by decide +kernel) (by decide +kernel)⟩
theorem mv_X9_assume : Cond.instanceMethod yX9_assume ∈ big ∧ Cond.selects yX9_assume.cls yX9_assume yX9_assume ∈ big := ⟨big_in 488 (by decide +kernel) (by decide +kernel), big_in 489 (by decide +kernel) (by decide +kernel)⟩
theorem mi_X9_fair : Cond.code yX9_fair cX9_fair 2 (some .int) ∈ big ∧ Cond.initialized yX9_fair.cls ∈ big := ⟨big_in 502 (by decide +kernel) (by decide +kernel), big_in 59 (by decide +kernel) (by decide +kernel)⟩
theorem mv_X9_fair : Cond.instanceMethod yX9_fair ∈ big ∧ Cond.selects yX9_fair.cls yX9_fair yX9_fair ∈ big := ⟨big_in 500 (by decide +kernel) (by decide +kernel), big_in 501 (by decide +kernel) (by decide +kernel)⟩
theorem mi_X9_part : Cond.code yX9_part cX9_part 3 (some .int) ∈ big ∧ Cond.initialized yX9_part.cls ∈ big := ⟨big_in 506 (by decide +kernel) (by decide +kernel), big_in 59 (by decide +kernel) (by decide +kernel)⟩
theorem mv_X9_part : Cond.instanceMethod yX9_part ∈ big ∧ Cond.selects yX9_part.cls yX9_part yX9_part ∈ big := ⟨big_in 504 (by decide +kernel) (by decide +kernel), big_in 505 (by decide +kernel) (by decide +kernel)⟩
theorem mi_X9_count : Cond.code yX9_count cX9_count 2 (some .int) ∈ big ∧ Cond.initialized yX9_count.cls ∈ big := ⟨big_in 518 (by decide +kernel) (by decide +kernel), big_in 59 (by decide +kernel) (by decide +kernel)⟩
theorem mv_X9_count : Cond.instanceMethod yX9_count ∈ big ∧ Cond.selects yX9_count.cls yX9_count yX9_count ∈ big := ⟨big_in 516 (by decide +kernel) (by decide +kernel), big_in 517 (by decide +kernel) (by decide +kernel)⟩
theorem mi_X9_start : Cond.code yX9_start cX9_start 1 (some .int) ∈ big ∧ Cond.initialized yX9_start.cls ∈ big := ⟨big_in 522 (by decide +kernel) (by decide +kernel), big_in 59 (by decide +kernel) (by decide +kernel)⟩
theorem mv_X9_start : Cond.instanceMethod yX9_start ∈ big ∧ Cond.selects yX9_start.cls yX9_start yX9_start ∈ big := ⟨big_in 520 (by decide +kernel) (by decide +kernel), big_in 521 (by decide +kernel) (by decide +kernel)⟩
theorem mi_X9_step : Cond.code yX9_step cX9_step 2 (some .int) ∈ big ∧ Cond.initialized yX9_step.cls ∈ big := ⟨big_in 526 (by decide +kernel) (by decide +kernel), big_in 59 (by decide +kernel) (by decide +kernel)⟩
theorem mv_X9_step : Cond.instanceMethod yX9_step ∈ big ∧ Cond.selects yX9_step.cls yX9_step yX9_step ∈ big := ⟨big_in 524 (by decide +kernel) (by decide +kernel), big_in 525 (by decide +kernel) (by decide +kernel)⟩
theorem mi_X9_value : Cond.code yX9_value cX9_value 3 (some .int) ∈ big ∧ Cond.initialized yX9_value.cls ∈ big := ⟨big_in 570 (by decide +kernel) (by decide +kernel), big_in 59 (by decide +kernel) (by decide +kernel)⟩
theorem mv_X9_value : Cond.instanceMethod yX9_value ∈ big ∧ Cond.selects yX9_value.cls yX9_value yX9_value ∈ big := ⟨big_in 568 (by decide +kernel) (by decide +kernel), big_in 569 (by decide +kernel) (by decide +kernel)⟩
theorem mi_X9_at : Cond.code yX9_at cX9_at 4 (some .int) ∈ big ∧ Cond.initialized yX9_at.cls ∈ big := ⟨big_in 575 (by decide +kernel) (by decide +kernel), big_in 59 (by decide +kernel) (by decide +kernel)⟩
theorem mv_X9_at : Cond.instanceMethod yX9_at ∈ big ∧ Cond.selects yX9_at.cls yX9_at yX9_at ∈ big := ⟨big_in 573 (by decide +kernel) (by decide +kernel), big_in 574 (by decide +kernel) (by decide +kernel)⟩
theorem mi_X9_prove : Cond.code yX9_prove cX9_prove 2 (some .int) ∈ big ∧ Cond.initialized yX9_prove.cls ∈ big := ⟨big_in 589 (by decide +kernel) (by decide +kernel), big_in 59 (by decide +kernel) (by decide +kernel)⟩
theorem mv_X9_prove : Cond.instanceMethod yX9_prove ∈ big ∧ Cond.selects yX9_prove.cls yX9_prove yX9_prove ∈ big := ⟨big_in 587 (by decide +kernel) (by decide +kernel), big_in 588 (by decide +kernel) (by decide +kernel)⟩
theorem mi_X9_frames : Cond.code yX9_frames cX9_frames 1 (some .int) ∈ big ∧ Cond.initialized yX9_frames.cls ∈ big := ⟨big_in 749 (by decide +kernel) (by decide +kernel), big_in 59 (by decide +kernel) (by decide +kernel)⟩
theorem mv_X9_frames : Cond.instanceMethod yX9_frames ∈ big ∧ Cond.selects yX9_frames.cls yX9_frames yX9_frames ∈ big := ⟨big_in 747 (by decide +kernel) (by decide +kernel), big_in 748 (by decide +kernel) (by decide +kernel)⟩
theorem mi_X9_clauses : Cond.code yX9_clauses cX9_clauses 2 (some .int) ∈ big ∧ Cond.initialized yX9_clauses.cls ∈ big := ⟨big_in 753 (by decide +kernel) (by decide +kernel), big_in 59 (by decide +kernel) (by decide +kernel)⟩
theorem mv_X9_clauses : Cond.instanceMethod yX9_clauses ∈ big ∧ Cond.selects yX9_clauses.cls yX9_clauses yX9_clauses ∈ big := ⟨big_in 751 (by decide +kernel) (by decide +kernel), big_in 752 (by decide +kernel) (by decide +kernel)⟩
theorem mi_X9_clause : Cond.code yX9_clause cX9_clause 4 (some .int) ∈ big ∧ Cond.initialized yX9_clause.cls ∈ big := ⟨big_in 761 (by decide +kernel) (by decide +kernel), big_in 59 (by decide +kernel) (by decide +kernel)⟩
theorem mv_X9_clause : Cond.instanceMethod yX9_clause ∈ big ∧ Cond.selects yX9_clause.cls yX9_clause yX9_clause ∈ big := ⟨big_in 759 (by decide +kernel) (by decide +kernel), big_in 760 (by decide +kernel) (by decide +kernel)⟩
theorem mi_X9_trouble : Cond.code yX9_trouble cX9_trouble 3 (some .int) ∈ big ∧ Cond.initialized yX9_trouble.cls ∈ big := ⟨big_in 770 (by decide +kernel) (by decide +kernel), big_in 59 (by decide +kernel) (by decide +kernel)⟩
theorem mv_X9_trouble : Cond.instanceMethod yX9_trouble ∈ big ∧ Cond.selects yX9_trouble.cls yX9_trouble yX9_trouble ∈ big := ⟨big_in 768 (by decide +kernel) (by decide +kernel), big_in 769 (by decide +kernel) (by decide +kernel)⟩
theorem mi_X9_way : Cond.code yX9_way cX9_way 1 (some .int) ∈ big ∧ Cond.initialized yX9_way.cls ∈ big := ⟨big_in 776 (by decide +kernel) (by decide +kernel), big_in 59 (by decide +kernel) (by decide +kernel)⟩
theorem mv_X9_way : Cond.instanceMethod yX9_way ∈ big ∧ Cond.selects yX9_way.cls yX9_way yX9_way ∈ big := ⟨big_in 774 (by decide +kernel) (by decide +kernel), big_in 775 (by decide +kernel) (by decide +kernel)⟩
theorem mi_X9_wayState : Cond.code yX9_wayState cX9_wayState 2 (some .int) ∈ big ∧ Cond.initialized yX9_wayState.cls ∈ big := ⟨big_in 789 (by decide +kernel) (by decide +kernel), big_in 59 (by decide +kernel) (by decide +kernel)⟩
theorem mv_X9_wayState : Cond.instanceMethod yX9_wayState ∈ big ∧ Cond.selects yX9_wayState.cls yX9_wayState yX9_wayState ∈ big := ⟨big_in 787 (by decide +kernel) (by decide +kernel), big_in 788 (by decide +kernel) (by decide +kernel)⟩
theorem mi_X9_wayChoice : Cond.code yX9_wayChoice cX9_wayChoice 2 (some .int) ∈ big ∧ Cond.initialized yX9_wayChoice.cls ∈ big := ⟨big_in 797 (by decide +kernel) (by decide +kernel), big_in 59 (by decide +kernel) (by decide +kernel)⟩
theorem mv_X9_wayChoice : Cond.instanceMethod yX9_wayChoice ∈ big ∧ Cond.selects yX9_wayChoice.cls yX9_wayChoice yX9_wayChoice ∈ big := ⟨big_in 795 (by decide +kernel) (by decide +kernel), big_in 796 (by decide +kernel) (by decide +kernel)⟩
theorem mi_X9_take : Cond.code yX9_take cX9_take 2 (some .int) ∈ big ∧ Cond.initialized yX9_take.cls ∈ big := ⟨big_in 818 (by decide +kernel) (by decide +kernel), big_in 59 (by decide +kernel) (by decide +kernel)⟩
theorem mv_X9_take : Cond.instanceMethod yX9_take ∈ big ∧ Cond.selects yX9_take.cls yX9_take yX9_take ∈ big := ⟨big_in 816 (by decide +kernel) (by decide +kernel), big_in 817 (by decide +kernel) (by decide +kernel)⟩
theorem mi_X9_ask : Cond.code yX9_ask cX9_ask 4 (some .int) ∈ big ∧ Cond.initialized yX9_ask.cls ∈ big := ⟨big_in 832 (by decide +kernel) (by decide +kernel), big_in 59 (by decide +kernel) (by decide +kernel)⟩
theorem mv_X9_ask : Cond.instanceMethod yX9_ask ∈ big ∧ Cond.selects yX9_ask.cls yX9_ask yX9_ask ∈ big := ⟨big_in 830 (by decide +kernel) (by decide +kernel), big_in 831 (by decide +kernel) (by decide +kernel)⟩
theorem mi_X9_widen : Cond.code yX9_widen cX9_widen 5 (some .int) ∈ big ∧ Cond.initialized yX9_widen.cls ∈ big := ⟨big_in 842 (by decide +kernel) (by decide +kernel), big_in 59 (by decide +kernel) (by decide +kernel)⟩
theorem mv_X9_widen : Cond.instanceMethod yX9_widen ∈ big ∧ Cond.selects yX9_widen.cls yX9_widen yX9_widen ∈ big := ⟨big_in 840 (by decide +kernel) (by decide +kernel), big_in 841 (by decide +kernel) (by decide +kernel)⟩
theorem mi_X9_shortest : Cond.code yX9_shortest cX9_shortest 1 (some .int) ∈ big ∧ Cond.initialized yX9_shortest.cls ∈ big := ⟨big_in 851 (by decide +kernel) (by decide +kernel), big_in 59 (by decide +kernel) (by decide +kernel)⟩
theorem mv_X9_shortest : Cond.instanceMethod yX9_shortest ∈ big ∧ Cond.selects yX9_shortest.cls yX9_shortest yX9_shortest ∈ big := ⟨big_in 849 (by decide +kernel) (by decide +kernel), big_in 850 (by decide +kernel) (by decide +kernel)⟩
theorem mi_X9_within : Cond.code yX9_within cX9_within 2 (some .int) ∈ big ∧ Cond.initialized yX9_within.cls ∈ big := ⟨big_in 888 (by decide +kernel) (by decide +kernel), big_in 59 (by decide +kernel) (by decide +kernel)⟩
theorem mv_X9_within : Cond.instanceMethod yX9_within ∈ big ∧ Cond.selects yX9_within.cls yX9_within yX9_within ∈ big := ⟨big_in 886 (by decide +kernel) (by decide +kernel), big_in 887 (by decide +kernel) (by decide +kernel)⟩
theorem mi_X9_keeps : Cond.code yX9_keeps cX9_keeps 2 (some .int) ∈ big ∧ Cond.initialized yX9_keeps.cls ∈ big := ⟨big_in 897 (by decide +kernel) (by decide +kernel), big_in 59 (by decide +kernel) (by decide +kernel)⟩
theorem mv_X9_keeps : Cond.instanceMethod yX9_keeps ∈ big ∧ Cond.selects yX9_keeps.cls yX9_keeps yX9_keeps ∈ big := ⟨big_in 895 (by decide +kernel) (by decide +kernel), big_in 896 (by decide +kernel) (by decide +kernel)⟩
theorem mi_X9_cone : Cond.code yX9_cone cX9_cone 1 (some .int) ∈ big ∧ Cond.initialized yX9_cone.cls ∈ big := ⟨big_in 905 (by decide +kernel) (by decide +kernel), big_in 59 (by decide +kernel) (by decide +kernel)⟩
theorem mv_X9_cone : Cond.instanceMethod yX9_cone ∈ big ∧ Cond.selects yX9_cone.cls yX9_cone yX9_cone ∈ big := ⟨big_in 903 (by decide +kernel) (by decide +kernel), big_in 904 (by decide +kernel) (by decide +kernel)⟩
theorem mi_X9_live : Cond.code yX9_live cX9_live 1 (some .int) ∈ big ∧ Cond.initialized yX9_live.cls ∈ big := ⟨big_in 927 (by decide +kernel) (by decide +kernel), big_in 59 (by decide +kernel) (by decide +kernel)⟩
theorem mv_X9_live : Cond.instanceMethod yX9_live ∈ big ∧ Cond.selects yX9_live.cls yX9_live yX9_live ∈ big := ⟨big_in 925 (by decide +kernel) (by decide +kernel), big_in 926 (by decide +kernel) (by decide +kernel)⟩
theorem mi_X9_list : Cond.code yX9_list cX9_list 3 (some .int) ∈ big ∧ Cond.initialized yX9_list.cls ∈ big := ⟨big_in 958 (by decide +kernel) (by decide +kernel), big_in 59 (by decide +kernel) (by decide +kernel)⟩
theorem mv_X9_list : Cond.instanceMethod yX9_list ∈ big ∧ Cond.selects yX9_list.cls yX9_list yX9_list ∈ big := ⟨big_in 956 (by decide +kernel) (by decide +kernel), big_in 957 (by decide +kernel) (by decide +kernel)⟩
theorem mi_X9_forge : Cond.code yX9_forge cX9_forge 7 (some .int) ∈ big ∧ Cond.initialized yX9_forge.cls ∈ big := ⟨big_in 963 (by decide +kernel) (by decide +kernel), big_in 59 (by decide +kernel) (by decide +kernel)⟩
theorem mv_X9_forge : Cond.instanceMethod yX9_forge ∈ big ∧ Cond.selects yX9_forge.cls yX9_forge yX9_forge ∈ big := ⟨big_in 961 (by decide +kernel) (by decide +kernel), big_in 962 (by decide +kernel) (by decide +kernel)⟩
theorem mi_X9_clear : Cond.code yX9_clear cX9_clear 2 (some .int) ∈ big ∧ Cond.initialized yX9_clear.cls ∈ big := ⟨big_in 975 (by decide +kernel) (by decide +kernel), big_in 59 (by decide +kernel) (by decide +kernel)⟩
theorem mv_X9_clear : Cond.instanceMethod yX9_clear ∈ big ∧ Cond.selects yX9_clear.cls yX9_clear yX9_clear ∈ big := ⟨big_in 973 (by decide +kernel) (by decide +kernel), big_in 974 (by decide +kernel) (by decide +kernel)⟩
theorem mi_X9_judge : Cond.code yX9_judge cX9_judge 1 (some .int) ∈ big ∧ Cond.initialized yX9_judge.cls ∈ big := ⟨big_in 979 (by decide +kernel) (by decide +kernel), big_in 59 (by decide +kernel) (by decide +kernel)⟩
theorem mv_X9_judge : Cond.instanceMethod yX9_judge ∈ big ∧ Cond.selects yX9_judge.cls yX9_judge yX9_judge ∈ big := ⟨big_in 977 (by decide +kernel) (by decide +kernel), big_in 978 (by decide +kernel) (by decide +kernel)⟩
theorem mi_X9_fails : Cond.code yX9_fails cX9_fails 2 (some .int) ∈ big ∧ Cond.initialized yX9_fails.cls ∈ big := ⟨big_in 1005 (by decide +kernel) (by decide +kernel), big_in 59 (by decide +kernel) (by decide +kernel)⟩
theorem mv_X9_fails : Cond.instanceMethod yX9_fails ∈ big ∧ Cond.selects yX9_fails.cls yX9_fails yX9_fails ∈ big := ⟨big_in 1003 (by decide +kernel) (by decide +kernel), big_in 1004 (by decide +kernel) (by decide +kernel)⟩
theorem mi_X9_small : Cond.code yX9_small cX9_small 1 (some .int) ∈ big ∧ Cond.initialized yX9_small.cls ∈ big := ⟨big_in 1009 (by decide +kernel) (by decide +kernel), big_in 59 (by decide +kernel) (by decide +kernel)⟩
theorem mv_X9_small : Cond.instanceMethod yX9_small ∈ big ∧ Cond.selects yX9_small.cls yX9_small yX9_small ∈ big := ⟨big_in 1007 (by decide +kernel) (by decide +kernel), big_in 1008 (by decide +kernel) (by decide +kernel)⟩
theorem mi_X9_listed : Cond.code yX9_listed cX9_listed 3 (some .int) ∈ big ∧ Cond.initialized yX9_listed.cls ∈ big := ⟨big_in 1028 (by decide +kernel) (by decide +kernel), big_in 59 (by decide +kernel) (by decide +kernel)⟩
theorem mv_X9_listed : Cond.instanceMethod yX9_listed ∈ big ∧ Cond.selects yX9_listed.cls yX9_listed yX9_listed ∈ big := ⟨big_in 1026 (by decide +kernel) (by decide +kernel), big_in 1027 (by decide +kernel) (by decide +kernel)⟩
theorem mi_X9_lay : Cond.code yX9_lay cX9_lay 3 (some .int) ∈ big ∧ Cond.initialized yX9_lay.cls ∈ big := ⟨big_in 1032 (by decide +kernel) (by decide +kernel), big_in 59 (by decide +kernel) (by decide +kernel)⟩
theorem mv_X9_lay : Cond.instanceMethod yX9_lay ∈ big ∧ Cond.selects yX9_lay.cls yX9_lay yX9_lay ∈ big := ⟨big_in 1030 (by decide +kernel) (by decide +kernel), big_in 1031 (by decide +kernel) (by decide +kernel)⟩
theorem mi_X9_tear : Cond.code yX9_tear cX9_tear 2 (some .int) ∈ big ∧ Cond.initialized yX9_tear.cls ∈ big := ⟨big_in 1047 (by decide +kernel) (by decide +kernel), big_in 59 (by decide +kernel) (by decide +kernel)⟩
theorem mv_X9_tear : Cond.instanceMethod yX9_tear ∈ big ∧ Cond.selects yX9_tear.cls yX9_tear yX9_tear ∈ big := ⟨big_in 1045 (by decide +kernel) (by decide +kernel), big_in 1046 (by decide +kernel) (by decide +kernel)⟩
theorem mi_X9_row : Cond.code yX9_row cX9_row 2 (some .int) ∈ big ∧ Cond.initialized yX9_row.cls ∈ big := ⟨big_in 1051 (by decide +kernel) (by decide +kernel), big_in 59 (by decide +kernel) (by decide +kernel)⟩
theorem mv_X9_row : Cond.instanceMethod yX9_row ∈ big ∧ Cond.selects yX9_row.cls yX9_row yX9_row ∈ big := ⟨big_in 1049 (by decide +kernel) (by decide +kernel), big_in 1050 (by decide +kernel) (by decide +kernel)⟩
theorem mi_X9_copy : Cond.code yX9_copy cX9_copy 4 (some .int) ∈ big ∧ Cond.initialized yX9_copy.cls ∈ big := ⟨big_in 1059 (by decide +kernel) (by decide +kernel), big_in 59 (by decide +kernel) (by decide +kernel)⟩
theorem mv_X9_copy : Cond.instanceMethod yX9_copy ∈ big ∧ Cond.selects yX9_copy.cls yX9_copy yX9_copy ∈ big := ⟨big_in 1057 (by decide +kernel) (by decide +kernel), big_in 1058 (by decide +kernel) (by decide +kernel)⟩
theorem mi_X9_status : Cond.code yX9_status cX9_status 2 (some .int) ∈ big ∧ Cond.initialized yX9_status.cls ∈ big := ⟨big_in 1075 (by decide +kernel) (by decide +kernel), big_in 59 (by decide +kernel) (by decide +kernel)⟩
theorem mv_X9_status : Cond.instanceMethod yX9_status ∈ big ∧ Cond.selects yX9_status.cls yX9_status yX9_status ∈ big := ⟨big_in 1073 (by decide +kernel) (by decide +kernel), big_in 1074 (by decide +kernel) (by decide +kernel)⟩
theorem mi_X9_refuse : Cond.code yX9_refuse cX9_refuse 2 (some .int) ∈ big ∧ Cond.initialized yX9_refuse.cls ∈ big := ⟨big_in 440 (by decide +kernel) (by decide +kernel), big_in 59 (by decide +kernel) (by decide +kernel)⟩
theorem mv_X9_refuse : Cond.instanceMethod yX9_refuse ∈ big ∧ Cond.selects yX9_refuse.cls yX9_refuse yX9_refuse ∈ big := ⟨big_in 439 (by decide +kernel) (by decide +kernel), big_in 1 (by decide +kernel) (by decide +kernel)⟩
theorem mi_X9_startAnew : Cond.code yX9_startAnew cX9_startAnew 1 none ∈ big ∧ Cond.initialized yX9_startAnew.cls ∈ big := ⟨big_in 364 (by decide +kernel) (by decide +kernel), big_in 59 (by decide +kernel) (by decide +kernel)⟩
theorem mv_X9_startAnew : Cond.instanceMethod yX9_startAnew ∈ big ∧ Cond.selects yX9_startAnew.cls yX9_startAnew yX9_startAnew ∈ big := ⟨big_in 363 (by decide +kernel) (by decide +kernel), big_in 0 (by decide +kernel) (by decide +kernel)⟩
theorem mi_X9_addSign : Cond.code yX9_addSign cX9_addSign 3 (some .int) ∈ big ∧ Cond.initialized yX9_addSign.cls ∈ big := ⟨big_in 494 (by decide +kernel) (by decide +kernel), big_in 59 (by decide +kernel) (by decide +kernel)⟩
theorem mv_X9_addSign : Cond.instanceMethod yX9_addSign ∈ big ∧ Cond.selects yX9_addSign.cls yX9_addSign yX9_addSign ∈ big := ⟨big_in 493 (by decide +kernel) (by decide +kernel), big_in 2 (by decide +kernel) (by decide +kernel)⟩
theorem mi_X9_isLaterFrame : Cond.code yX9_isLaterFrame cX9_isLaterFrame 1 (some .boolean) ∈ big ∧ Cond.initialized yX9_isLaterFrame.cls ∈ big := ⟨big_in 756 (by decide +kernel) (by decide +kernel), big_in 59 (by decide +kernel) (by decide +kernel)⟩
theorem ms_X9_isLaterFrame : Cond.static yX9_isLaterFrame ∈ big := big_in 755 (by decide +kernel) (by decide +kernel)
theorem mi_X9_isCube : Cond.code yX9_isCube cX9_isCube 3 (some .boolean) ∈ big ∧ Cond.initialized yX9_isCube.cls ∈ big := ⟨big_in 836 (by decide +kernel) (by decide +kernel), big_in 59 (by decide +kernel) (by decide +kernel)⟩
theorem mv_X9_isCube : Cond.instanceMethod yX9_isCube ∈ big ∧ Cond.selects yX9_isCube.cls yX9_isCube yX9_isCube ∈ big := ⟨big_in 835 (by decide +kernel) (by decide +kernel), big_in 9 (by decide +kernel) (by decide +kernel)⟩
theorem mi_X9_cubeOf : Cond.code yX9_cubeOf cX9_cubeOf 2 (some .int) ∈ big ∧ Cond.initialized yX9_cubeOf.cls ∈ big := ⟨big_in 710 (by decide +kernel) (by decide +kernel), big_in 59 (by decide +kernel) (by decide +kernel)⟩
theorem ms_X9_cubeOf : Cond.static yX9_cubeOf ∈ big := big_in 709 (by decide +kernel) (by decide +kernel)
theorem mi_X9_maskOf : Cond.code yX9_maskOf cX9_maskOf 1 (some .int) ∈ big ∧ Cond.initialized yX9_maskOf.cls ∈ big := ⟨big_in 672 (by decide +kernel) (by decide +kernel), big_in 59 (by decide +kernel) (by decide +kernel)⟩
theorem ms_X9_maskOf : Cond.static yX9_maskOf ∈ big := big_in 671 (by decide +kernel) (by decide +kernel)
theorem mi_X9_valuesOf : Cond.code yX9_valuesOf cX9_valuesOf 1 (some .int) ∈ big ∧ Cond.initialized yX9_valuesOf.cls ∈ big := ⟨big_in 675 (by decide +kernel) (by decide +kernel), big_in 59 (by decide +kernel) (by decide +kernel)⟩
theorem ms_X9_valuesOf : Cond.static yX9_valuesOf ∈ big := big_in 674 (by decide +kernel) (by decide +kernel)
theorem mi_X9_halfOf : Cond.code yX9_halfOf cX9_halfOf 2 (some .int) ∈ big ∧ Cond.initialized yX9_halfOf.cls ∈ big := ⟨big_in 766 (by decide +kernel) (by decide +kernel), big_in 59 (by decide +kernel) (by decide +kernel)⟩
theorem ms_X9_halfOf : Cond.static yX9_halfOf ∈ big := big_in 765 (by decide +kernel) (by decide +kernel)
theorem mi_X9_isInCube : Cond.code yX9_isInCube cX9_isInCube 2 (some .boolean) ∈ big ∧ Cond.initialized yX9_isInCube.cls ∈ big := ⟨big_in 722 (by decide +kernel) (by decide +kernel), big_in 59 (by decide +kernel) (by decide +kernel)⟩
theorem ms_X9_isInCube : Cond.static yX9_isInCube ∈ big := big_in 721 (by decide +kernel) (by decide +kernel)
theorem mi_X10_isIn : Cond.code yX10_isIn cX10_isIn 6 (some .boolean) ∈ big ∧ Cond.initialized yX10_isIn.cls ∈ big := ⟨big_in 1259 (by decide +kernel) (by decide +kernel), big_in 70 (by decide +kernel) (by decide +kernel)⟩
theorem ms_X10_isIn : Cond.static yX10_isIn ∈ big := big_in 1258 (by decide +kernel) (by decide +kernel)
theorem mi_X10_no : Cond.code yX10_no cX10_no 2 (some .int) ∈ big ∧ Cond.initialized yX10_no.cls ∈ big := ⟨big_in 1232 (by decide +kernel) (by decide +kernel), big_in 70 (by decide +kernel) (by decide +kernel)⟩
theorem mv_X10_no : Cond.instanceMethod yX10_no ∈ big ∧ Cond.selects yX10_no.cls yX10_no yX10_no ∈ big := ⟨big_in 1231 (by decide +kernel) (by decide +kernel), big_in 22 (by decide +kernel) (by decide +kernel)⟩
theorem mi_X10_states : Cond.code yX10_states cX10_states 1 (some .int) ∈ big ∧ Cond.initialized yX10_states.cls ∈ big := ⟨big_in 1304 (by decide +kernel) (by decide +kernel), big_in 70 (by decide +kernel) (by decide +kernel)⟩
theorem mv_X10_states : Cond.instanceMethod yX10_states ∈ big ∧ Cond.selects yX10_states.cls yX10_states yX10_states ∈ big := ⟨big_in 1303 (by decide +kernel) (by decide +kernel), big_in 29 (by decide +kernel) (by decide +kernel)⟩
theorem mi_X10_ways : Cond.code yX10_ways cX10_ways 1 (some .int) ∈ big ∧ Cond.initialized yX10_ways.cls ∈ big := ⟨big_in 1296 (by decide +kernel) (by decide +kernel), big_in 70 (by decide +kernel) (by decide +kernel)⟩
theorem mv_X10_ways : Cond.instanceMethod yX10_ways ∈ big ∧ Cond.selects yX10_ways.cls yX10_ways yX10_ways ∈ big := ⟨big_in 1295 (by decide +kernel) (by decide +kernel), big_in 27 (by decide +kernel) (by decide +kernel)⟩
theorem mi_X10_isSign : Cond.code yX10_isSign cX10_isSign 2 (some .boolean) ∈ big ∧ Cond.initialized yX10_isSign.cls ∈ big := ⟨big_in 1252 (by decide +kernel) (by decide +kernel), big_in 70 (by decide +kernel) (by decide +kernel)⟩
theorem mv_X10_isSign : Cond.instanceMethod yX10_isSign ∈ big ∧ Cond.selects yX10_isSign.cls yX10_isSign yX10_isSign ∈ big := ⟨big_in 1251 (by decide +kernel) (by decide +kernel), big_in 25 (by decide +kernel) (by decide +kernel)⟩
theorem mi_X10_adds : Cond.code yX10_adds cX10_adds 5 (some .int) ∈ big ∧ Cond.initialized yX10_adds.cls ∈ big := ⟨big_in 1236 (by decide +kernel) (by decide +kernel), big_in 70 (by decide +kernel) (by decide +kernel)⟩
theorem mv_X10_adds : Cond.instanceMethod yX10_adds ∈ big ∧ Cond.selects yX10_adds.cls yX10_adds yX10_adds ∈ big := ⟨big_in 1235 (by decide +kernel) (by decide +kernel), big_in 23 (by decide +kernel) (by decide +kernel)⟩
theorem mi_X10_bit : Cond.code yX10_bit cX10_bit 3 (some .int) ∈ big ∧ Cond.initialized yX10_bit.cls ∈ big := ⟨big_in 1228 (by decide +kernel) (by decide +kernel), big_in 70 (by decide +kernel) (by decide +kernel)⟩
theorem mv_X10_bit : Cond.instanceMethod yX10_bit ∈ big ∧ Cond.selects yX10_bit.cls yX10_bit yX10_bit ∈ big := ⟨big_in 1226 (by decide +kernel) (by decide +kernel), big_in 1227 (by decide +kernel) (by decide +kernel)⟩
theorem mi_X10_input : Cond.code yX10_input cX10_input 1 (some .int) ∈ big ∧ Cond.initialized yX10_input.cls ∈ big := ⟨big_in 1244 (by decide +kernel) (by decide +kernel), big_in 70 (by decide +kernel) (by decide +kernel)⟩
theorem mv_X10_input : Cond.instanceMethod yX10_input ∈ big ∧ Cond.selects yX10_input.cls yX10_input yX10_input ∈ big := ⟨big_in 1242 (by decide +kernel) (by decide +kernel), big_in 1243 (by decide +kernel) (by decide +kernel)⟩
theorem mi_X10_gate : Cond.code yX10_gate cX10_gate 3 (some .int) ∈ big ∧ Cond.initialized yX10_gate.cls ∈ big := ⟨big_in 1248 (by decide +kernel) (by decide +kernel), big_in 70 (by decide +kernel) (by decide +kernel)⟩
theorem mv_X10_gate : Cond.instanceMethod yX10_gate ∈ big ∧ Cond.selects yX10_gate.cls yX10_gate yX10_gate ∈ big := ⟨big_in 1246 (by decide +kernel) (by decide +kernel), big_in 1247 (by decide +kernel) (by decide +kernel)⟩
theorem mi_X10_next : Cond.code yX10_next cX10_next 4 (some .int) ∈ big ∧ Cond.initialized yX10_next.cls ∈ big := ⟨big_in 1256 (by decide +kernel) (by decide +kernel), big_in 70 (by decide +kernel) (by decide +kernel)⟩
theorem mv_X10_next : Cond.instanceMethod yX10_next ∈ big ∧ Cond.selects yX10_next.cls yX10_next yX10_next ∈ big := ⟨big_in 1254 (by decide +kernel) (by decide +kernel), big_in 1255 (by decide +kernel) (by decide +kernel)⟩
theorem mi_X10_bad : Cond.code yX10_bad cX10_bad 3 (some .int) ∈ big ∧ Cond.initialized yX10_bad.cls ∈ big := ⟨big_in 1263 (by decide +kernel) (by decide +kernel), big_in 70 (by decide +kernel) (by decide +kernel)⟩
theorem mv_X10_bad : Cond.instanceMethod yX10_bad ∈ big ∧ Cond.selects yX10_bad.cls yX10_bad yX10_bad ∈ big := ⟨big_in 1261 (by decide +kernel) (by decide +kernel), big_in 1262 (by decide +kernel) (by decide +kernel)⟩
theorem mi_X10_assume : Cond.code yX10_assume cX10_assume 2 (some .int) ∈ big ∧ Cond.initialized yX10_assume.cls ∈ big := ⟨big_in 1267 (by decide +kernel) (by decide +kernel), big_in 70 (by decide +kernel) (by decide +kernel)⟩
theorem mv_X10_assume : Cond.instanceMethod yX10_assume ∈ big ∧ Cond.selects yX10_assume.cls yX10_assume yX10_assume ∈ big := ⟨big_in 1265 (by decide +kernel) (by decide +kernel), big_in 1266 (by decide +kernel) (by decide +kernel)⟩
theorem mi_X10_fair : Cond.code yX10_fair cX10_fair 2 (some .int) ∈ big ∧ Cond.initialized yX10_fair.cls ∈ big := ⟨big_in 1271 (by decide +kernel) (by decide +kernel), big_in 70 (by decide +kernel) (by decide +kernel)⟩
theorem mv_X10_fair : Cond.instanceMethod yX10_fair ∈ big ∧ Cond.selects yX10_fair.cls yX10_fair yX10_fair ∈ big := ⟨big_in 1269 (by decide +kernel) (by decide +kernel), big_in 1270 (by decide +kernel) (by decide +kernel)⟩
theorem mi_X10_part : Cond.code yX10_part cX10_part 3 (some .int) ∈ big ∧ Cond.initialized yX10_part.cls ∈ big := ⟨big_in 1275 (by decide +kernel) (by decide +kernel), big_in 70 (by decide +kernel) (by decide +kernel)⟩
theorem mv_X10_part : Cond.instanceMethod yX10_part ∈ big ∧ Cond.selects yX10_part.cls yX10_part yX10_part ∈ big := ⟨big_in 1273 (by decide +kernel) (by decide +kernel), big_in 1274 (by decide +kernel) (by decide +kernel)⟩
theorem mi_X10_sorted : Cond.code yX10_sorted cX10_sorted 4 (some .int) ∈ big ∧ Cond.initialized yX10_sorted.cls ∈ big := ⟨big_in 1284 (by decide +kernel) (by decide +kernel), big_in 70 (by decide +kernel) (by decide +kernel)⟩
theorem mv_X10_sorted : Cond.instanceMethod yX10_sorted ∈ big ∧ Cond.selects yX10_sorted.cls yX10_sorted yX10_sorted ∈ big := ⟨big_in 1283 (by decide +kernel) (by decide +kernel), big_in 26 (by decide +kernel) (by decide +kernel)⟩
theorem mi_X10_count : Cond.code yX10_count cX10_count 2 (some .int) ∈ big ∧ Cond.initialized yX10_count.cls ∈ big := ⟨big_in 1280 (by decide +kernel) (by decide +kernel), big_in 70 (by decide +kernel) (by decide +kernel)⟩
theorem mv_X10_count : Cond.instanceMethod yX10_count ∈ big ∧ Cond.selects yX10_count.cls yX10_count yX10_count ∈ big := ⟨big_in 1278 (by decide +kernel) (by decide +kernel), big_in 1279 (by decide +kernel) (by decide +kernel)⟩
theorem mi_X10_is : Cond.code yX10_is cX10_is 2 (some .boolean) ∈ big ∧ Cond.initialized yX10_is.cls ∈ big := ⟨big_in 1312 (by decide +kernel) (by decide +kernel), big_in 70 (by decide +kernel) (by decide +kernel)⟩
theorem mv_X10_is : Cond.instanceMethod yX10_is ∈ big ∧ Cond.selects yX10_is.cls yX10_is yX10_is ∈ big := ⟨big_in 1311 (by decide +kernel) (by decide +kernel), big_in 31 (by decide +kernel) (by decide +kernel)⟩
theorem mi_X10_show : Cond.code yX10_show cX10_show 4 none ∈ big ∧ Cond.initialized yX10_show.cls ∈ big := ⟨big_in 1308 (by decide +kernel) (by decide +kernel), big_in 70 (by decide +kernel) (by decide +kernel)⟩
theorem mv_X10_show : Cond.instanceMethod yX10_show ∈ big ∧ Cond.selects yX10_show.cls yX10_show yX10_show ∈ big := ⟨big_in 1307 (by decide +kernel) (by decide +kernel), big_in 30 (by decide +kernel) (by decide +kernel)⟩
theorem mi_X10_isRight : Cond.code yX10_isRight cX10_isRight 3 (some .boolean) ∈ big ∧ Cond.initialized yX10_isRight.cls ∈ big := ⟨big_in 1316 (by decide +kernel) (by decide +kernel), big_in 70 (by decide +kernel) (by decide +kernel)⟩
theorem mv_X10_isRight : Cond.instanceMethod yX10_isRight ∈ big ∧ Cond.selects yX10_isRight.cls yX10_isRight yX10_isRight ∈ big := ⟨big_in 1315 (by decide +kernel) (by decide +kernel), big_in 32 (by decide +kernel) (by decide +kernel)⟩
theorem mi_X10_comes : Cond.code yX10_comes cX10_comes 3 (some .int) ∈ big ∧ Cond.initialized yX10_comes.cls ∈ big := ⟨big_in 1320 (by decide +kernel) (by decide +kernel), big_in 70 (by decide +kernel) (by decide +kernel)⟩
theorem mv_X10_comes : Cond.instanceMethod yX10_comes ∈ big ∧ Cond.selects yX10_comes.cls yX10_comes yX10_comes ∈ big := ⟨big_in 1319 (by decide +kernel) (by decide +kernel), big_in 33 (by decide +kernel) (by decide +kernel)⟩
theorem mi_X10_table : Cond.code yX10_table cX10_table 5 none ∈ big ∧ Cond.initialized yX10_table.cls ∈ big := ⟨big_in 1300 (by decide +kernel) (by decide +kernel), big_in 70 (by decide +kernel) (by decide +kernel)⟩
theorem mv_X10_table : Cond.instanceMethod yX10_table ∈ big ∧ Cond.selects yX10_table.cls yX10_table yX10_table ∈ big := ⟨big_in 1299 (by decide +kernel) (by decide +kernel), big_in 28 (by decide +kernel) (by decide +kernel)⟩
theorem mi_X10_isBadState : Cond.code yX10_isBadState cX10_isBadState 4 (some .boolean) ∈ big ∧ Cond.initialized yX10_isBadState.cls ∈ big := ⟨big_in 1341 (by decide +kernel) (by decide +kernel), big_in 70 (by decide +kernel) (by decide +kernel)⟩
theorem mv_X10_isBadState : Cond.instanceMethod yX10_isBadState ∈ big ∧ Cond.selects yX10_isBadState.cls yX10_isBadState yX10_isBadState ∈ big := ⟨big_in 1340 (by decide +kernel) (by decide +kernel), big_in 35 (by decide +kernel) (by decide +kernel)⟩
theorem mi_X10_leads : Cond.code yX10_leads cX10_leads 5 (some .boolean) ∈ big ∧ Cond.initialized yX10_leads.cls ∈ big := ⟨big_in 1400 (by decide +kernel) (by decide +kernel), big_in 70 (by decide +kernel) (by decide +kernel)⟩
theorem mv_X10_leads : Cond.instanceMethod yX10_leads ∈ big ∧ Cond.selects yX10_leads.cls yX10_leads yX10_leads ∈ big := ⟨big_in 1399 (by decide +kernel) (by decide +kernel), big_in 49 (by decide +kernel) (by decide +kernel)⟩
theorem mi_X10_start : Cond.code yX10_start cX10_start 1 (some .int) ∈ big ∧ Cond.initialized yX10_start.cls ∈ big := ⟨big_in 1288 (by decide +kernel) (by decide +kernel), big_in 70 (by decide +kernel) (by decide +kernel)⟩
theorem mv_X10_start : Cond.instanceMethod yX10_start ∈ big ∧ Cond.selects yX10_start.cls yX10_start yX10_start ∈ big := ⟨big_in 1286 (by decide +kernel) (by decide +kernel), big_in 1287 (by decide +kernel) (by decide +kernel)⟩
theorem mi_X10_step : Cond.code yX10_step cX10_step 3 (some .int) ∈ big ∧ Cond.initialized yX10_step.cls ∈ big := ⟨big_in 1292 (by decide +kernel) (by decide +kernel), big_in 70 (by decide +kernel) (by decide +kernel)⟩
theorem mv_X10_step : Cond.instanceMethod yX10_step ∈ big ∧ Cond.selects yX10_step.cls yX10_step yX10_step ∈ big := ⟨big_in 1290 (by decide +kernel) (by decide +kernel), big_in 1291 (by decide +kernel) (by decide +kernel)⟩
theorem mi_X10_value : Cond.code yX10_value cX10_value 3 (some .int) ∈ big ∧ Cond.initialized yX10_value.cls ∈ big := ⟨big_in 1324 (by decide +kernel) (by decide +kernel), big_in 70 (by decide +kernel) (by decide +kernel)⟩
theorem mv_X10_value : Cond.instanceMethod yX10_value ∈ big ∧ Cond.selects yX10_value.cls yX10_value yX10_value ∈ big := ⟨big_in 1322 (by decide +kernel) (by decide +kernel), big_in 1323 (by decide +kernel) (by decide +kernel)⟩
theorem mi_X10_isState : Cond.code yX10_isState cX10_isState 2 (some .boolean) ∈ big ∧ Cond.initialized yX10_isState.cls ∈ big := ⟨big_in 1332 (by decide +kernel) (by decide +kernel), big_in 70 (by decide +kernel) (by decide +kernel)⟩
theorem mv_X10_isState : Cond.instanceMethod yX10_isState ∈ big ∧ Cond.selects yX10_isState.cls yX10_isState yX10_isState ∈ big := ⟨big_in 1331 (by decide +kernel) (by decide +kernel), big_in 34 (by decide +kernel) (by decide +kernel)⟩
theorem mi_X10_at : Cond.code yX10_at cX10_at 5 (some .int) ∈ big ∧ Cond.initialized yX10_at.cls ∈ big := ⟨big_in 1328 (by decide +kernel) (by decide +kernel), big_in 70 (by decide +kernel) (by decide +kernel)⟩
theorem mv_X10_at : Cond.instanceMethod yX10_at ∈ big ∧ Cond.selects yX10_at.cls yX10_at yX10_at ∈ big := ⟨big_in 1326 (by decide +kernel) (by decide +kernel), big_in 1327 (by decide +kernel) (by decide +kernel)⟩
theorem mi_X10_changes : Cond.code yX10_changes cX10_changes 2 none ∈ big ∧ Cond.initialized yX10_changes.cls ∈ big := ⟨big_in 1240 (by decide +kernel) (by decide +kernel), big_in 70 (by decide +kernel) (by decide +kernel)⟩
theorem mv_X10_changes : Cond.instanceMethod yX10_changes ∈ big ∧ Cond.selects yX10_changes.cls yX10_changes yX10_changes ∈ big := ⟨big_in 1239 (by decide +kernel) (by decide +kernel), big_in 24 (by decide +kernel) (by decide +kernel)⟩
theorem mi_X10_isInCube : Cond.code yX10_isInCube cX10_isInCube 3 (some .boolean) ∈ big ∧ Cond.initialized yX10_isInCube.cls ∈ big := ⟨big_in 1360 (by decide +kernel) (by decide +kernel), big_in 70 (by decide +kernel) (by decide +kernel)⟩
theorem ms_X10_isInCube : Cond.static yX10_isInCube ∈ big := big_in 1359 (by decide +kernel) (by decide +kernel)
theorem mi_X10_isInFrame : Cond.code yX10_isInFrame cX10_isInFrame 4 (some .boolean) ∈ big ∧ Cond.initialized yX10_isInFrame.cls ∈ big := ⟨big_in 1357 (by decide +kernel) (by decide +kernel), big_in 70 (by decide +kernel) (by decide +kernel)⟩
theorem mv_X10_isInFrame : Cond.instanceMethod yX10_isInFrame ∈ big ∧ Cond.selects yX10_isInFrame.cls yX10_isInFrame yX10_isInFrame ∈ big := ⟨big_in 1356 (by decide +kernel) (by decide +kernel), big_in 39 (by decide +kernel) (by decide +kernel)⟩
theorem mi_X10_leadsInto : Cond.code yX10_leadsInto cX10_leadsInto 6 (some .boolean) ∈ big ∧ Cond.initialized yX10_leadsInto.cls ∈ big := ⟨big_in 1380 (by decide +kernel) (by decide +kernel), big_in 70 (by decide +kernel) (by decide +kernel)⟩
theorem mv_X10_leadsInto : Cond.instanceMethod yX10_leadsInto ∈ big ∧ Cond.selects yX10_leadsInto.cls yX10_leadsInto yX10_leadsInto ∈ big := ⟨big_in 1379 (by decide +kernel) (by decide +kernel), big_in 44 (by decide +kernel) (by decide +kernel)⟩
theorem mi_X10_asked : Cond.code yX10_asked cX10_asked 5 (some .int) ∈ big ∧ Cond.initialized yX10_asked.cls ∈ big := ⟨big_in 1408 (by decide +kernel) (by decide +kernel), big_in 70 (by decide +kernel) (by decide +kernel)⟩
theorem mv_X10_asked : Cond.instanceMethod yX10_asked ∈ big ∧ Cond.selects yX10_asked.cls yX10_asked yX10_asked ∈ big := ⟨big_in 1407 (by decide +kernel) (by decide +kernel), big_in 51 (by decide +kernel) (by decide +kernel)⟩
theorem mi_X10_widened : Cond.code yX10_widened cX10_widened 7 (some .int) ∈ big ∧ Cond.initialized yX10_widened.cls ∈ big := ⟨big_in 1404 (by decide +kernel) (by decide +kernel), big_in 70 (by decide +kernel) (by decide +kernel)⟩
theorem mv_X10_widened : Cond.instanceMethod yX10_widened ∈ big ∧ Cond.selects yX10_widened.cls yX10_widened yX10_widened ∈ big := ⟨big_in 1403 (by decide +kernel) (by decide +kernel), big_in 50 (by decide +kernel) (by decide +kernel)⟩
theorem mi_X10_keep : Cond.code yX10_keep cX10_keep 5 none ∈ big ∧ Cond.initialized yX10_keep.cls ∈ big := ⟨big_in 1384 (by decide +kernel) (by decide +kernel), big_in 70 (by decide +kernel) (by decide +kernel)⟩
theorem mv_X10_keep : Cond.instanceMethod yX10_keep ∈ big ∧ Cond.selects yX10_keep.cls yX10_keep yX10_keep ∈ big := ⟨big_in 1383 (by decide +kernel) (by decide +kernel), big_in 45 (by decide +kernel) (by decide +kernel)⟩
theorem mi_X10_meet : Cond.code yX10_meet cX10_meet 3 none ∈ big ∧ Cond.initialized yX10_meet.cls ∈ big := ⟨big_in 1345 (by decide +kernel) (by decide +kernel), big_in 70 (by decide +kernel) (by decide +kernel)⟩
theorem mv_X10_meet : Cond.instanceMethod yX10_meet ∈ big ∧ Cond.selects yX10_meet.cls yX10_meet yX10_meet ∈ big := ⟨big_in 1344 (by decide +kernel) (by decide +kernel), big_in 36 (by decide +kernel) (by decide +kernel)⟩
theorem mi_X10_forerunner : Cond.code yX10_forerunner cX10_forerunner 4 (some .int) ∈ big ∧ Cond.initialized yX10_forerunner.cls ∈ big := ⟨big_in 1396 (by decide +kernel) (by decide +kernel), big_in 70 (by decide +kernel) (by decide +kernel)⟩
theorem mv_X10_forerunner : Cond.instanceMethod yX10_forerunner ∈ big ∧ Cond.selects yX10_forerunner.cls yX10_forerunner yX10_forerunner ∈ big := ⟨big_in 1395 (by decide +kernel) (by decide +kernel), big_in 48 (by decide +kernel) (by decide +kernel)⟩
theorem mi_X10_tellWay : Cond.code yX10_tellWay cX10_tellWay 2 none ∈ big ∧ Cond.initialized yX10_tellWay.cls ∈ big := ⟨big_in 1349 (by decide +kernel) (by decide +kernel), big_in 70 (by decide +kernel) (by decide +kernel)⟩
theorem mv_X10_tellWay : Cond.instanceMethod yX10_tellWay ∈ big ∧ Cond.selects yX10_tellWay.cls yX10_tellWay yX10_tellWay ∈ big := ⟨big_in 1348 (by decide +kernel) (by decide +kernel), big_in 37 (by decide +kernel) (by decide +kernel)⟩
theorem mi_X10_lookAt : Cond.code yX10_lookAt cX10_lookAt 7 none ∈ big ∧ Cond.initialized yX10_lookAt.cls ∈ big := ⟨big_in 1392 (by decide +kernel) (by decide +kernel), big_in 70 (by decide +kernel) (by decide +kernel)⟩
theorem mv_X10_lookAt : Cond.instanceMethod yX10_lookAt ∈ big ∧ Cond.selects yX10_lookAt.cls yX10_lookAt yX10_lookAt ∈ big := ⟨big_in 1391 (by decide +kernel) (by decide +kernel), big_in 47 (by decide +kernel) (by decide +kernel)⟩
theorem mi_X10_has : Cond.code yX10_has cX10_has 6 (some .boolean) ∈ big ∧ Cond.initialized yX10_has.cls ∈ big := ⟨big_in 1372 (by decide +kernel) (by decide +kernel), big_in 70 (by decide +kernel) (by decide +kernel)⟩
theorem mv_X10_has : Cond.instanceMethod yX10_has ∈ big ∧ Cond.selects yX10_has.cls yX10_has yX10_has ∈ big := ⟨big_in 1371 (by decide +kernel) (by decide +kernel), big_in 42 (by decide +kernel) (by decide +kernel)⟩
theorem mi_X10_isShut : Cond.code yX10_isShut cX10_isShut 5 (some .boolean) ∈ big ∧ Cond.initialized yX10_isShut.cls ∈ big := ⟨big_in 1376 (by decide +kernel) (by decide +kernel), big_in 70 (by decide +kernel) (by decide +kernel)⟩
theorem mv_X10_isShut : Cond.instanceMethod yX10_isShut ∈ big ∧ Cond.selects yX10_isShut.cls yX10_isShut yX10_isShut ∈ big := ⟨big_in 1375 (by decide +kernel) (by decide +kernel), big_in 43 (by decide +kernel) (by decide +kernel)⟩
theorem mi_X10_push : Cond.code yX10_push cX10_push 4 none ∈ big ∧ Cond.initialized yX10_push.cls ∈ big := ⟨big_in 1368 (by decide +kernel) (by decide +kernel), big_in 70 (by decide +kernel) (by decide +kernel)⟩
theorem mv_X10_push : Cond.instanceMethod yX10_push ∈ big ∧ Cond.selects yX10_push.cls yX10_push yX10_push ∈ big := ⟨big_in 1367 (by decide +kernel) (by decide +kernel), big_in 41 (by decide +kernel) (by decide +kernel)⟩
theorem mi_X10_hasAll : Cond.code yX10_hasAll cX10_hasAll 4 (some .boolean) ∈ big ∧ Cond.initialized yX10_hasAll.cls ∈ big := ⟨big_in 1388 (by decide +kernel) (by decide +kernel), big_in 70 (by decide +kernel) (by decide +kernel)⟩
theorem mv_X10_hasAll : Cond.instanceMethod yX10_hasAll ∈ big ∧ Cond.selects yX10_hasAll.cls yX10_hasAll yX10_hasAll ∈ big := ⟨big_in 1387 (by decide +kernel) (by decide +kernel), big_in 46 (by decide +kernel) (by decide +kernel)⟩
theorem mi_X10_pushAll : Cond.code yX10_pushAll cX10_pushAll 3 none ∈ big ∧ Cond.initialized yX10_pushAll.cls ∈ big := ⟨big_in 1364 (by decide +kernel) (by decide +kernel), big_in 70 (by decide +kernel) (by decide +kernel)⟩
theorem mv_X10_pushAll : Cond.instanceMethod yX10_pushAll ∈ big ∧ Cond.selects yX10_pushAll.cls yX10_pushAll yX10_pushAll ∈ big := ⟨big_in 1363 (by decide +kernel) (by decide +kernel), big_in 40 (by decide +kernel) (by decide +kernel)⟩
theorem mi_X10_hasTrouble : Cond.code yX10_hasTrouble cX10_hasTrouble 2 (some .boolean) ∈ big ∧ Cond.initialized yX10_hasTrouble.cls ∈ big := ⟨big_in 1353 (by decide +kernel) (by decide +kernel), big_in 70 (by decide +kernel) (by decide +kernel)⟩
theorem mv_X10_hasTrouble : Cond.instanceMethod yX10_hasTrouble ∈ big ∧ Cond.selects yX10_hasTrouble.cls yX10_hasTrouble yX10_hasTrouble ∈ big := ⟨big_in 1352 (by decide +kernel) (by decide +kernel), big_in 38 (by decide +kernel) (by decide +kernel)⟩
theorem mi_X10_prove : Cond.code yX10_prove cX10_prove 3 (some .int) ∈ big ∧ Cond.initialized yX10_prove.cls ∈ big := ⟨big_in 1336 (by decide +kernel) (by decide +kernel), big_in 70 (by decide +kernel) (by decide +kernel)⟩
theorem mv_X10_prove : Cond.instanceMethod yX10_prove ∈ big ∧ Cond.selects yX10_prove.cls yX10_prove yX10_prove ∈ big := ⟨big_in 1334 (by decide +kernel) (by decide +kernel), big_in 1335 (by decide +kernel) (by decide +kernel)⟩
theorem mi_X10_frames : Cond.code yX10_frames cX10_frames 1 (some .int) ∈ big ∧ Cond.initialized yX10_frames.cls ∈ big := ⟨big_in 1412 (by decide +kernel) (by decide +kernel), big_in 70 (by decide +kernel) (by decide +kernel)⟩
theorem mv_X10_frames : Cond.instanceMethod yX10_frames ∈ big ∧ Cond.selects yX10_frames.cls yX10_frames yX10_frames ∈ big := ⟨big_in 1410 (by decide +kernel) (by decide +kernel), big_in 1411 (by decide +kernel) (by decide +kernel)⟩
theorem mi_X10_isFrame : Cond.code yX10_isFrame cX10_isFrame 1 (some .boolean) ∈ big ∧ Cond.initialized yX10_isFrame.cls ∈ big := ⟨big_in 1419 (by decide +kernel) (by decide +kernel), big_in 70 (by decide +kernel) (by decide +kernel)⟩
theorem ms_X10_isFrame : Cond.static yX10_isFrame ∈ big := big_in 1418 (by decide +kernel) (by decide +kernel)
theorem mi_X10_clauses : Cond.code yX10_clauses cX10_clauses 2 (some .int) ∈ big ∧ Cond.initialized yX10_clauses.cls ∈ big := ⟨big_in 1416 (by decide +kernel) (by decide +kernel), big_in 70 (by decide +kernel) (by decide +kernel)⟩
theorem mv_X10_clauses : Cond.instanceMethod yX10_clauses ∈ big ∧ Cond.selects yX10_clauses.cls yX10_clauses yX10_clauses ∈ big := ⟨big_in 1414 (by decide +kernel) (by decide +kernel), big_in 1415 (by decide +kernel) (by decide +kernel)⟩
theorem mi_X10_clause : Cond.code yX10_clause cX10_clause 4 (some .int) ∈ big ∧ Cond.initialized yX10_clause.cls ∈ big := ⟨big_in 1423 (by decide +kernel) (by decide +kernel), big_in 70 (by decide +kernel) (by decide +kernel)⟩
theorem mv_X10_clause : Cond.instanceMethod yX10_clause ∈ big ∧ Cond.selects yX10_clause.cls yX10_clause yX10_clause ∈ big := ⟨big_in 1421 (by decide +kernel) (by decide +kernel), big_in 1422 (by decide +kernel) (by decide +kernel)⟩
theorem mi_X10_trouble : Cond.code yX10_trouble cX10_trouble 3 (some .int) ∈ big ∧ Cond.initialized yX10_trouble.cls ∈ big := ⟨big_in 1427 (by decide +kernel) (by decide +kernel), big_in 70 (by decide +kernel) (by decide +kernel)⟩
theorem mv_X10_trouble : Cond.instanceMethod yX10_trouble ∈ big ∧ Cond.selects yX10_trouble.cls yX10_trouble yX10_trouble ∈ big := ⟨big_in 1425 (by decide +kernel) (by decide +kernel), big_in 1426 (by decide +kernel) (by decide +kernel)⟩
theorem mi_X10_way : Cond.code yX10_way cX10_way 1 (some .int) ∈ big ∧ Cond.initialized yX10_way.cls ∈ big := ⟨big_in 1431 (by decide +kernel) (by decide +kernel), big_in 70 (by decide +kernel) (by decide +kernel)⟩
theorem mv_X10_way : Cond.instanceMethod yX10_way ∈ big ∧ Cond.selects yX10_way.cls yX10_way yX10_way ∈ big := ⟨big_in 1429 (by decide +kernel) (by decide +kernel), big_in 1430 (by decide +kernel) (by decide +kernel)⟩
theorem mi_X10_wayState : Cond.code yX10_wayState cX10_wayState 2 (some .int) ∈ big ∧ Cond.initialized yX10_wayState.cls ∈ big := ⟨big_in 1435 (by decide +kernel) (by decide +kernel), big_in 70 (by decide +kernel) (by decide +kernel)⟩
theorem mv_X10_wayState : Cond.instanceMethod yX10_wayState ∈ big ∧ Cond.selects yX10_wayState.cls yX10_wayState yX10_wayState ∈ big := ⟨big_in 1433 (by decide +kernel) (by decide +kernel), big_in 1434 (by decide +kernel) (by decide +kernel)⟩
theorem mi_X10_wayChoice : Cond.code yX10_wayChoice cX10_wayChoice 4 (some .int) ∈ big ∧ Cond.initialized yX10_wayChoice.cls ∈ big := ⟨big_in 1439 (by decide +kernel) (by decide +kernel), big_in 70 (by decide +kernel) (by decide +kernel)⟩
theorem mv_X10_wayChoice : Cond.instanceMethod yX10_wayChoice ∈ big ∧ Cond.selects yX10_wayChoice.cls yX10_wayChoice yX10_wayChoice ∈ big := ⟨big_in 1437 (by decide +kernel) (by decide +kernel), big_in 1438 (by decide +kernel) (by decide +kernel)⟩
theorem mi_X10_isCube : Cond.code yX10_isCube cX10_isCube 3 (some .boolean) ∈ big ∧ Cond.initialized yX10_isCube.cls ∈ big := ⟨big_in 1448 (by decide +kernel) (by decide +kernel), big_in 70 (by decide +kernel) (by decide +kernel)⟩
theorem mv_X10_isCube : Cond.instanceMethod yX10_isCube ∈ big ∧ Cond.selects yX10_isCube.cls yX10_isCube yX10_isCube ∈ big := ⟨big_in 1447 (by decide +kernel) (by decide +kernel), big_in 52 (by decide +kernel) (by decide +kernel)⟩
theorem mi_X10_ask : Cond.code yX10_ask cX10_ask 4 (some .int) ∈ big ∧ Cond.initialized yX10_ask.cls ∈ big := ⟨big_in 1443 (by decide +kernel) (by decide +kernel), big_in 70 (by decide +kernel) (by decide +kernel)⟩
theorem mv_X10_ask : Cond.instanceMethod yX10_ask ∈ big ∧ Cond.selects yX10_ask.cls yX10_ask yX10_ask ∈ big := ⟨big_in 1441 (by decide +kernel) (by decide +kernel), big_in 1442 (by decide +kernel) (by decide +kernel)⟩
theorem mi_X10_widen : Cond.code yX10_widen cX10_widen 4 (some .int) ∈ big ∧ Cond.initialized yX10_widen.cls ∈ big := ⟨big_in 1452 (by decide +kernel) (by decide +kernel), big_in 70 (by decide +kernel) (by decide +kernel)⟩
theorem mv_X10_widen : Cond.instanceMethod yX10_widen ∈ big ∧ Cond.selects yX10_widen.cls yX10_widen yX10_widen ∈ big := ⟨big_in 1450 (by decide +kernel) (by decide +kernel), big_in 1451 (by decide +kernel) (by decide +kernel)⟩
theorem mi_X10_findFar : Cond.code yX10_findFar cX10_findFar 6 none ∈ big ∧ Cond.initialized yX10_findFar.cls ∈ big := ⟨big_in 1460 (by decide +kernel) (by decide +kernel), big_in 70 (by decide +kernel) (by decide +kernel)⟩
theorem mv_X10_findFar : Cond.instanceMethod yX10_findFar ∈ big ∧ Cond.selects yX10_findFar.cls yX10_findFar yX10_findFar ∈ big := ⟨big_in 1459 (by decide +kernel) (by decide +kernel), big_in 53 (by decide +kernel) (by decide +kernel)⟩
theorem mi_X10_shortest : Cond.code yX10_shortest cX10_shortest 3 (some .int) ∈ big ∧ Cond.initialized yX10_shortest.cls ∈ big := ⟨big_in 1456 (by decide +kernel) (by decide +kernel), big_in 70 (by decide +kernel) (by decide +kernel)⟩
theorem mv_X10_shortest : Cond.instanceMethod yX10_shortest ∈ big ∧ Cond.selects yX10_shortest.cls yX10_shortest yX10_shortest ∈ big := ⟨big_in 1454 (by decide +kernel) (by decide +kernel), big_in 1455 (by decide +kernel) (by decide +kernel)⟩
theorem mi_X10_within : Cond.code yX10_within cX10_within 4 (some .int) ∈ big ∧ Cond.initialized yX10_within.cls ∈ big := ⟨big_in 1464 (by decide +kernel) (by decide +kernel), big_in 70 (by decide +kernel) (by decide +kernel)⟩
theorem mv_X10_within : Cond.instanceMethod yX10_within ∈ big ∧ Cond.selects yX10_within.cls yX10_within yX10_within ∈ big := ⟨big_in 1462 (by decide +kernel) (by decide +kernel), big_in 1463 (by decide +kernel) (by decide +kernel)⟩
theorem mi_X10_keeps : Cond.code yX10_keeps cX10_keeps 4 (some .int) ∈ big ∧ Cond.initialized yX10_keeps.cls ∈ big := ⟨big_in 1468 (by decide +kernel) (by decide +kernel), big_in 70 (by decide +kernel) (by decide +kernel)⟩
theorem mv_X10_keeps : Cond.instanceMethod yX10_keeps ∈ big ∧ Cond.selects yX10_keeps.cls yX10_keeps yX10_keeps ∈ big := ⟨big_in 1466 (by decide +kernel) (by decide +kernel), big_in 1467 (by decide +kernel) (by decide +kernel)⟩
theorem mi_X10_cone : Cond.code yX10_cone cX10_cone 3 (some .int) ∈ big ∧ Cond.initialized yX10_cone.cls ∈ big := ⟨big_in 1472 (by decide +kernel) (by decide +kernel), big_in 70 (by decide +kernel) (by decide +kernel)⟩
theorem mv_X10_cone : Cond.instanceMethod yX10_cone ∈ big ∧ Cond.selects yX10_cone.cls yX10_cone yX10_cone ∈ big := ⟨big_in 1470 (by decide +kernel) (by decide +kernel), big_in 1471 (by decide +kernel) (by decide +kernel)⟩
theorem mi_X10_findComes : Cond.code yX10_findComes cX10_findComes 4 none ∈ big ∧ Cond.initialized yX10_findComes.cls ∈ big := ⟨big_in 1480 (by decide +kernel) (by decide +kernel), big_in 70 (by decide +kernel) (by decide +kernel)⟩
theorem mv_X10_findComes : Cond.instanceMethod yX10_findComes ∈ big ∧ Cond.selects yX10_findComes.cls yX10_findComes yX10_findComes ∈ big := ⟨big_in 1479 (by decide +kernel) (by decide +kernel), big_in 54 (by decide +kernel) (by decide +kernel)⟩
theorem mi_X10_fairAround : Cond.code yX10_fairAround cX10_fairAround 6 (some .int) ∈ big ∧ Cond.initialized yX10_fairAround.cls ∈ big := ⟨big_in 1484 (by decide +kernel) (by decide +kernel), big_in 70 (by decide +kernel) (by decide +kernel)⟩
theorem mv_X10_fairAround : Cond.instanceMethod yX10_fairAround ∈ big ∧ Cond.selects yX10_fairAround.cls yX10_fairAround yX10_fairAround ∈ big := ⟨big_in 1483 (by decide +kernel) (by decide +kernel), big_in 55 (by decide +kernel) (by decide +kernel)⟩
theorem mi_X10_live : Cond.code yX10_live cX10_live 3 (some .int) ∈ big ∧ Cond.initialized yX10_live.cls ∈ big := ⟨big_in 1476 (by decide +kernel) (by decide +kernel), big_in 70 (by decide +kernel) (by decide +kernel)⟩
theorem mv_X10_live : Cond.instanceMethod yX10_live ∈ big ∧ Cond.selects yX10_live.cls yX10_live yX10_live ∈ big := ⟨big_in 1474 (by decide +kernel) (by decide +kernel), big_in 1475 (by decide +kernel) (by decide +kernel)⟩
theorem mi_X10_take : Cond.code yX10_take cX10_take 2 (some .int) ∈ big ∧ Cond.initialized yX10_take.cls ∈ big := ⟨big_in 1488 (by decide +kernel) (by decide +kernel), big_in 70 (by decide +kernel) (by decide +kernel)⟩
theorem mv_X10_take : Cond.instanceMethod yX10_take ∈ big ∧ Cond.selects yX10_take.cls yX10_take yX10_take ∈ big := ⟨big_in 1486 (by decide +kernel) (by decide +kernel), big_in 1487 (by decide +kernel) (by decide +kernel)⟩
theorem mi_X10_list : Cond.code yX10_list cX10_list 3 (some .int) ∈ big ∧ Cond.initialized yX10_list.cls ∈ big := ⟨big_in 1492 (by decide +kernel) (by decide +kernel), big_in 70 (by decide +kernel) (by decide +kernel)⟩
theorem mv_X10_list : Cond.instanceMethod yX10_list ∈ big ∧ Cond.selects yX10_list.cls yX10_list yX10_list ∈ big := ⟨big_in 1490 (by decide +kernel) (by decide +kernel), big_in 1491 (by decide +kernel) (by decide +kernel)⟩
theorem mi_X10_forge : Cond.code yX10_forge cX10_forge 5 (some .int) ∈ big ∧ Cond.initialized yX10_forge.cls ∈ big := ⟨big_in 1496 (by decide +kernel) (by decide +kernel), big_in 70 (by decide +kernel) (by decide +kernel)⟩
theorem mv_X10_forge : Cond.instanceMethod yX10_forge ∈ big ∧ Cond.selects yX10_forge.cls yX10_forge yX10_forge ∈ big := ⟨big_in 1494 (by decide +kernel) (by decide +kernel), big_in 1495 (by decide +kernel) (by decide +kernel)⟩
theorem mi_X10_clear : Cond.code yX10_clear cX10_clear 2 (some .int) ∈ big ∧ Cond.initialized yX10_clear.cls ∈ big := ⟨big_in 1500 (by decide +kernel) (by decide +kernel), big_in 70 (by decide +kernel) (by decide +kernel)⟩
theorem mv_X10_clear : Cond.instanceMethod yX10_clear ∈ big ∧ Cond.selects yX10_clear.cls yX10_clear yX10_clear ∈ big := ⟨big_in 1498 (by decide +kernel) (by decide +kernel), big_in 1499 (by decide +kernel) (by decide +kernel)⟩
theorem mi_X10_isLeft : Cond.code yX10_isLeft cX10_isLeft 4 (some .boolean) ∈ big ∧ Cond.initialized yX10_isLeft.cls ∈ big := ⟨big_in 1512 (by decide +kernel) (by decide +kernel), big_in 70 (by decide +kernel) (by decide +kernel)⟩
theorem mv_X10_isLeft : Cond.instanceMethod yX10_isLeft ∈ big ∧ Cond.selects yX10_isLeft.cls yX10_isLeft yX10_isLeft ∈ big := ⟨big_in 1511 (by decide +kernel) (by decide +kernel), big_in 57 (by decide +kernel) (by decide +kernel)⟩
theorem mi_X10_judged : Cond.code yX10_judged cX10_judged 4 (some .int) ∈ big ∧ Cond.initialized yX10_judged.cls ∈ big := ⟨big_in 1508 (by decide +kernel) (by decide +kernel), big_in 70 (by decide +kernel) (by decide +kernel)⟩
theorem mv_X10_judged : Cond.instanceMethod yX10_judged ∈ big ∧ Cond.selects yX10_judged.cls yX10_judged yX10_judged ∈ big := ⟨big_in 1507 (by decide +kernel) (by decide +kernel), big_in 56 (by decide +kernel) (by decide +kernel)⟩
theorem mi_X10_judge : Cond.code yX10_judge cX10_judge 2 (some .int) ∈ big ∧ Cond.initialized yX10_judge.cls ∈ big := ⟨big_in 1504 (by decide +kernel) (by decide +kernel), big_in 70 (by decide +kernel) (by decide +kernel)⟩
theorem mv_X10_judge : Cond.instanceMethod yX10_judge ∈ big ∧ Cond.selects yX10_judge.cls yX10_judge yX10_judge ∈ big := ⟨big_in 1502 (by decide +kernel) (by decide +kernel), big_in 1503 (by decide +kernel) (by decide +kernel)⟩
theorem mi_X10_fails : Cond.code yX10_fails cX10_fails 2 (some .int) ∈ big ∧ Cond.initialized yX10_fails.cls ∈ big := ⟨big_in 1516 (by decide +kernel) (by decide +kernel), big_in 70 (by decide +kernel) (by decide +kernel)⟩
theorem mv_X10_fails : Cond.instanceMethod yX10_fails ∈ big ∧ Cond.selects yX10_fails.cls yX10_fails yX10_fails ∈ big := ⟨big_in 1514 (by decide +kernel) (by decide +kernel), big_in 1515 (by decide +kernel) (by decide +kernel)⟩
theorem mi_X10_small : Cond.code yX10_small cX10_small 3 (some .int) ∈ big ∧ Cond.initialized yX10_small.cls ∈ big := ⟨big_in 1520 (by decide +kernel) (by decide +kernel), big_in 70 (by decide +kernel) (by decide +kernel)⟩
theorem mv_X10_small : Cond.instanceMethod yX10_small ∈ big ∧ Cond.selects yX10_small.cls yX10_small yX10_small ∈ big := ⟨big_in 1518 (by decide +kernel) (by decide +kernel), big_in 1519 (by decide +kernel) (by decide +kernel)⟩
theorem mi_X10_listed : Cond.code yX10_listed cX10_listed 3 (some .int) ∈ big ∧ Cond.initialized yX10_listed.cls ∈ big := ⟨big_in 1524 (by decide +kernel) (by decide +kernel), big_in 70 (by decide +kernel) (by decide +kernel)⟩
theorem mv_X10_listed : Cond.instanceMethod yX10_listed ∈ big ∧ Cond.selects yX10_listed.cls yX10_listed yX10_listed ∈ big := ⟨big_in 1522 (by decide +kernel) (by decide +kernel), big_in 1523 (by decide +kernel) (by decide +kernel)⟩
theorem mi_X10_lay : Cond.code yX10_lay cX10_lay 4 (some .int) ∈ big ∧ Cond.initialized yX10_lay.cls ∈ big := ⟨big_in 1528 (by decide +kernel) (by decide +kernel), big_in 70 (by decide +kernel) (by decide +kernel)⟩
theorem mv_X10_lay : Cond.instanceMethod yX10_lay ∈ big ∧ Cond.selects yX10_lay.cls yX10_lay yX10_lay ∈ big := ⟨big_in 1526 (by decide +kernel) (by decide +kernel), big_in 1527 (by decide +kernel) (by decide +kernel)⟩
theorem mi_X10_tear : Cond.code yX10_tear cX10_tear 2 (some .int) ∈ big ∧ Cond.initialized yX10_tear.cls ∈ big := ⟨big_in 1532 (by decide +kernel) (by decide +kernel), big_in 70 (by decide +kernel) (by decide +kernel)⟩
theorem mv_X10_tear : Cond.instanceMethod yX10_tear ∈ big ∧ Cond.selects yX10_tear.cls yX10_tear yX10_tear ∈ big := ⟨big_in 1530 (by decide +kernel) (by decide +kernel), big_in 1531 (by decide +kernel) (by decide +kernel)⟩
theorem mi_X10_row : Cond.code yX10_row cX10_row 2 (some .int) ∈ big ∧ Cond.initialized yX10_row.cls ∈ big := ⟨big_in 1536 (by decide +kernel) (by decide +kernel), big_in 70 (by decide +kernel) (by decide +kernel)⟩
theorem mv_X10_row : Cond.instanceMethod yX10_row ∈ big ∧ Cond.selects yX10_row.cls yX10_row yX10_row ∈ big := ⟨big_in 1534 (by decide +kernel) (by decide +kernel), big_in 1535 (by decide +kernel) (by decide +kernel)⟩
theorem mi_X10_copy : Cond.code yX10_copy cX10_copy 5 (some .int) ∈ big ∧ Cond.initialized yX10_copy.cls ∈ big := ⟨big_in 1540 (by decide +kernel) (by decide +kernel), big_in 70 (by decide +kernel) (by decide +kernel)⟩
theorem mv_X10_copy : Cond.instanceMethod yX10_copy ∈ big ∧ Cond.selects yX10_copy.cls yX10_copy yX10_copy ∈ big := ⟨big_in 1538 (by decide +kernel) (by decide +kernel), big_in 1539 (by decide +kernel) (by decide +kernel)⟩
theorem mi_X10_status : Cond.code yX10_status cX10_status 2 (some .int) ∈ big ∧ Cond.initialized yX10_status.cls ∈ big := ⟨big_in 1544 (by decide +kernel) (by decide +kernel), big_in 70 (by decide +kernel) (by decide +kernel)⟩
theorem mv_X10_status : Cond.instanceMethod yX10_status ∈ big ∧ Cond.selects yX10_status.cls yX10_status yX10_status ∈ big := ⟨big_in 1542 (by decide +kernel) (by decide +kernel), big_in 1543 (by decide +kernel) (by decide +kernel)⟩
theorem mi_J13_bitCount_95d88 : Cond.code yJ13_bitCount_95d88 cJ13_bitCount_95d88 2 (some .int) ∈ big ∧ Cond.initialized yJ13_bitCount_95d88.cls ∈ big := ⟨big_in 881 (by decide +kernel) (by decide +kernel), big_in 71 (by decide +kernel) (by decide +kernel)⟩
theorem ms_J13_bitCount_95d88 : Cond.static yJ13_bitCount_95d88 ∈ big := big_in 880 (by decide +kernel) (by decide +kernel)
theorem mi_J9_max_7cf53 : Cond.code yJ9_max_7cf53 cJ9_max_7cf53 2 (some .int) ∈ big ∧ Cond.initialized yJ9_max_7cf53.cls ∈ big := ⟨big_in 95 (by decide +kernel) (by decide +kernel), big_in 62 (by decide +kernel) (by decide +kernel)⟩
theorem ms_J9_max_7cf53 : Cond.static yJ9_max_7cf53 ∈ big := big_in 94 (by decide +kernel) (by decide +kernel)
theorem mi_J9_min_7cf53 : Cond.code yJ9_min_7cf53 cJ9_min_7cf53 2 (some .int) ∈ big ∧ Cond.initialized yJ9_min_7cf53.cls ∈ big := ⟨big_in 1039 (by decide +kernel) (by decide +kernel), big_in 62 (by decide +kernel) (by decide +kernel)⟩
theorem ms_J9_min_7cf53 : Cond.static yJ9_min_7cf53 ∈ big := big_in 1038 (by decide +kernel) (by decide +kernel)
theorem ml_RX0_16 : Cond.methodLink RX0 16 yJ9_max_7cf53 ∈ big := big_in 235 (by decide +kernel) (by decide +kernel)
theorem ml_RX0_33 : Cond.methodLink RX0 33 yX7_becomeFirst ∈ big := big_in 377 (by decide +kernel) (by decide +kernel)
theorem ml_RX0_37 : Cond.methodLink RX0 37 yX0_hasIndex ∈ big := big_in 658 (by decide +kernel) (by decide +kernel)
theorem ml_RX0_41 : Cond.methodLink RX0 41 yX7_dropCube ∈ big := big_in 685 (by decide +kernel) (by decide +kernel)
theorem ml_RX0_44 : Cond.methodLink RX0 44 yX0_cubeAt ∈ big := big_in 693 (by decide +kernel) (by decide +kernel)
theorem ml_RX0_48 : Cond.methodLink RX0 48 yX0_hasCube ∈ big := big_in 694 (by decide +kernel) (by decide +kernel)
theorem ml_RX0_51 : Cond.methodLink RX0 51 yX0_restart ∈ big := big_in 827 (by decide +kernel) (by decide +kernel)
theorem ml_RX0_54 : Cond.methodLink RX0 54 yX0_put ∈ big := big_in 828 (by decide +kernel) (by decide +kernel)
theorem ml_RX0_57 : Cond.methodLink RX0 57 yX0_findLeft ∈ big := big_in 968 (by decide +kernel) (by decide +kernel)
theorem ml_RX0_60 : Cond.methodLink RX0 60 yX0_isFull ∈ big := big_in 1024 (by decide +kernel) (by decide +kernel)
theorem ml_RX1_42 : Cond.methodLink RX1 42 yX3_states ∈ big := big_in 369 (by decide +kernel) (by decide +kernel)
theorem ml_RX1_48 : Cond.methodLink RX1 48 yX0_restart ∈ big := big_in 373 (by decide +kernel) (by decide +kernel)
theorem ml_RX1_51 : Cond.methodLink RX1 51 yX1_frame ∈ big := big_in 382 (by decide +kernel) (by decide +kernel)
theorem ml_RX1_62 : Cond.methodLink RX1 62 yX7_becomeOnly ∈ big := big_in 386 (by decide +kernel) (by decide +kernel)
theorem ml_RX1_65 : Cond.methodLink RX1 65 yX7_becomeCube ∈ big := big_in 715 (by decide +kernel) (by decide +kernel)
theorem ml_RX1_68 : Cond.methodLink RX1 68 yX7_has ∈ big := big_in 719 (by decide +kernel) (by decide +kernel)
theorem ml_RX1_72 : Cond.methodLinkNest RX1 72 yX9_isInCube "FrameProver" ∈ nestW := List.mem_of_getElem? (i := 8) (by decide +kernel)
theorem ml_RX1_76 : Cond.methodLink RX1 76 yX8_from ∈ big := big_in 725 (by decide +kernel) (by decide +kernel)
theorem ml_RX1_82 : Cond.methodLink RX1 82 yX7_meets ∈ big := big_in 726 (by decide +kernel) (by decide +kernel)
theorem ml_RX1_86 : Cond.methodLink RX1 86 yX1_leastInto ∈ big := big_in 737 (by decide +kernel) (by decide +kernel)
theorem ml_RX1_93 : Cond.methodLinkNest RX1 93 yX9_maskOf "FrameProver" ∈ nestW := List.mem_of_getElem? (i := 9) (by decide +kernel)
theorem ml_RX1_97 : Cond.methodLinkNest RX1 97 yX9_valuesOf "FrameProver" ∈ nestW := List.mem_of_getElem? (i := 10) (by decide +kernel)
theorem ml_RX1_100 : Cond.methodLinkNest RX1 100 yX9_cubeOf "FrameProver" ∈ nestW := List.mem_of_getElem? (i := 11) (by decide +kernel)
theorem ml_RX1_103 : Cond.methodLink RX1 103 yX0_isFull ∈ big := big_in 742 (by decide +kernel) (by decide +kernel)
theorem ml_RX1_107 : Cond.methodLink RX1 107 yX0_put ∈ big := big_in 681 (by decide +kernel) (by decide +kernel)
theorem ml_RX1_110 : Cond.methodLink RX1 110 yX7_becomeEmpty ∈ big := big_in 644 (by decide +kernel) (by decide +kernel)
theorem ml_RX1_113 : Cond.methodLink RX1 113 yX8_putAllFrom ∈ big := big_in 645 (by decide +kernel) (by decide +kernel)
theorem ml_RX1_120 : Cond.methodLink RX1 120 yX0_cubeAt ∈ big := big_in 654 (by decide +kernel) (by decide +kernel)
theorem ml_RX1_123 : Cond.methodLink RX1 123 yX0_hasCube ∈ big := big_in 662 (by decide +kernel) (by decide +kernel)
theorem ml_RX1_126 : Cond.methodLink RX1 126 yX7_meetsCube ∈ big := big_in 666 (by decide +kernel) (by decide +kernel)
theorem ml_RX2_41 : Cond.methodLink RX2 41 yX7_has ∈ big := big_in 988 (by decide +kernel) (by decide +kernel)
theorem ml_RX2_52 : Cond.methodLink RX2 52 yX7_meets ∈ big := big_in 989 (by decide +kernel) (by decide +kernel)
theorem ml_RX2_56 : Cond.methodLink RX2 56 yX2_leastThatLeadsOut ∈ big := big_in 990 (by decide +kernel) (by decide +kernel)
theorem ml_RX2_60 : Cond.methodLink RX2 60 yX3_states ∈ big := big_in 994 (by decide +kernel) (by decide +kernel)
theorem ml_RX2_63 : Cond.methodLink RX2 63 yX8_from ∈ big := big_in 995 (by decide +kernel) (by decide +kernel)
theorem ml_RX2_67 : Cond.methodLink RX2 67 yX7_isInside ∈ big := big_in 996 (by decide +kernel) (by decide +kernel)
theorem ml_RX2_70 : Cond.methodLink RX2 70 yX2_fault ∈ big := big_in 984 (by decide +kernel) (by decide +kernel)
theorem ml_RX2_73 : Cond.methodLink RX2 73 yX7_leastCommon ∈ big := big_in 997 (by decide +kernel) (by decide +kernel)
theorem ml_RX2_77 : Cond.methodLink RX2 77 yX7_leastOutside ∈ big := big_in 998 (by decide +kernel) (by decide +kernel)
theorem ml_RX2_83 : Cond.methodLink RX2 83 yX0_cubeAt ∈ big := big_in 1015 (by decide +kernel) (by decide +kernel)
theorem ml_RX2_87 : Cond.methodLink RX2 87 yX0_takeOut ∈ big := big_in 1016 (by decide +kernel) (by decide +kernel)
theorem ml_RX2_91 : Cond.methodLink RX2 91 yX0_putBack ∈ big := big_in 1020 (by decide +kernel) (by decide +kernel)
theorem ml_RX3_53 : Cond.methodLink RX3 53 yX3_addPart ∈ big := big_in 445 (by decide +kernel) (by decide +kernel)
theorem ml_RX3_57 : Cond.methodLink RX3 57 yX3_hasPart ∈ big := big_in 449 (by decide +kernel) (by decide +kernel)
theorem ml_RX3_70 : Cond.methodLink RX3 70 yX3_states ∈ big := big_in 580 (by decide +kernel) (by decide +kernel)
theorem ml_RX3_74 : Cond.methodLink RX3 74 yX3_choicesInAll ∈ big := big_in 531 (by decide +kernel) (by decide +kernel)
theorem ml_RX3_77 : Cond.methodLink RX3 77 yX3_lanesIn ∈ big := big_in 539 (by decide +kernel) (by decide +kernel)
theorem ml_RX3_81 : Cond.methodLink RX3 81 yX3_signLanes ∈ big := big_in 543 (by decide +kernel) (by decide +kernel)
theorem ml_RX3_92 : Cond.methodLink RX3 92 yX6_signAt ∈ big := big_in 558 (by decide +kernel) (by decide +kernel)
theorem ml_RX3_95 : Cond.methodLink RX3 95 yX3_rightLanes ∈ big := big_in 554 (by decide +kernel) (by decide +kernel)
theorem ml_RX3_98 : Cond.methodLink RX3 98 yX3_firstSign ∈ big := big_in 566 (by decide +kernel) (by decide +kernel)
theorem ml_RX3_101 : Cond.methodLink RX3 101 yX3_stateAfter ∈ big := big_in 814 (by decide +kernel) (by decide +kernel)
theorem ml_RX3_104 : Cond.methodLink RX3 104 yX3_badLanes ∈ big := big_in 809 (by decide +kernel) (by decide +kernel)
theorem ml_RX3_107 : Cond.methodLink RX3 107 yX3_markSign ∈ big := big_in 910 (by decide +kernel) (by decide +kernel)
theorem ml_RX3_110 : Cond.methodLink RX3 110 yX3_markPass ∈ big := big_in 915 (by decide +kernel) (by decide +kernel)
theorem ml_RX3_113 : Cond.methodLink RX3 113 yX3_isMarked ∈ big := big_in 919 (by decide +kernel) (by decide +kernel)
theorem ml_RX3_116 : Cond.methodLink RX3 116 yX3_secondSign ∈ big := big_in 923 (by decide +kernel) (by decide +kernel)
theorem ml_RX3_119 : Cond.methodLink RX3 119 yX3_hasSign ∈ big := big_in 914 (by decide +kernel) (by decide +kernel)
theorem ml_RX4_46 : Cond.methodLink RX4 46 yX4_begin ∈ big := big_in 617 (by decide +kernel) (by decide +kernel)
theorem ml_RX4_50 : Cond.methodLink RX4 50 yX1_frame ∈ big := big_in 626 (by decide +kernel) (by decide +kernel)
theorem ml_RX4_67 : Cond.methodLink RX4 67 yX7_leastCommon ∈ big := big_in 627 (by decide +kernel) (by decide +kernel)
theorem ml_RX4_73 : Cond.methodLink RX4 73 yX4_addTrouble ∈ big := big_in 632 (by decide +kernel) (by decide +kernel)
theorem ml_RX4_77 : Cond.methodLink RX4 77 yX4_push ∈ big := big_in 636 (by decide +kernel) (by decide +kernel)
theorem ml_RX4_80 : Cond.methodLink RX4 80 yX4_look ∈ big := big_in 695 (by decide +kernel) (by decide +kernel)
theorem ml_RX4_88 : Cond.methodLink RX4 88 yX7_has ∈ big := big_in 621 (by decide +kernel) (by decide +kernel)
theorem ml_RX4_92 : Cond.methodLink RX4 92 yX4_troubleState ∈ big := big_in 699 (by decide +kernel) (by decide +kernel)
theorem ml_RX4_96 : Cond.methodLink RX4 96 yX4_troubleFrame ∈ big := big_in 703 (by decide +kernel) (by decide +kernel)
theorem ml_RX4_99 : Cond.methodLink RX4 99 yX3_states ∈ big := big_in 707 (by decide +kernel) (by decide +kernel)
theorem ml_RX4_103 : Cond.methodLinkNest RX4 103 yX9_cubeOf "FrameProver" ∈ nestW := List.mem_of_getElem? (i := 7) (by decide +kernel)
theorem ml_RX4_107 : Cond.methodLink RX4 107 yX1_leastInto ∈ big := big_in 711 (by decide +kernel) (by decide +kernel)
theorem ml_RX4_110 : Cond.methodLink RX4 110 yX1_widened ∈ big := big_in 730 (by decide +kernel) (by decide +kernel)
theorem ml_RX4_113 : Cond.methodLink RX4 113 yX1_putUpTo ∈ big := big_in 738 (by decide +kernel) (by decide +kernel)
theorem ml_RX4_117 : Cond.methodLink RX4 117 yX1_pushOn ∈ big := big_in 640 (by decide +kernel) (by decide +kernel)
theorem ml_RX4_120 : Cond.methodLink RX4 120 yX0_hasAllOf ∈ big := big_in 689 (by decide +kernel) (by decide +kernel)
theorem ml_RX4_124 : Cond.methodLink RX4 124 yJ9_max_7cf53 ∈ big := big_in 785 (by decide +kernel) (by decide +kernel)
theorem ml_RX4_129 : Cond.methodLink RX4 129 yX4_stateOfWay ∈ big := big_in 802 (by decide +kernel) (by decide +kernel)
theorem ml_RX4_132 : Cond.methodLink RX4 132 yX3_evaluate ∈ big := big_in 803 (by decide +kernel) (by decide +kernel)
theorem ml_RX4_136 : Cond.methodLink RX4 136 yX4_waySteps ∈ big := big_in 804 (by decide +kernel) (by decide +kernel)
theorem ml_RX4_139 : Cond.methodLink RX4 139 yX3_leastChoicesOfBad ∈ big := big_in 805 (by decide +kernel) (by decide +kernel)
theorem ml_RX4_142 : Cond.methodLink RX4 142 yX3_leastChoicesTo ∈ big := big_in 810 (by decide +kernel) (by decide +kernel)
theorem ml_RX5_21 : Cond.methodLink RX5 21 yJ9_min_7cf53 ∈ big := big_in 1037 (by decide +kernel) (by decide +kernel)
theorem ml_RX5_30 : Cond.methodLink RX5 30 yX3_partLanes ∈ big := big_in 1040 (by decide +kernel) (by decide +kernel)
theorem ml_RX5_38 : Cond.methodLink RX5 38 yX5_hasStretch ∈ big := big_in 1068 (by decide +kernel) (by decide +kernel)
theorem ml_RX6_9 : Cond.methodLink RX6 9 yJ9_max_7cf53 ∈ big := big_in 93 (by decide +kernel) (by decide +kernel)
theorem ml_RX7_15 : Cond.methodLink RX7 15 yX7_becomeFirst ∈ big := big_in 390 (by decide +kernel) (by decide +kernel)
theorem ml_RX7_19 : Cond.methodLink RX7 19 yX7_put ∈ big := big_in 391 (by decide +kernel) (by decide +kernel)
theorem ml_RX7_24 : Cond.methodLinkNest RX7 24 yX9_maskOf "FrameProver" ∈ nestW := List.mem_of_getElem? (i := 5) (by decide +kernel)
theorem ml_RX7_28 : Cond.methodLinkNest RX7 28 yX9_valuesOf "FrameProver" ∈ nestW := List.mem_of_getElem? (i := 6) (by decide +kernel)
theorem ml_RX7_31 : Cond.methodLink RX7 31 yX7_wordOfCube ∈ big := big_in 676 (by decide +kernel) (by decide +kernel)
theorem ml_RX7_38 : Cond.methodLink RX7 38 yX7_has ∈ big := big_in 631 (by decide +kernel) (by decide +kernel)
theorem ml_RX7_42 : Cond.methodLink RX7 42 yJ13_bitCount_95d88 ∈ big := big_in 879 (by decide +kernel) (by decide +kernel)
theorem ml_RX8_51 : Cond.methodLink RX8 51 yX7_becomeEmpty ∈ big := big_in 594 (by decide +kernel) (by decide +kernel)
theorem ml_RX8_54 : Cond.methodLink RX8 54 yX3_states ∈ big := big_in 598 (by decide +kernel) (by decide +kernel)
theorem ml_RX8_60 : Cond.methodLink RX8 60 yX3_evaluate ∈ big := big_in 599 (by decide +kernel) (by decide +kernel)
theorem ml_RX8_64 : Cond.methodLink RX8 64 yX3_badLanes ∈ big := big_in 600 (by decide +kernel) (by decide +kernel)
theorem ml_RX8_67 : Cond.methodLink RX8 67 yX7_put ∈ big := big_in 601 (by decide +kernel) (by decide +kernel)
theorem ml_RX8_70 : Cond.methodLink RX8 70 yX8_from ∈ big := big_in 602 (by decide +kernel) (by decide +kernel)
theorem ml_RX8_74 : Cond.methodLink RX8 74 yX8_renewFrom ∈ big := big_in 606 (by decide +kernel) (by decide +kernel)
theorem ml_RX8_78 : Cond.methodLink RX8 78 yX3_rightLanes ∈ big := big_in 610 (by decide +kernel) (by decide +kernel)
theorem ml_RX8_81 : Cond.methodLink RX8 81 yX3_choicesInAll ∈ big := big_in 611 (by decide +kernel) (by decide +kernel)
theorem ml_RX8_84 : Cond.methodLink RX8 84 yX3_stateAfter ∈ big := big_in 612 (by decide +kernel) (by decide +kernel)
theorem ml_RX8_88 : Cond.methodLink RX8 88 yX7_has ∈ big := big_in 649 (by decide +kernel) (by decide +kernel)
theorem ml_RX8_92 : Cond.methodLink RX8 92 yX7_putAll ∈ big := big_in 650 (by decide +kernel) (by decide +kernel)
theorem ml_RX8_99 : Cond.methodLink RX8 99 yX7_becomeOnly ∈ big := big_in 860 (by decide +kernel) (by decide +kernel)
theorem ml_RX8_102 : Cond.methodLink RX8 102 yX8_putAllFrom ∈ big := big_in 866 (by decide +kernel) (by decide +kernel)
theorem ml_RX8_106 : Cond.methodLink RX8 106 yX7_dropAll ∈ big := big_in 867 (by decide +kernel) (by decide +kernel)
theorem ml_RX8_109 : Cond.methodLink RX8 109 yX7_becomeLike ∈ big := big_in 871 (by decide +kernel) (by decide +kernel)
theorem ml_RX8_112 : Cond.methodLink RX8 112 yX7_howMany ∈ big := big_in 875 (by decide +kernel) (by decide +kernel)
theorem ml_RX8_115 : Cond.methodLink RX8 115 yX8_beginReach ∈ big := big_in 856 (by decide +kernel) (by decide +kernel)
theorem ml_RX8_118 : Cond.methodLink RX8 118 yX8_reachOn ∈ big := big_in 862 (by decide +kernel) (by decide +kernel)
theorem ml_RX8_122 : Cond.methodLink RX8 122 yX7_meets ∈ big := big_in 861 (by decide +kernel) (by decide +kernel)
theorem ml_RX8_126 : Cond.methodLink RX8 126 yX8_closeLeads ∈ big := big_in 932 (by decide +kernel) (by decide +kernel)
theorem ml_RX8_129 : Cond.methodLink RX8 129 yX8_reached ∈ big := big_in 940 (by decide +kernel) (by decide +kernel)
theorem ml_RX8_131 : Cond.methodLink RX8 131 yX8_leadsFrom ∈ big := big_in 936 (by decide +kernel) (by decide +kernel)
theorem ml_RX8_134 : Cond.methodLink RX8 134 yX8_findCircle ∈ big := big_in 941 (by decide +kernel) (by decide +kernel)
theorem ml_RX8_137 : Cond.methodLink RX8 137 yX8_isCircleFair ∈ big := big_in 945 (by decide +kernel) (by decide +kernel)
theorem ml_RX8_149 : Cond.methodLink RX8 149 yX6_signAt ∈ big := big_in 949 (by decide +kernel) (by decide +kernel)
theorem ml_RX8_152 : Cond.methodLink RX8 152 yX8_isInCircle ∈ big := big_in 950 (by decide +kernel) (by decide +kernel)
theorem ml_RX8_155 : Cond.methodLink RX8 155 yX3_signLanes ∈ big := big_in 954 (by decide +kernel) (by decide +kernel)
theorem ml_RX9_72 : Cond.methodLink RX9 72 yX9_startAnew ∈ big := big_in 361 (by decide +kernel) (by decide +kernel)
theorem ml_RX9_75 : Cond.methodLink RX9 75 yX3_isFull ∈ big := big_in 433 (by decide +kernel) (by decide +kernel)
theorem ml_RX9_83 : Cond.methodLink RX9 83 yX9_refuse ∈ big := big_in 437 (by decide +kernel) (by decide +kernel)
theorem ml_RX9_87 : Cond.methodLink RX9 87 yX3_addBit ∈ big := big_in 441 (by decide +kernel) (by decide +kernel)
theorem ml_RX9_94 : Cond.methodLink RX9 94 yX3_addInput ∈ big := big_in 457 (by decide +kernel) (by decide +kernel)
theorem ml_RX9_98 : Cond.methodLink RX9 98 yX3_hasSign ∈ big := big_in 465 (by decide +kernel) (by decide +kernel)
theorem ml_RX9_102 : Cond.methodLink RX9 102 yX3_addPart ∈ big := big_in 469 (by decide +kernel) (by decide +kernel)
theorem ml_RX9_106 : Cond.methodLink RX9 106 yX3_hasPart ∈ big := big_in 474 (by decide +kernel) (by decide +kernel)
theorem ml_RX9_109 : Cond.methodLink RX9 109 yX3_kindOf ∈ big := big_in 475 (by decide +kernel) (by decide +kernel)
theorem ml_RX9_112 : Cond.methodLink RX9 112 yX3_setNext ∈ big := big_in 479 (by decide +kernel) (by decide +kernel)
theorem ml_RX9_123 : Cond.methodLink RX9 123 yX9_addSign ∈ big := big_in 491 (by decide +kernel) (by decide +kernel)
theorem ml_RX9_130 : Cond.methodLink RX9 130 yX3_firstSign ∈ big := big_in 507 (by decide +kernel) (by decide +kernel)
theorem ml_RX9_133 : Cond.methodLink RX9 133 yX3_secondSign ∈ big := big_in 511 (by decide +kernel) (by decide +kernel)
theorem ml_RX9_154 : Cond.methodLink RX9 154 yX3_hasChoices ∈ big := big_in 527 (by decide +kernel) (by decide +kernel)
theorem ml_RX9_157 : Cond.methodLink RX9 157 yX3_evaluate ∈ big := big_in 535 (by decide +kernel) (by decide +kernel)
theorem ml_RX9_160 : Cond.methodLink RX9 160 yX3_isRight ∈ big := big_in 550 (by decide +kernel) (by decide +kernel)
theorem ml_RX9_163 : Cond.methodLink RX9 163 yX3_stateAfter ∈ big := big_in 562 (by decide +kernel) (by decide +kernel)
theorem ml_RX9_166 : Cond.methodLink RX9 166 yX3_signLanes ∈ big := big_in 571 (by decide +kernel) (by decide +kernel)
theorem ml_RX9_169 : Cond.methodLink RX9 169 yX3_hasState ∈ big := big_in 576 (by decide +kernel) (by decide +kernel)
theorem ml_RX9_172 : Cond.methodLink RX9 172 yX3_rightLanes ∈ big := big_in 581 (by decide +kernel) (by decide +kernel)
theorem ml_RX9_175 : Cond.methodLink RX9 175 yX3_badLanes ∈ big := big_in 582 (by decide +kernel) (by decide +kernel)
theorem ml_RX9_178 : Cond.methodLink RX9 178 yX8_renew ∈ big := big_in 590 (by decide +kernel) (by decide +kernel)
theorem ml_RX9_181 : Cond.methodLink RX9 181 yX4_goOn ∈ big := big_in 613 (by decide +kernel) (by decide +kernel)
theorem ml_RX9_187 : Cond.methodLink RX9 187 yX9_isLaterFrame ∈ big := big_in 754 (by decide +kernel) (by decide +kernel)
theorem ml_RX9_190 : Cond.methodLink RX9 190 yX1_frame ∈ big := big_in 757 (by decide +kernel) (by decide +kernel)
theorem ml_RX9_194 : Cond.methodLink RX9 194 yX0_hasIndex ∈ big := big_in 762 (by decide +kernel) (by decide +kernel)
theorem ml_RX9_197 : Cond.methodLink RX9 197 yX0_cubeAt ∈ big := big_in 763 (by decide +kernel) (by decide +kernel)
theorem ml_RX9_200 : Cond.methodLink RX9 200 yX9_halfOf ∈ big := big_in 764 (by decide +kernel) (by decide +kernel)
theorem ml_RX9_204 : Cond.methodLink RX9 204 yX4_troubleState ∈ big := big_in 771 (by decide +kernel) (by decide +kernel)
theorem ml_RX9_207 : Cond.methodLink RX9 207 yX4_troubleFrame ∈ big := big_in 772 (by decide +kernel) (by decide +kernel)
theorem ml_RX9_210 : Cond.methodLink RX9 210 yX4_hasWay ∈ big := big_in 777 (by decide +kernel) (by decide +kernel)
theorem ml_RX9_213 : Cond.methodLink RX9 213 yX4_waySteps ∈ big := big_in 781 (by decide +kernel) (by decide +kernel)
theorem ml_RX9_216 : Cond.methodLink RX9 216 yX4_stateOfWay ∈ big := big_in 790 (by decide +kernel) (by decide +kernel)
theorem ml_RX9_219 : Cond.methodLink RX9 219 yX4_choiceOfWay ∈ big := big_in 798 (by decide +kernel) (by decide +kernel)
theorem ml_RX9_222 : Cond.methodLink RX9 222 yX4_hasWall ∈ big := big_in 819 (by decide +kernel) (by decide +kernel)
theorem ml_RX9_228 : Cond.methodLink RX9 228 yX0_becomeLike ∈ big := big_in 823 (by decide +kernel) (by decide +kernel)
theorem ml_RX9_232 : Cond.methodLink RX9 232 yX9_isCube ∈ big := big_in 833 (by decide +kernel) (by decide +kernel)
theorem ml_RX9_236 : Cond.methodLink RX9 236 yX9_cubeOf ∈ big := big_in 837 (by decide +kernel) (by decide +kernel)
theorem ml_RX9_239 : Cond.methodLink RX9 239 yX1_leastInto ∈ big := big_in 838 (by decide +kernel) (by decide +kernel)
theorem ml_RX9_242 : Cond.methodLink RX9 242 yX1_canKeepOut ∈ big := big_in 843 (by decide +kernel) (by decide +kernel)
theorem ml_RX9_245 : Cond.methodLink RX9 245 yX1_widened ∈ big := big_in 847 (by decide +kernel) (by decide +kernel)
theorem ml_RX9_248 : Cond.methodLink RX9 248 yX9_maskOf ∈ big := big_in 723 (by decide +kernel) (by decide +kernel)
theorem ml_RX9_251 : Cond.methodLink RX9 251 yX8_fewestToBad ∈ big := big_in 852 (by decide +kernel) (by decide +kernel)
theorem ml_RX9_254 : Cond.methodLink RX9 254 yX8_reached ∈ big := big_in 889 (by decide +kernel) (by decide +kernel)
theorem ml_RX9_258 : Cond.methodLink RX9 258 yX7_howMany ∈ big := big_in 893 (by decide +kernel) (by decide +kernel)
theorem ml_RX9_267 : Cond.methodLink RX9 267 yX7_isInside ∈ big := big_in 898 (by decide +kernel) (by decide +kernel)
theorem ml_RX9_271 : Cond.methodLink RX9 271 yX3_coneBits ∈ big := big_in 906 (by decide +kernel) (by decide +kernel)
theorem ml_RX9_274 : Cond.methodLink RX9 274 yX8_leastForEver ∈ big := big_in 928 (by decide +kernel) (by decide +kernel)
theorem ml_RX9_277 : Cond.methodLink RX9 277 yX0_put ∈ big := big_in 959 (by decide +kernel) (by decide +kernel)
theorem ml_RX9_280 : Cond.methodLink RX9 280 yX9_valuesOf ∈ big := big_in 724 (by decide +kernel) (by decide +kernel)
theorem ml_RX9_283 : Cond.methodLink RX9 283 yX0_change ∈ big := big_in 964 (by decide +kernel) (by decide +kernel)
theorem ml_RX9_287 : Cond.methodLink RX9 287 yX3_states ∈ big := big_in 399 (by decide +kernel) (by decide +kernel)
theorem ml_RX9_290 : Cond.methodLink RX9 290 yX0_restart ∈ big := big_in 400 (by decide +kernel) (by decide +kernel)
theorem ml_RX9_293 : Cond.methodLink RX9 293 yX2_judgeList ∈ big := big_in 980 (by decide +kernel) (by decide +kernel)
theorem ml_RX9_302 : Cond.methodLink RX9 302 yX2_fault ∈ big := big_in 1010 (by decide +kernel) (by decide +kernel)
theorem ml_RX9_305 : Cond.methodLink RX9 305 yX2_shrinkList ∈ big := big_in 1011 (by decide +kernel) (by decide +kernel)
theorem ml_RX9_308 : Cond.methodLink RX9 308 yX5_layOut ∈ big := big_in 1033 (by decide +kernel) (by decide +kernel)
theorem ml_RX9_317 : Cond.methodLink RX9 317 yX5_number ∈ big := big_in 1052 (by decide +kernel) (by decide +kernel)
theorem ml_RX9_320 : Cond.methodLink RX9 320 yX5_hasStretch ∈ big := big_in 1060 (by decide +kernel) (by decide +kernel)
theorem ml_RX9_323 : Cond.methodLink RX9 323 yX5_moveStretch ∈ big := big_in 1064 (by decide +kernel) (by decide +kernel)
theorem ml_RX9_330 : Cond.methodLink RX9 330 yX1_restart ∈ big := big_in 365 (by decide +kernel) (by decide +kernel)
theorem ml_RX9_332 : Cond.methodLink RX9 332 yX4_forget ∈ big := big_in 395 (by decide +kernel) (by decide +kernel)
theorem ml_RX9_335 : Cond.methodLink RX9 335 yX6_put ∈ big := big_in 495 (by decide +kernel) (by decide +kernel)
theorem ml_RX10_115 : Cond.methodLink RX10 115 yX10_changes ∈ big := big_in 1237 (by decide +kernel) (by decide +kernel)
theorem ml_RX10_118 : Cond.methodLink RX10 118 yX10_no ∈ big := big_in 1229 (by decide +kernel) (by decide +kernel)
theorem ml_RX10_125 : Cond.methodLink RX10 125 yX10_adds ∈ big := big_in 1233 (by decide +kernel) (by decide +kernel)
theorem ml_RX10_129 : Cond.methodLink RX10 129 yX10_isSign ∈ big := big_in 1249 (by decide +kernel) (by decide +kernel)
theorem ml_RX10_133 : Cond.methodLink RX10 133 yX10_isIn ∈ big := big_in 1257 (by decide +kernel) (by decide +kernel)
theorem ml_RX10_145 : Cond.methodLink RX10 145 yX10_sorted ∈ big := big_in 1281 (by decide +kernel) (by decide +kernel)
theorem ml_RX10_154 : Cond.methodLink RX10 154 yX10_is ∈ big := big_in 1309 (by decide +kernel) (by decide +kernel)
theorem ml_RX10_161 : Cond.methodLink RX10 161 yX10_states ∈ big := big_in 1301 (by decide +kernel) (by decide +kernel)
theorem ml_RX10_165 : Cond.methodLink RX10 165 yX10_ways ∈ big := big_in 1293 (by decide +kernel) (by decide +kernel)
theorem ml_RX10_168 : Cond.methodLink RX10 168 yX10_show ∈ big := big_in 1305 (by decide +kernel) (by decide +kernel)
theorem ml_RX10_172 : Cond.methodLink RX10 172 yX10_isRight ∈ big := big_in 1313 (by decide +kernel) (by decide +kernel)
theorem ml_RX10_176 : Cond.methodLink RX10 176 yX10_comes ∈ big := big_in 1317 (by decide +kernel) (by decide +kernel)
theorem ml_RX10_182 : Cond.methodLink RX10 182 yX10_table ∈ big := big_in 1297 (by decide +kernel) (by decide +kernel)
theorem ml_RX10_185 : Cond.methodLink RX10 185 yX10_isState ∈ big := big_in 1329 (by decide +kernel) (by decide +kernel)
theorem ml_RX10_200 : Cond.methodLink RX10 200 yX10_isInCube ∈ big := big_in 1358 (by decide +kernel) (by decide +kernel)
theorem ml_RX10_204 : Cond.methodLink RX10 204 yX10_isInFrame ∈ big := big_in 1354 (by decide +kernel) (by decide +kernel)
theorem ml_RX10_208 : Cond.methodLink RX10 208 yX10_leadsInto ∈ big := big_in 1377 (by decide +kernel) (by decide +kernel)
theorem ml_RX10_211 : Cond.methodLink RX10 211 yX10_asked ∈ big := big_in 1405 (by decide +kernel) (by decide +kernel)
theorem ml_RX10_214 : Cond.methodLink RX10 214 yX10_leads ∈ big := big_in 1397 (by decide +kernel) (by decide +kernel)
theorem ml_RX10_217 : Cond.methodLink RX10 217 yX10_tellWay ∈ big := big_in 1346 (by decide +kernel) (by decide +kernel)
theorem ml_RX10_220 : Cond.methodLink RX10 220 yX10_forerunner ∈ big := big_in 1393 (by decide +kernel) (by decide +kernel)
theorem ml_RX10_224 : Cond.methodLink RX10 224 yX10_meet ∈ big := big_in 1342 (by decide +kernel) (by decide +kernel)
theorem ml_RX10_227 : Cond.methodLink RX10 227 yX10_widened ∈ big := big_in 1401 (by decide +kernel) (by decide +kernel)
theorem ml_RX10_230 : Cond.methodLink RX10 230 yX10_keep ∈ big := big_in 1381 (by decide +kernel) (by decide +kernel)
theorem ml_RX10_234 : Cond.methodLink RX10 234 yX10_has ∈ big := big_in 1369 (by decide +kernel) (by decide +kernel)
theorem ml_RX10_237 : Cond.methodLink RX10 237 yX10_isShut ∈ big := big_in 1373 (by decide +kernel) (by decide +kernel)
theorem ml_RX10_240 : Cond.methodLink RX10 240 yX10_push ∈ big := big_in 1365 (by decide +kernel) (by decide +kernel)
theorem ml_RX10_244 : Cond.methodLink RX10 244 yX10_hasAll ∈ big := big_in 1385 (by decide +kernel) (by decide +kernel)
theorem ml_RX10_247 : Cond.methodLink RX10 247 yX10_isBadState ∈ big := big_in 1338 (by decide +kernel) (by decide +kernel)
theorem ml_RX10_252 : Cond.methodLink RX10 252 yX10_hasTrouble ∈ big := big_in 1350 (by decide +kernel) (by decide +kernel)
theorem ml_RX10_255 : Cond.methodLink RX10 255 yX10_pushAll ∈ big := big_in 1361 (by decide +kernel) (by decide +kernel)
theorem ml_RX10_258 : Cond.methodLink RX10 258 yX10_lookAt ∈ big := big_in 1389 (by decide +kernel) (by decide +kernel)
theorem ml_RX10_261 : Cond.methodLink RX10 261 yX10_isFrame ∈ big := big_in 1417 (by decide +kernel) (by decide +kernel)
theorem ml_RX10_266 : Cond.methodLink RX10 266 yX10_isCube ∈ big := big_in 1445 (by decide +kernel) (by decide +kernel)
theorem ml_RX10_269 : Cond.methodLink RX10 269 yX10_findFar ∈ big := big_in 1457 (by decide +kernel) (by decide +kernel)
theorem ml_RX10_272 : Cond.methodLink RX10 272 yX10_findComes ∈ big := big_in 1477 (by decide +kernel) (by decide +kernel)
theorem ml_RX10_275 : Cond.methodLink RX10 275 yX10_fairAround ∈ big := big_in 1481 (by decide +kernel) (by decide +kernel)
theorem ml_RX10_284 : Cond.methodLink RX10 284 yX10_isLeft ∈ big := big_in 1509 (by decide +kernel) (by decide +kernel)
theorem ml_RX10_287 : Cond.methodLink RX10 287 yX10_judged ∈ big := big_in 1505 (by decide +kernel) (by decide +kernel)
end
section
/-! the methods of the reference -/
def wp_X10_isIn (x0 : Int64) (x2 : Int64) (x4 : Int64) (σ : Sg) (Q : Int32 → Prop) : Prop :=
  (((lg_cmp x0 x2) < 0 → (nz (0 : Int32) ∧ Q (0 : Int32))) ∧ (¬ (lg_cmp x0 x2) < 0 → ((0 < (lg_cmp x0 x4) → (nz (0 : Int32) ∧ Q (0 : Int32))) ∧ (¬ 0 < (lg_cmp x0 x4) → (nz (1 : Int32) ∧ Q (1 : Int32))))))
def wl_X10_isIn : WP := fun As σ Q => p1l As (fun x0 r0 => p1l r0 (fun x2 r1 => p1l r1 (fun x4 r2 => onB r2.isEmpty (wp_X10_isIn x0 x2 x4 σ (fun x => Q (some (.int x)) σ)))))
def tb_X10_isIn : List (Nat × Instr × Nat) := [(0, (.lload_n 0, 1)), (1, (.lload_n 2, 1)), (2, (.lcmp, 1)), (3, (.ifCond .lt 17, 3)), (6, (.lload_n 0, 1)), (7, (.lload 4, 2)), (9, (.lcmp, 1)), (10, (.ifCond .gt 17, 3)), (13, (.iconst 1, 1)), (14, (.goto 18, 3)), (17, (.iconst 0, 1)), (18, (.ireturn, 1))]
def ce_X10_isIn : List (Nat × (Nat × Option Nat × WP)) := []
set_option maxRecDepth 100000 in
set_option maxHeartbeats 4000000 in
theorem ct_X10_isIn (l : Launch) : Con l wM yX10_isIn cX10_isIn 6 (some .boolean) 0 wl_X10_isIn := by
  refine sxm_ok l (ft := lkp ft_RX10) (c32 := lkp c32_RX10) (c64 := lkp c64_RX10) (ce := lkp ce_X10_isIn) (sf := lkp sf_RX10) (lab := lkp []) (T := tb_X10_isIn) (by decide +kernel) ft_RX10_ok c32_RX10_ok c64_RX10_ok (fun x q h => (show ∀ q ∈ ce_X10_isIn, ceOK l wM RX10 0 q.1 q.2.1 q.2.2.1 q.2.2.2 from fun _ h => absurd h List.not_mem_nil) (x, q) (lkp_mem h)) sf_RX10_ok (by decide +kernel) 400 (fun As σ Q h => ?_)
  replace h := p1l_e h
  obtain ⟨x0, q0, rfl, h⟩ := h
  replace h := p1l_e h
  obtain ⟨x2, q1, rfl, h⟩ := h
  replace h := p1l_e h
  obtain ⟨x4, q2, rfl, h⟩ := h
  replace h := onB_e h
  obtain ⟨e9, h⟩ := h
  have e9 := List.isEmpty_iff.mp e9
  subst e9
  refine ⟨Nat.le_of_ble_eq_true rfl, fun P hP => ?_⟩
  exact h 
def wp_X10_no (x1 : Int32) (σ : Sg) (Q : Int32 → Sg → Prop) : Prop :=
  (vp_in (-x1) 9 ∧ (vp_in (-x1) 9 ∧ Q x1 (sI σ 8 ((-x1)).toNatClampNeg ((gI σ 8 ((-x1)).toNatClampNeg) + (1 : Int32)))))
def wl_X10_no : WP := fun As σ Q => p1r As (fun z0 r0 => onB (Nat.beq z0 0) (p1i r0 (fun x1 r1 => onB r1.isEmpty (wp_X10_no x1 σ (fun x τ => Q (some (.int x)) τ)))))
def tb_X10_no : List (Nat × Instr × Nat) := [(0, (.aload_n 0, 1)), (1, (.getfield 36, 3)), (4, (.iload_n 1, 1)), (5, (.ineg, 1)), (6, (.dup2, 1)), (7, (.iaload, 1)), (8, (.iconst 1, 1)), (9, (.iadd, 1)), (10, (.iastore, 1)), (11, (.iload_n 1, 1)), (12, (.ireturn, 1))]
def ce_X10_no : List (Nat × (Nat × Option Nat × WP)) := []
set_option maxRecDepth 100000 in
set_option maxHeartbeats 4000000 in
theorem ct_X10_no (l : Launch) : Con l wM yX10_no cX10_no 2 (some .int) 0 wl_X10_no := by
  refine sxm_ok l (ft := lkp ft_RX10) (c32 := lkp c32_RX10) (c64 := lkp c64_RX10) (ce := lkp ce_X10_no) (sf := lkp sf_RX10) (lab := lkp []) (T := tb_X10_no) (by decide +kernel) ft_RX10_ok c32_RX10_ok c64_RX10_ok (fun x q h => (show ∀ q ∈ ce_X10_no, ceOK l wM RX10 0 q.1 q.2.1 q.2.2.1 q.2.2.2 from fun _ h => absurd h List.not_mem_nil) (x, q) (lkp_mem h)) sf_RX10_ok (by decide +kernel) 400 (fun As σ Q h => ?_)
  replace h := p1r_e h
  obtain ⟨z0, q0, rfl, h⟩ := h
  replace h := onB_e h
  obtain ⟨e0, h⟩ := h
  have e0 := Nat.eq_of_beq_eq_true e0
  subst e0
  replace h := p1i_e h
  obtain ⟨x1, q1, rfl, h⟩ := h
  replace h := onB_e h
  obtain ⟨e9, h⟩ := h
  have e9 := List.isEmpty_iff.mp e9
  subst e9
  refine ⟨Nat.le_of_ble_eq_true rfl, fun P hP => ?_⟩
  exact h 
def wp_X10_states  (σ : Sg) (Q : Int32 → Prop) : Prop :=
  Q ((1 : Int32) <<< ((gI σ 0 6) &&& 31))
def wl_X10_states : WP := fun As σ Q => p1r As (fun z0 r0 => onB (Nat.beq z0 0) (onB r0.isEmpty (wp_X10_states  σ (fun x => Q (some (.int x)) σ))))
def tb_X10_states : List (Nat × Instr × Nat) := [(0, (.iconst 1, 1)), (1, (.aload_n 0, 1)), (2, (.getfield 106, 3)), (5, (.ishl, 1)), (6, (.ireturn, 1))]
def ce_X10_states : List (Nat × (Nat × Option Nat × WP)) := []
set_option maxRecDepth 100000 in
set_option maxHeartbeats 4000000 in
theorem ct_X10_states (l : Launch) : Con l wM yX10_states cX10_states 1 (some .int) 0 wl_X10_states := by
  refine sxm_ok l (ft := lkp ft_RX10) (c32 := lkp c32_RX10) (c64 := lkp c64_RX10) (ce := lkp ce_X10_states) (sf := lkp sf_RX10) (lab := lkp []) (T := tb_X10_states) (by decide +kernel) ft_RX10_ok c32_RX10_ok c64_RX10_ok (fun x q h => (show ∀ q ∈ ce_X10_states, ceOK l wM RX10 0 q.1 q.2.1 q.2.2.1 q.2.2.2 from fun _ h => absurd h List.not_mem_nil) (x, q) (lkp_mem h)) sf_RX10_ok (by decide +kernel) 400 (fun As σ Q h => ?_)
  replace h := p1r_e h
  obtain ⟨z0, q0, rfl, h⟩ := h
  replace h := onB_e h
  obtain ⟨e0, h⟩ := h
  have e0 := Nat.eq_of_beq_eq_true e0
  subst e0
  replace h := onB_e h
  obtain ⟨e9, h⟩ := h
  have e9 := List.isEmpty_iff.mp e9
  subst e9
  refine ⟨Nat.le_of_ble_eq_true rfl, fun P hP => ?_⟩
  exact h 
def wp_X10_ways  (σ : Sg) (Q : Int32 → Prop) : Prop :=
  Q ((1 : Int32) <<< ((gI σ 0 7) &&& 31))
def wl_X10_ways : WP := fun As σ Q => p1r As (fun z0 r0 => onB (Nat.beq z0 0) (onB r0.isEmpty (wp_X10_ways  σ (fun x => Q (some (.int x)) σ))))
def tb_X10_ways : List (Nat × Instr × Nat) := [(0, (.iconst 1, 1)), (1, (.aload_n 0, 1)), (2, (.getfield 109, 3)), (5, (.ishl, 1)), (6, (.ireturn, 1))]
def ce_X10_ways : List (Nat × (Nat × Option Nat × WP)) := []
set_option maxRecDepth 100000 in
set_option maxHeartbeats 4000000 in
theorem ct_X10_ways (l : Launch) : Con l wM yX10_ways cX10_ways 1 (some .int) 0 wl_X10_ways := by
  refine sxm_ok l (ft := lkp ft_RX10) (c32 := lkp c32_RX10) (c64 := lkp c64_RX10) (ce := lkp ce_X10_ways) (sf := lkp sf_RX10) (lab := lkp []) (T := tb_X10_ways) (by decide +kernel) ft_RX10_ok c32_RX10_ok c64_RX10_ok (fun x q h => (show ∀ q ∈ ce_X10_ways, ceOK l wM RX10 0 q.1 q.2.1 q.2.2.1 q.2.2.2 from fun _ h => absurd h List.not_mem_nil) (x, q) (lkp_mem h)) sf_RX10_ok (by decide +kernel) 400 (fun As σ Q h => ?_)
  replace h := p1r_e h
  obtain ⟨z0, q0, rfl, h⟩ := h
  replace h := onB_e h
  obtain ⟨e0, h⟩ := h
  have e0 := Nat.eq_of_beq_eq_true e0
  subst e0
  replace h := onB_e h
  obtain ⟨e9, h⟩ := h
  have e9 := List.isEmpty_iff.mp e9
  subst e9
  refine ⟨Nat.le_of_ble_eq_true rfl, fun P hP => ?_⟩
  exact h 
def wp_X10_isSign (x1 : Int32) (σ : Sg) (Q : Int32 → Prop) : Prop :=
  ((x1 < 0 → (nz (0 : Int32) ∧ Q (0 : Int32))) ∧ (¬ x1 < 0 → ((x1 < ((2 : Int32) * (gI σ 0 5)) → (nz (1 : Int32) ∧ Q (1 : Int32))) ∧ (¬ x1 < ((2 : Int32) * (gI σ 0 5)) → (nz (0 : Int32) ∧ Q (0 : Int32))))))
def wl_X10_isSign : WP := fun As σ Q => p1r As (fun z0 r0 => onB (Nat.beq z0 0) (p1i r0 (fun x1 r1 => onB r1.isEmpty (wp_X10_isSign x1 σ (fun x => Q (some (.int x)) σ)))))
def tb_X10_isSign : List (Nat × Instr × Nat) := [(0, (.iload_n 1, 1)), (1, (.ifCond .lt 18, 3)), (4, (.iload_n 1, 1)), (5, (.iconst 2, 1)), (6, (.aload_n 0, 1)), (7, (.getfield 112, 3)), (10, (.imul, 1)), (11, (.if_icmp .ge 18, 3)), (14, (.iconst 1, 1)), (15, (.goto 19, 3)), (18, (.iconst 0, 1)), (19, (.ireturn, 1))]
def ce_X10_isSign : List (Nat × (Nat × Option Nat × WP)) := []
set_option maxRecDepth 100000 in
set_option maxHeartbeats 4000000 in
theorem ct_X10_isSign (l : Launch) : Con l wM yX10_isSign cX10_isSign 2 (some .boolean) 0 wl_X10_isSign := by
  refine sxm_ok l (ft := lkp ft_RX10) (c32 := lkp c32_RX10) (c64 := lkp c64_RX10) (ce := lkp ce_X10_isSign) (sf := lkp sf_RX10) (lab := lkp []) (T := tb_X10_isSign) (by decide +kernel) ft_RX10_ok c32_RX10_ok c64_RX10_ok (fun x q h => (show ∀ q ∈ ce_X10_isSign, ceOK l wM RX10 0 q.1 q.2.1 q.2.2.1 q.2.2.2 from fun _ h => absurd h List.not_mem_nil) (x, q) (lkp_mem h)) sf_RX10_ok (by decide +kernel) 400 (fun As σ Q h => ?_)
  replace h := p1r_e h
  obtain ⟨z0, q0, rfl, h⟩ := h
  replace h := onB_e h
  obtain ⟨e0, h⟩ := h
  have e0 := Nat.eq_of_beq_eq_true e0
  subst e0
  replace h := p1i_e h
  obtain ⟨x1, q1, rfl, h⟩ := h
  replace h := onB_e h
  obtain ⟨e9, h⟩ := h
  have e9 := List.isEmpty_iff.mp e9
  subst e9
  refine ⟨Nat.le_of_ble_eq_true rfl, fun P hP => ?_⟩
  exact h 
def wp_X10_sorted (x1 : Int32) (σ : Sg) (Q : Int32 → Prop) : Prop :=
  ∀ L4 : Int32 → Int32 → Prop,
  (∀ (x2 : Int32) (x3 : Int32), ((x3 < (gI σ 0 5) → (vp_in x3 80 ∧ (((gI σ 1 (x3).toNatClampNeg) = x1 → L4 (x2 + (1 : Int32)) (x3 + (1 : Int32))) ∧ (¬ (gI σ 1 (x3).toNatClampNeg) = x1 → L4 (x2 + (0 : Int32)) (x3 + (1 : Int32)))))) ∧ (¬ x3 < (gI σ 0 5) → Q x2)) → L4 x2 x3) →
  L4 (0 : Int32) (0 : Int32)
def wl_X10_sorted : WP := fun As σ Q => p1r As (fun z0 r0 => onB (Nat.beq z0 0) (p1i r0 (fun x1 r1 => onB r1.isEmpty (wp_X10_sorted x1 σ (fun x => Q (some (.int x)) σ)))))
def tb_X10_sorted : List (Nat × Instr × Nat) := [(0, (.iconst 0, 1)), (1, (.istore_n 2, 1)), (2, (.iconst 0, 1)), (3, (.istore_n 3, 1)), (4, (.iload_n 3, 1)), (5, (.aload_n 0, 1)), (6, (.getfield 112, 3)), (9, (.if_icmp .ge 36, 3)), (12, (.iload_n 2, 1)), (13, (.aload_n 0, 1)), (14, (.getfield 7, 3)), (17, (.iload_n 3, 1)), (18, (.iaload, 1)), (19, (.iload_n 1, 1)), (20, (.if_icmp .ne 27, 3)), (23, (.iconst 1, 1)), (24, (.goto 28, 3)), (27, (.iconst 0, 1)), (28, (.iadd, 1)), (29, (.istore_n 2, 1)), (30, (.iinc 3 1, 3)), (33, (.goto 4, 3)), (36, (.iload_n 2, 1)), (37, (.ireturn, 1))]
def ce_X10_sorted : List (Nat × (Nat × Option Nat × WP)) := []
set_option maxRecDepth 100000 in
set_option maxHeartbeats 4000000 in
theorem ct_X10_sorted (l : Launch) : Con l wM yX10_sorted cX10_sorted 4 (some .int) 0 wl_X10_sorted := by
  refine sxm_ok l (ft := lkp ft_RX10) (c32 := lkp c32_RX10) (c64 := lkp c64_RX10) (ce := lkp ce_X10_sorted) (sf := lkp sf_RX10) (lab := lkp [(4, [0, 1, 2, 3])]) (T := tb_X10_sorted) (by decide +kernel) ft_RX10_ok c32_RX10_ok c64_RX10_ok (fun x q h => (show ∀ q ∈ ce_X10_sorted, ceOK l wM RX10 0 q.1 q.2.1 q.2.2.1 q.2.2.2 from fun _ h => absurd h List.not_mem_nil) (x, q) (lkp_mem h)) sf_RX10_ok (by decide +kernel) 400 (fun As σ Q h => ?_)
  replace h := p1r_e h
  obtain ⟨z0, q0, rfl, h⟩ := h
  replace h := onB_e h
  obtain ⟨e0, h⟩ := h
  have e0 := Nat.eq_of_beq_eq_true e0
  subst e0
  replace h := p1i_e h
  obtain ⟨x1, q1, rfl, h⟩ := h
  replace h := onB_e h
  obtain ⟨e9, h⟩ := h
  have e9 := List.isEmpty_iff.mp e9
  subst e9
  refine ⟨Nat.le_of_ble_eq_true rfl, fun P hP => ?_⟩
  exact h (fun x2 x3 => P 4 [.ref 0, .int x1, .int x2, .int x3] σ) (fun x2 x3 hb => hP 4 [.ref 0, .int x1, .int x2, .int x3] σ hb)
def wp_X10_is (x1 : Int32) (σ : Sg) (Q : Int32 → Prop) : Prop :=
  (¬ (2 : Int32) = 0 ∧ (vp_in (x1 / (2 : Int32)) 80 ∧ (¬ (2 : Int32) = 0 ∧ (((x1 - x1 / (2 : Int32) * (2 : Int32)) = (1 : Int32) → (((gI σ 5 ((x1 / (2 : Int32))).toNatClampNeg) = (1 : Int32) → (nz (0 : Int32) ∧ Q (0 : Int32))) ∧ (¬ (gI σ 5 ((x1 / (2 : Int32))).toNatClampNeg) = (1 : Int32) → (nz (1 : Int32) ∧ Q (1 : Int32))))) ∧ (¬ (x1 - x1 / (2 : Int32) * (2 : Int32)) = (1 : Int32) → (((gI σ 5 ((x1 / (2 : Int32))).toNatClampNeg) = (0 : Int32) → (nz (0 : Int32) ∧ Q (0 : Int32))) ∧ (¬ (gI σ 5 ((x1 / (2 : Int32))).toNatClampNeg) = (0 : Int32) → (nz (1 : Int32) ∧ Q (1 : Int32)))))))))
def wl_X10_is : WP := fun As σ Q => p1r As (fun z0 r0 => onB (Nat.beq z0 0) (p1i r0 (fun x1 r1 => onB r1.isEmpty (wp_X10_is x1 σ (fun x => Q (some (.int x)) σ)))))
def tb_X10_is : List (Nat × Instr × Nat) := [(0, (.aload_n 0, 1)), (1, (.getfield 22, 3)), (4, (.iload_n 1, 1)), (5, (.iconst 2, 1)), (6, (.idiv, 1)), (7, (.baload, 1)), (8, (.iload_n 1, 1)), (9, (.iconst 2, 1)), (10, (.irem, 1)), (11, (.iconst 1, 1)), (12, (.if_icmp .ne 19, 3)), (15, (.iconst 1, 1)), (16, (.goto 20, 3)), (19, (.iconst 0, 1)), (20, (.if_icmp .eq 27, 3)), (23, (.iconst 1, 1)), (24, (.goto 28, 3)), (27, (.iconst 0, 1)), (28, (.ireturn, 1))]
def ce_X10_is : List (Nat × (Nat × Option Nat × WP)) := []
set_option maxRecDepth 100000 in
set_option maxHeartbeats 4000000 in
theorem ct_X10_is (l : Launch) : Con l wM yX10_is cX10_is 2 (some .boolean) 0 wl_X10_is := by
  refine sxm_ok l (ft := lkp ft_RX10) (c32 := lkp c32_RX10) (c64 := lkp c64_RX10) (ce := lkp ce_X10_is) (sf := lkp sf_RX10) (lab := lkp []) (T := tb_X10_is) (by decide +kernel) ft_RX10_ok c32_RX10_ok c64_RX10_ok (fun x q h => (show ∀ q ∈ ce_X10_is, ceOK l wM RX10 0 q.1 q.2.1 q.2.2.1 q.2.2.2 from fun _ h => absurd h List.not_mem_nil) (x, q) (lkp_mem h)) sf_RX10_ok (by decide +kernel) 400 (fun As σ Q h => ?_)
  replace h := p1r_e h
  obtain ⟨z0, q0, rfl, h⟩ := h
  replace h := onB_e h
  obtain ⟨e0, h⟩ := h
  have e0 := Nat.eq_of_beq_eq_true e0
  subst e0
  replace h := p1i_e h
  obtain ⟨x1, q1, rfl, h⟩ := h
  replace h := onB_e h
  obtain ⟨e9, h⟩ := h
  have e9 := List.isEmpty_iff.mp e9
  subst e9
  refine ⟨Nat.le_of_ble_eq_true rfl, fun P hP => ?_⟩
  exact h 
def wp_X10_start  (σ : Sg) (Q : Int32 → Sg → Prop) : Prop :=
  Q (gI (sI σ 0 19 (gI σ 0 8)) 0 19) (sI σ 0 19 (gI σ 0 8))
def wl_X10_start : WP := fun As σ Q => p1r As (fun z0 r0 => onB (Nat.beq z0 0) (onB r0.isEmpty (wp_X10_start  σ (fun x τ => Q (some (.int x)) τ))))
def tb_X10_start : List (Nat × Instr × Nat) := [(0, (.aload_n 0, 1)), (1, (.aload_n 0, 1)), (2, (.getfield 122, 3)), (5, (.putfield 179, 3)), (8, (.aload_n 0, 1)), (9, (.getfield 179, 3)), (12, (.ireturn, 1))]
def ce_X10_start : List (Nat × (Nat × Option Nat × WP)) := []
set_option maxRecDepth 100000 in
set_option maxHeartbeats 4000000 in
theorem ct_X10_start (l : Launch) : Con l wM yX10_start cX10_start 1 (some .int) 0 wl_X10_start := by
  refine sxm_ok l (ft := lkp ft_RX10) (c32 := lkp c32_RX10) (c64 := lkp c64_RX10) (ce := lkp ce_X10_start) (sf := lkp sf_RX10) (lab := lkp []) (T := tb_X10_start) (by decide +kernel) ft_RX10_ok c32_RX10_ok c64_RX10_ok (fun x q h => (show ∀ q ∈ ce_X10_start, ceOK l wM RX10 0 q.1 q.2.1 q.2.2.1 q.2.2.2 from fun _ h => absurd h List.not_mem_nil) (x, q) (lkp_mem h)) sf_RX10_ok (by decide +kernel) 400 (fun As σ Q h => ?_)
  replace h := p1r_e h
  obtain ⟨z0, q0, rfl, h⟩ := h
  replace h := onB_e h
  obtain ⟨e0, h⟩ := h
  have e0 := Nat.eq_of_beq_eq_true e0
  subst e0
  replace h := onB_e h
  obtain ⟨e9, h⟩ := h
  have e9 := List.isEmpty_iff.mp e9
  subst e9
  refine ⟨Nat.le_of_ble_eq_true rfl, fun P hP => ?_⟩
  exact h 
def wp_X10_changes  (σ : Sg) (Q : Sg → Prop) : Prop :=
  ∀ L7 : Int32 → Sg → Prop,
  (∀ (x1 : Int32) (τ : Sg), (((24 : Int32) < x1 → Q (sI (sI (sI (sI (sI (sI (sI (sI τ 0 23 (0 : Int32)) 0 24 (0 : Int32)) 0 25 (0 : Int32)) 0 26 (0 : Int32)) 0 31 (-1 : Int32)) 0 33 (0 : Int32)) 0 39 (0 : Int32)) 0 19 (gI (sI (sI (sI (sI (sI (sI (sI τ 0 23 (0 : Int32)) 0 24 (0 : Int32)) 0 25 (0 : Int32)) 0 26 (0 : Int32)) 0 31 (-1 : Int32)) 0 33 (0 : Int32)) 0 39 (0 : Int32)) 0 8))) ∧ (¬ (24 : Int32) < x1 → (vp_in x1 25 ∧ L7 (x1 + (1 : Int32)) (sI τ 14 (x1).toNatClampNeg (0 : Int32))))) → L7 x1 τ) →
  (nz (0 : Int32) ∧ L7 (0 : Int32) (sI σ 0 18 (0 : Int32)))
def wl_X10_changes : WP := fun As σ Q => p1r As (fun z0 r0 => onB (Nat.beq z0 0) (onB r0.isEmpty (wp_X10_changes  σ (fun τ => Q none τ))))
def tb_X10_changes : List (Nat × Instr × Nat) := [(0, (.aload_n 0, 1)), (1, (.iconst 0, 1)), (2, (.putfield 157, 3)), (5, (.iconst 0, 1)), (6, (.istore_n 1, 1)), (7, (.iload_n 1, 1)), (8, (.bipush 24, 2)), (10, (.if_icmp .gt 26, 3)), (13, (.aload_n 0, 1)), (14, (.getfield 54, 3)), (17, (.iload_n 1, 1)), (18, (.iconst 0, 1)), (19, (.iastore, 1)), (20, (.iinc 1 1, 3)), (23, (.goto 7, 3)), (26, (.aload_n 0, 1)), (27, (.iconst 0, 1)), (28, (.putfield 188, 3)), (31, (.aload_n 0, 1)), (32, (.iconst 0, 1)), (33, (.putfield 191, 3)), (36, (.aload_n 0, 1)), (37, (.iconst 0, 1)), (38, (.putfield 148, 3)), (41, (.aload_n 0, 1)), (42, (.iconst 0, 1)), (43, (.putfield 194, 3)), (46, (.aload_n 0, 1)), (47, (.iconst (-1), 1)), (48, (.putfield 69, 3)), (51, (.aload_n 0, 1)), (52, (.iconst 0, 1)), (53, (.putfield 197, 3)), (56, (.aload_n 0, 1)), (57, (.iconst 0, 1)), (58, (.putfield 151, 3)), (61, (.aload_n 0, 1)), (62, (.aload_n 0, 1)), (63, (.getfield 122, 3)), (66, (.putfield 179, 3)), (69, (.return_, 1))]
def ce_X10_changes : List (Nat × (Nat × Option Nat × WP)) := []
set_option maxRecDepth 100000 in
set_option maxHeartbeats 4000000 in
theorem ct_X10_changes (l : Launch) : Con l wM yX10_changes cX10_changes 2 none 0 wl_X10_changes := by
  refine sxm_ok l (ft := lkp ft_RX10) (c32 := lkp c32_RX10) (c64 := lkp c64_RX10) (ce := lkp ce_X10_changes) (sf := lkp sf_RX10) (lab := lkp [(7, [0, 1])]) (T := tb_X10_changes) (by decide +kernel) ft_RX10_ok c32_RX10_ok c64_RX10_ok (fun x q h => (show ∀ q ∈ ce_X10_changes, ceOK l wM RX10 0 q.1 q.2.1 q.2.2.1 q.2.2.2 from fun _ h => absurd h List.not_mem_nil) (x, q) (lkp_mem h)) sf_RX10_ok (by decide +kernel) 400 (fun As σ Q h => ?_)
  replace h := p1r_e h
  obtain ⟨z0, q0, rfl, h⟩ := h
  replace h := onB_e h
  obtain ⟨e0, h⟩ := h
  have e0 := Nat.eq_of_beq_eq_true e0
  subst e0
  replace h := onB_e h
  obtain ⟨e9, h⟩ := h
  have e9 := List.isEmpty_iff.mp e9
  subst e9
  refine ⟨Nat.le_of_ble_eq_true rfl, fun P hP => ?_⟩
  exact h (fun x1 τ => P 7 [.ref 0, .int x1] τ) (fun x1 τ hb => hP 7 [.ref 0, .int x1] τ hb)
def wp_X10_isInCube (x0 : Int32) (x1 : Int32) (x2 : Int32) (σ : Sg) (Q : Int32 → Prop) : Prop :=
  (((x0 &&& x1) = x2 → (nz (1 : Int32) ∧ Q (1 : Int32))) ∧ (¬ (x0 &&& x1) = x2 → (nz (0 : Int32) ∧ Q (0 : Int32))))
def wl_X10_isInCube : WP := fun As σ Q => p1i As (fun x0 r0 => p1i r0 (fun x1 r1 => p1i r1 (fun x2 r2 => onB r2.isEmpty (wp_X10_isInCube x0 x1 x2 σ (fun x => Q (some (.int x)) σ)))))
def tb_X10_isInCube : List (Nat × Instr × Nat) := [(0, (.iload_n 0, 1)), (1, (.iload_n 1, 1)), (2, (.iand, 1)), (3, (.iload_n 2, 1)), (4, (.if_icmp .ne 11, 3)), (7, (.iconst 1, 1)), (8, (.goto 12, 3)), (11, (.iconst 0, 1)), (12, (.ireturn, 1))]
def ce_X10_isInCube : List (Nat × (Nat × Option Nat × WP)) := []
set_option maxRecDepth 100000 in
set_option maxHeartbeats 4000000 in
theorem ct_X10_isInCube (l : Launch) : Con l wM yX10_isInCube cX10_isInCube 3 (some .boolean) 0 wl_X10_isInCube := by
  refine sxm_ok l (ft := lkp ft_RX10) (c32 := lkp c32_RX10) (c64 := lkp c64_RX10) (ce := lkp ce_X10_isInCube) (sf := lkp sf_RX10) (lab := lkp []) (T := tb_X10_isInCube) (by decide +kernel) ft_RX10_ok c32_RX10_ok c64_RX10_ok (fun x q h => (show ∀ q ∈ ce_X10_isInCube, ceOK l wM RX10 0 q.1 q.2.1 q.2.2.1 q.2.2.2 from fun _ h => absurd h List.not_mem_nil) (x, q) (lkp_mem h)) sf_RX10_ok (by decide +kernel) 400 (fun As σ Q h => ?_)
  replace h := p1i_e h
  obtain ⟨x0, q0, rfl, h⟩ := h
  replace h := p1i_e h
  obtain ⟨x1, q1, rfl, h⟩ := h
  replace h := p1i_e h
  obtain ⟨x2, q2, rfl, h⟩ := h
  replace h := onB_e h
  obtain ⟨e9, h⟩ := h
  have e9 := List.isEmpty_iff.mp e9
  subst e9
  refine ⟨Nat.le_of_ble_eq_true rfl, fun P hP => ?_⟩
  exact h 
def wp_X10_keep (x1 : Int32) (x2 : Int32) (x3 : Int32) (σ : Sg) (Q : Sg → Prop) : Prop :=
  (vp_in x1 25 ∧ (vp_in (((200 : Int32) * x1) + (gI σ 14 (x1).toNatClampNeg)) 5000 ∧ (vp_in (((200 : Int32) * x1) + (gI σ 14 (x1).toNatClampNeg)) 5000 ∧ (vp_in x1 25 ∧ (vp_in x1 25 ∧ Q (sI (sI (sI σ 12 ((((200 : Int32) * x1) + (gI σ 14 (x1).toNatClampNeg))).toNatClampNeg x2) 13 ((((200 : Int32) * x1) + (gI σ 14 (x1).toNatClampNeg))).toNatClampNeg x3) 14 (x1).toNatClampNeg ((gI (sI (sI σ 12 ((((200 : Int32) * x1) + (gI σ 14 (x1).toNatClampNeg))).toNatClampNeg x2) 13 ((((200 : Int32) * x1) + (gI σ 14 (x1).toNatClampNeg))).toNatClampNeg x3) 14 (x1).toNatClampNeg) + (1 : Int32))))))))
def wl_X10_keep : WP := fun As σ Q => p1r As (fun z0 r0 => onB (Nat.beq z0 0) (p1i r0 (fun x1 r1 => p1i r1 (fun x2 r2 => p1i r2 (fun x3 r3 => onB r3.isEmpty (wp_X10_keep x1 x2 x3 σ (fun τ => Q none τ)))))))
def tb_X10_keep : List (Nat × Instr × Nat) := [(0, (.sipush 200, 3)), (3, (.iload_n 1, 1)), (4, (.imul, 1)), (5, (.aload_n 0, 1)), (6, (.getfield 54, 3)), (9, (.iload_n 1, 1)), (10, (.iaload, 1)), (11, (.iadd, 1)), (12, (.istore 4, 2)), (14, (.aload_n 0, 1)), (15, (.getfield 48, 3)), (18, (.iload 4, 2)), (20, (.iload_n 2, 1)), (21, (.iastore, 1)), (22, (.aload_n 0, 1)), (23, (.getfield 51, 3)), (26, (.iload 4, 2)), (28, (.iload_n 3, 1)), (29, (.iastore, 1)), (30, (.aload_n 0, 1)), (31, (.getfield 54, 3)), (34, (.iload_n 1, 1)), (35, (.dup2, 1)), (36, (.iaload, 1)), (37, (.iconst 1, 1)), (38, (.iadd, 1)), (39, (.iastore, 1)), (40, (.return_, 1))]
def ce_X10_keep : List (Nat × (Nat × Option Nat × WP)) := []
set_option maxRecDepth 100000 in
set_option maxHeartbeats 4000000 in
theorem ct_X10_keep (l : Launch) : Con l wM yX10_keep cX10_keep 5 none 0 wl_X10_keep := by
  refine sxm_ok l (ft := lkp ft_RX10) (c32 := lkp c32_RX10) (c64 := lkp c64_RX10) (ce := lkp ce_X10_keep) (sf := lkp sf_RX10) (lab := lkp []) (T := tb_X10_keep) (by decide +kernel) ft_RX10_ok c32_RX10_ok c64_RX10_ok (fun x q h => (show ∀ q ∈ ce_X10_keep, ceOK l wM RX10 0 q.1 q.2.1 q.2.2.1 q.2.2.2 from fun _ h => absurd h List.not_mem_nil) (x, q) (lkp_mem h)) sf_RX10_ok (by decide +kernel) 400 (fun As σ Q h => ?_)
  replace h := p1r_e h
  obtain ⟨z0, q0, rfl, h⟩ := h
  replace h := onB_e h
  obtain ⟨e0, h⟩ := h
  have e0 := Nat.eq_of_beq_eq_true e0
  subst e0
  replace h := p1i_e h
  obtain ⟨x1, q1, rfl, h⟩ := h
  replace h := p1i_e h
  obtain ⟨x2, q2, rfl, h⟩ := h
  replace h := p1i_e h
  obtain ⟨x3, q3, rfl, h⟩ := h
  replace h := onB_e h
  obtain ⟨e9, h⟩ := h
  have e9 := List.isEmpty_iff.mp e9
  subst e9
  refine ⟨Nat.le_of_ble_eq_true rfl, fun P hP => ?_⟩
  exact h 
def wp_X10_meet (x1 : Int32) (x2 : Int32) (σ : Sg) (Q : Sg → Prop) : Prop :=
  (vp_in (gI σ 0 26) 40 ∧ (vp_in (gI (sI σ 15 ((gI σ 0 26)).toNatClampNeg x1) 0 26) 40 ∧ Q (sI (sI (sI σ 15 ((gI σ 0 26)).toNatClampNeg x1) 16 ((gI (sI σ 15 ((gI σ 0 26)).toNatClampNeg x1) 0 26)).toNatClampNeg x2) 0 26 ((gI (sI (sI σ 15 ((gI σ 0 26)).toNatClampNeg x1) 16 ((gI (sI σ 15 ((gI σ 0 26)).toNatClampNeg x1) 0 26)).toNatClampNeg x2) 0 26) + (1 : Int32)))))
def wl_X10_meet : WP := fun As σ Q => p1r As (fun z0 r0 => onB (Nat.beq z0 0) (p1i r0 (fun x1 r1 => p1i r1 (fun x2 r2 => onB r2.isEmpty (wp_X10_meet x1 x2 σ (fun τ => Q none τ))))))
def tb_X10_meet : List (Nat × Instr × Nat) := [(0, (.aload_n 0, 1)), (1, (.getfield 57, 3)), (4, (.aload_n 0, 1)), (5, (.getfield 194, 3)), (8, (.iload_n 1, 1)), (9, (.iastore, 1)), (10, (.aload_n 0, 1)), (11, (.getfield 60, 3)), (14, (.aload_n 0, 1)), (15, (.getfield 194, 3)), (18, (.iload_n 2, 1)), (19, (.iastore, 1)), (20, (.aload_n 0, 1)), (21, (.dup, 1)), (22, (.getfield 194, 3)), (25, (.iconst 1, 1)), (26, (.iadd, 1)), (27, (.putfield 194, 3)), (30, (.return_, 1))]
def ce_X10_meet : List (Nat × (Nat × Option Nat × WP)) := []
set_option maxRecDepth 100000 in
set_option maxHeartbeats 4000000 in
theorem ct_X10_meet (l : Launch) : Con l wM yX10_meet cX10_meet 3 none 0 wl_X10_meet := by
  refine sxm_ok l (ft := lkp ft_RX10) (c32 := lkp c32_RX10) (c64 := lkp c64_RX10) (ce := lkp ce_X10_meet) (sf := lkp sf_RX10) (lab := lkp []) (T := tb_X10_meet) (by decide +kernel) ft_RX10_ok c32_RX10_ok c64_RX10_ok (fun x q h => (show ∀ q ∈ ce_X10_meet, ceOK l wM RX10 0 q.1 q.2.1 q.2.2.1 q.2.2.2 from fun _ h => absurd h List.not_mem_nil) (x, q) (lkp_mem h)) sf_RX10_ok (by decide +kernel) 400 (fun As σ Q h => ?_)
  replace h := p1r_e h
  obtain ⟨z0, q0, rfl, h⟩ := h
  replace h := onB_e h
  obtain ⟨e0, h⟩ := h
  have e0 := Nat.eq_of_beq_eq_true e0
  subst e0
  replace h := p1i_e h
  obtain ⟨x1, q1, rfl, h⟩ := h
  replace h := p1i_e h
  obtain ⟨x2, q2, rfl, h⟩ := h
  replace h := onB_e h
  obtain ⟨e9, h⟩ := h
  have e9 := List.isEmpty_iff.mp e9
  subst e9
  refine ⟨Nat.le_of_ble_eq_true rfl, fun P hP => ?_⟩
  exact h 
def wp_X10_tellWay  (σ : Sg) (Q : Sg → Prop) : Prop :=
  ∀ L10 : Int32 → Sg → Prop,
  (∀ (x1 : Int32) (τ : Sg), ((x1 < (gI τ 0 26) → (vp_in (((gI τ 0 26) - (1 : Int32)) - x1) 40 ∧ (vp_in x1 40 ∧ L10 (x1 + (1 : Int32)) (sI τ 19 (x1).toNatClampNeg (gI τ 15 ((((gI τ 0 26) - (1 : Int32)) - x1)).toNatClampNeg))))) ∧ (¬ x1 < (gI τ 0 26) → Q (sI τ 0 24 (2 : Int32)))) → L10 x1 τ) →
  L10 (0 : Int32) (sI σ 0 33 (gI σ 0 26))
def wl_X10_tellWay : WP := fun As σ Q => p1r As (fun z0 r0 => onB (Nat.beq z0 0) (onB r0.isEmpty (wp_X10_tellWay  σ (fun τ => Q none τ))))
def tb_X10_tellWay : List (Nat × Instr × Nat) := [(0, (.aload_n 0, 1)), (1, (.aload_n 0, 1)), (2, (.getfield 194, 3)), (5, (.putfield 197, 3)), (8, (.iconst 0, 1)), (9, (.istore_n 1, 1)), (10, (.iload_n 1, 1)), (11, (.aload_n 0, 1)), (12, (.getfield 194, 3)), (15, (.if_icmp .ge 43, 3)), (18, (.aload_n 0, 1)), (19, (.getfield 72, 3)), (22, (.iload_n 1, 1)), (23, (.aload_n 0, 1)), (24, (.getfield 57, 3)), (27, (.aload_n 0, 1)), (28, (.getfield 194, 3)), (31, (.iconst 1, 1)), (32, (.isub, 1)), (33, (.iload_n 1, 1)), (34, (.isub, 1)), (35, (.iaload, 1)), (36, (.iastore, 1)), (37, (.iinc 1 1, 3)), (40, (.goto 10, 3)), (43, (.aload_n 0, 1)), (44, (.iconst 2, 1)), (45, (.putfield 191, 3)), (48, (.return_, 1))]
def ce_X10_tellWay : List (Nat × (Nat × Option Nat × WP)) := []
set_option maxRecDepth 100000 in
set_option maxHeartbeats 4000000 in
theorem ct_X10_tellWay (l : Launch) : Con l wM yX10_tellWay cX10_tellWay 2 none 0 wl_X10_tellWay := by
  refine sxm_ok l (ft := lkp ft_RX10) (c32 := lkp c32_RX10) (c64 := lkp c64_RX10) (ce := lkp ce_X10_tellWay) (sf := lkp sf_RX10) (lab := lkp [(10, [0, 1])]) (T := tb_X10_tellWay) (by decide +kernel) ft_RX10_ok c32_RX10_ok c64_RX10_ok (fun x q h => (show ∀ q ∈ ce_X10_tellWay, ceOK l wM RX10 0 q.1 q.2.1 q.2.2.1 q.2.2.2 from fun _ h => absurd h List.not_mem_nil) (x, q) (lkp_mem h)) sf_RX10_ok (by decide +kernel) 400 (fun As σ Q h => ?_)
  replace h := p1r_e h
  obtain ⟨z0, q0, rfl, h⟩ := h
  replace h := onB_e h
  obtain ⟨e0, h⟩ := h
  have e0 := Nat.eq_of_beq_eq_true e0
  subst e0
  replace h := onB_e h
  obtain ⟨e9, h⟩ := h
  have e9 := List.isEmpty_iff.mp e9
  subst e9
  refine ⟨Nat.le_of_ble_eq_true rfl, fun P hP => ?_⟩
  exact h (fun x1 τ => P 10 [.ref 0, .int x1] τ) (fun x1 τ hb => hP 10 [.ref 0, .int x1] τ hb)
def wp_X10_has (x1 : Int32) (x2 : Int32) (x3 : Int32) (σ : Sg) (Q : Int32 → Prop) : Prop :=
  ∀ L6 : Int32 → Int32 → Prop,
  (∀ (x4 : Int32) (x5 : Int32), (vp_in x1 25 ∧ ((x5 < (gI σ 14 (x1).toNatClampNeg) → ((x4 = 0 → (vp_in (((200 : Int32) * x1) + x5) 5000 ∧ (((gI σ 12 ((((200 : Int32) * x1) + x5)).toNatClampNeg) = x2 → (vp_in (((200 : Int32) * x1) + x5) 5000 ∧ (((gI σ 13 ((((200 : Int32) * x1) + x5)).toNatClampNeg) = x3 → L6 (1 : Int32) (x5 + (1 : Int32))) ∧ (¬ (gI σ 13 ((((200 : Int32) * x1) + x5)).toNatClampNeg) = x3 → L6 (0 : Int32) (x5 + (1 : Int32)))))) ∧ (¬ (gI σ 12 ((((200 : Int32) * x1) + x5)).toNatClampNeg) = x2 → L6 (0 : Int32) (x5 + (1 : Int32)))))) ∧ (¬ x4 = 0 → L6 (1 : Int32) (x5 + (1 : Int32))))) ∧ (¬ x5 < (gI σ 14 (x1).toNatClampNeg) → (nz x4 ∧ Q x4)))) → L6 x4 x5) →
  L6 (0 : Int32) (0 : Int32)
def wl_X10_has : WP := fun As σ Q => p1r As (fun z0 r0 => onB (Nat.beq z0 0) (p1i r0 (fun x1 r1 => p1i r1 (fun x2 r2 => p1i r2 (fun x3 r3 => onB r3.isEmpty (wp_X10_has x1 x2 x3 σ (fun x => Q (some (.int x)) σ)))))))
def tb_X10_has : List (Nat × Instr × Nat) := [(0, (.iconst 0, 1)), (1, (.istore 4, 2)), (3, (.iconst 0, 1)), (4, (.istore 5, 2)), (6, (.iload 5, 2)), (8, (.aload_n 0, 1)), (9, (.getfield 54, 3)), (12, (.iload_n 1, 1)), (13, (.iaload, 1)), (14, (.if_icmp .ge 69, 3)), (17, (.iload 4, 2)), (19, (.ifCond .ne 56, 3)), (22, (.aload_n 0, 1)), (23, (.getfield 48, 3)), (26, (.sipush 200, 3)), (29, (.iload_n 1, 1)), (30, (.imul, 1)), (31, (.iload 5, 2)), (33, (.iadd, 1)), (34, (.iaload, 1)), (35, (.iload_n 2, 1)), (36, (.if_icmp .ne 60, 3)), (39, (.aload_n 0, 1)), (40, (.getfield 51, 3)), (43, (.sipush 200, 3)), (46, (.iload_n 1, 1)), (47, (.imul, 1)), (48, (.iload 5, 2)), (50, (.iadd, 1)), (51, (.iaload, 1)), (52, (.iload_n 3, 1)), (53, (.if_icmp .ne 60, 3)), (56, (.iconst 1, 1)), (57, (.goto 61, 3)), (60, (.iconst 0, 1)), (61, (.istore 4, 2)), (63, (.iinc 5 1, 3)), (66, (.goto 6, 3)), (69, (.iload 4, 2)), (71, (.ireturn, 1))]
def ce_X10_has : List (Nat × (Nat × Option Nat × WP)) := []
set_option maxRecDepth 100000 in
set_option maxHeartbeats 4000000 in
theorem ct_X10_has (l : Launch) : Con l wM yX10_has cX10_has 6 (some .boolean) 0 wl_X10_has := by
  refine sxm_ok l (ft := lkp ft_RX10) (c32 := lkp c32_RX10) (c64 := lkp c64_RX10) (ce := lkp ce_X10_has) (sf := lkp sf_RX10) (lab := lkp [(6, [0, 1, 2, 3, 4, 5])]) (T := tb_X10_has) (by decide +kernel) ft_RX10_ok c32_RX10_ok c64_RX10_ok (fun x q h => (show ∀ q ∈ ce_X10_has, ceOK l wM RX10 0 q.1 q.2.1 q.2.2.1 q.2.2.2 from fun _ h => absurd h List.not_mem_nil) (x, q) (lkp_mem h)) sf_RX10_ok (by decide +kernel) 400 (fun As σ Q h => ?_)
  replace h := p1r_e h
  obtain ⟨z0, q0, rfl, h⟩ := h
  replace h := onB_e h
  obtain ⟨e0, h⟩ := h
  have e0 := Nat.eq_of_beq_eq_true e0
  subst e0
  replace h := p1i_e h
  obtain ⟨x1, q1, rfl, h⟩ := h
  replace h := p1i_e h
  obtain ⟨x2, q2, rfl, h⟩ := h
  replace h := p1i_e h
  obtain ⟨x3, q3, rfl, h⟩ := h
  replace h := onB_e h
  obtain ⟨e9, h⟩ := h
  have e9 := List.isEmpty_iff.mp e9
  subst e9
  refine ⟨Nat.le_of_ble_eq_true rfl, fun P hP => ?_⟩
  exact h (fun x4 x5 => P 6 [.ref 0, .int x1, .int x2, .int x3, .int x4, .int x5] σ) (fun x4 x5 hb => hP 6 [.ref 0, .int x1, .int x2, .int x3, .int x4, .int x5] σ hb)
def wp_X10_frames  (σ : Sg) (Q : Int32 → Prop) : Prop :=
  Q (gI σ 0 23)
def wl_X10_frames : WP := fun As σ Q => p1r As (fun z0 r0 => onB (Nat.beq z0 0) (onB r0.isEmpty (wp_X10_frames  σ (fun x => Q (some (.int x)) σ))))
def tb_X10_frames : List (Nat × Instr × Nat) := [(0, (.aload_n 0, 1)), (1, (.getfield 188, 3)), (4, (.ireturn, 1))]
def ce_X10_frames : List (Nat × (Nat × Option Nat × WP)) := []
set_option maxRecDepth 100000 in
set_option maxHeartbeats 4000000 in
theorem ct_X10_frames (l : Launch) : Con l wM yX10_frames cX10_frames 1 (some .int) 0 wl_X10_frames := by
  refine sxm_ok l (ft := lkp ft_RX10) (c32 := lkp c32_RX10) (c64 := lkp c64_RX10) (ce := lkp ce_X10_frames) (sf := lkp sf_RX10) (lab := lkp []) (T := tb_X10_frames) (by decide +kernel) ft_RX10_ok c32_RX10_ok c64_RX10_ok (fun x q h => (show ∀ q ∈ ce_X10_frames, ceOK l wM RX10 0 q.1 q.2.1 q.2.2.1 q.2.2.2 from fun _ h => absurd h List.not_mem_nil) (x, q) (lkp_mem h)) sf_RX10_ok (by decide +kernel) 400 (fun As σ Q h => ?_)
  replace h := p1r_e h
  obtain ⟨z0, q0, rfl, h⟩ := h
  replace h := onB_e h
  obtain ⟨e0, h⟩ := h
  have e0 := Nat.eq_of_beq_eq_true e0
  subst e0
  replace h := onB_e h
  obtain ⟨e9, h⟩ := h
  have e9 := List.isEmpty_iff.mp e9
  subst e9
  refine ⟨Nat.le_of_ble_eq_true rfl, fun P hP => ?_⟩
  exact h 
def wp_X10_isFrame (x0 : Int32) (σ : Sg) (Q : Int32 → Prop) : Prop :=
  ((x0 < (1 : Int32) → (nz (0 : Int32) ∧ Q (0 : Int32))) ∧ (¬ x0 < (1 : Int32) → (((24 : Int32) < x0 → (nz (0 : Int32) ∧ Q (0 : Int32))) ∧ (¬ (24 : Int32) < x0 → (nz (1 : Int32) ∧ Q (1 : Int32))))))
def wl_X10_isFrame : WP := fun As σ Q => p1i As (fun x0 r0 => onB r0.isEmpty (wp_X10_isFrame x0 σ (fun x => Q (some (.int x)) σ)))
def tb_X10_isFrame : List (Nat × Instr × Nat) := [(0, (.iload_n 0, 1)), (1, (.iconst 1, 1)), (2, (.if_icmp .lt 15, 3)), (5, (.iload_n 0, 1)), (6, (.bipush 24, 2)), (8, (.if_icmp .gt 15, 3)), (11, (.iconst 1, 1)), (12, (.goto 16, 3)), (15, (.iconst 0, 1)), (16, (.ireturn, 1))]
def ce_X10_isFrame : List (Nat × (Nat × Option Nat × WP)) := []
set_option maxRecDepth 100000 in
set_option maxHeartbeats 4000000 in
theorem ct_X10_isFrame (l : Launch) : Con l wM yX10_isFrame cX10_isFrame 1 (some .boolean) 0 wl_X10_isFrame := by
  refine sxm_ok l (ft := lkp ft_RX10) (c32 := lkp c32_RX10) (c64 := lkp c64_RX10) (ce := lkp ce_X10_isFrame) (sf := lkp sf_RX10) (lab := lkp []) (T := tb_X10_isFrame) (by decide +kernel) ft_RX10_ok c32_RX10_ok c64_RX10_ok (fun x q h => (show ∀ q ∈ ce_X10_isFrame, ceOK l wM RX10 0 q.1 q.2.1 q.2.2.1 q.2.2.2 from fun _ h => absurd h List.not_mem_nil) (x, q) (lkp_mem h)) sf_RX10_ok (by decide +kernel) 400 (fun As σ Q h => ?_)
  replace h := p1i_e h
  obtain ⟨x0, q0, rfl, h⟩ := h
  replace h := onB_e h
  obtain ⟨e9, h⟩ := h
  have e9 := List.isEmpty_iff.mp e9
  subst e9
  refine ⟨Nat.le_of_ble_eq_true rfl, fun P hP => ?_⟩
  exact h 
def wp_X10_clear  (σ : Sg) (Q : Int32 → Sg → Prop) : Prop :=
  Q (gI σ 0 39) (sI σ 0 39 (0 : Int32))
def wl_X10_clear : WP := fun As σ Q => p1r As (fun z0 r0 => onB (Nat.beq z0 0) (onB r0.isEmpty (wp_X10_clear  σ (fun x τ => Q (some (.int x)) τ))))
def tb_X10_clear : List (Nat × Instr × Nat) := [(0, (.aload_n 0, 1)), (1, (.getfield 151, 3)), (4, (.istore_n 1, 1)), (5, (.aload_n 0, 1)), (6, (.iconst 0, 1)), (7, (.putfield 151, 3)), (10, (.iload_n 1, 1)), (11, (.ireturn, 1))]
def ce_X10_clear : List (Nat × (Nat × Option Nat × WP)) := []
set_option maxRecDepth 100000 in
set_option maxHeartbeats 4000000 in
theorem ct_X10_clear (l : Launch) : Con l wM yX10_clear cX10_clear 2 (some .int) 0 wl_X10_clear := by
  refine sxm_ok l (ft := lkp ft_RX10) (c32 := lkp c32_RX10) (c64 := lkp c64_RX10) (ce := lkp ce_X10_clear) (sf := lkp sf_RX10) (lab := lkp []) (T := tb_X10_clear) (by decide +kernel) ft_RX10_ok c32_RX10_ok c64_RX10_ok (fun x q h => (show ∀ q ∈ ce_X10_clear, ceOK l wM RX10 0 q.1 q.2.1 q.2.2.1 q.2.2.2 from fun _ h => absurd h List.not_mem_nil) (x, q) (lkp_mem h)) sf_RX10_ok (by decide +kernel) 400 (fun As σ Q h => ?_)
  replace h := p1r_e h
  obtain ⟨z0, q0, rfl, h⟩ := h
  replace h := onB_e h
  obtain ⟨e0, h⟩ := h
  have e0 := Nat.eq_of_beq_eq_true e0
  subst e0
  replace h := onB_e h
  obtain ⟨e9, h⟩ := h
  have e9 := List.isEmpty_iff.mp e9
  subst e9
  refine ⟨Nat.le_of_ble_eq_true rfl, fun P hP => ?_⟩
  exact h 
def wp_X10_tear  (σ : Sg) (Q : Int32 → Sg → Prop) : Prop :=
  (((gI σ 0 46) < 0 → Q (0 : Int32) (sI σ 0 46 (-1 : Int32))) ∧ (¬ (gI σ 0 46) < 0 → Q (1 : Int32) (sI σ 0 46 (-1 : Int32))))
def wl_X10_tear : WP := fun As σ Q => p1r As (fun z0 r0 => onB (Nat.beq z0 0) (onB r0.isEmpty (wp_X10_tear  σ (fun x τ => Q (some (.int x)) τ))))
def tb_X10_tear : List (Nat × Instr × Nat) := [(0, (.aload_n 0, 1)), (1, (.getfield 103, 3)), (4, (.ifCond .lt 11, 3)), (7, (.iconst 1, 1)), (8, (.goto 12, 3)), (11, (.iconst 0, 1)), (12, (.istore_n 1, 1)), (13, (.aload_n 0, 1)), (14, (.iconst (-1), 1)), (15, (.putfield 103, 3)), (18, (.iload_n 1, 1)), (19, (.ireturn, 1))]
def ce_X10_tear : List (Nat × (Nat × Option Nat × WP)) := []
set_option maxRecDepth 100000 in
set_option maxHeartbeats 4000000 in
theorem ct_X10_tear (l : Launch) : Con l wM yX10_tear cX10_tear 2 (some .int) 0 wl_X10_tear := by
  refine sxm_ok l (ft := lkp ft_RX10) (c32 := lkp c32_RX10) (c64 := lkp c64_RX10) (ce := lkp ce_X10_tear) (sf := lkp sf_RX10) (lab := lkp []) (T := tb_X10_tear) (by decide +kernel) ft_RX10_ok c32_RX10_ok c64_RX10_ok (fun x q h => (show ∀ q ∈ ce_X10_tear, ceOK l wM RX10 0 q.1 q.2.1 q.2.2.1 q.2.2.2 from fun _ h => absurd h List.not_mem_nil) (x, q) (lkp_mem h)) sf_RX10_ok (by decide +kernel) 400 (fun As σ Q h => ?_)
  replace h := p1r_e h
  obtain ⟨z0, q0, rfl, h⟩ := h
  replace h := onB_e h
  obtain ⟨e0, h⟩ := h
  have e0 := Nat.eq_of_beq_eq_true e0
  subst e0
  replace h := onB_e h
  obtain ⟨e9, h⟩ := h
  have e9 := List.isEmpty_iff.mp e9
  subst e9
  refine ⟨Nat.le_of_ble_eq_true rfl, fun P hP => ?_⟩
  exact h 
def wp_X10_adds (x1 : Int32) (x2 : Int32) (x3 : Int32) (σ : Sg) (Q : Int32 → Sg → Prop) : Prop :=
  (vp_in (gI σ 0 5) 80 ∧ (vp_in (gI σ 0 5) 80 ∧ (vp_in (gI σ 0 5) 80 ∧ wp_X10_changes (sI (sI (sI (sI σ 0 5 ((gI σ 0 5) + (1 : Int32))) 1 ((gI σ 0 5)).toNatClampNeg x1) 2 ((gI σ 0 5)).toNatClampNeg x2) 3 ((gI σ 0 5)).toNatClampNeg x3) (fun s1 => Q (gI σ 0 5) s1))))
def wl_X10_adds : WP := fun As σ Q => p1r As (fun z0 r0 => onB (Nat.beq z0 0) (p1i r0 (fun x1 r1 => p1i r1 (fun x2 r2 => p1i r2 (fun x3 r3 => onB r3.isEmpty (wp_X10_adds x1 x2 x3 σ (fun x τ => Q (some (.int x)) τ)))))))
def tb_X10_adds : List (Nat × Instr × Nat) := [(0, (.aload_n 0, 1)), (1, (.getfield 112, 3)), (4, (.istore 4, 2)), (6, (.aload_n 0, 1)), (7, (.dup, 1)), (8, (.getfield 112, 3)), (11, (.iconst 1, 1)), (12, (.iadd, 1)), (13, (.putfield 112, 3)), (16, (.aload_n 0, 1)), (17, (.getfield 7, 3)), (20, (.iload 4, 2)), (22, (.iload_n 1, 1)), (23, (.iastore, 1)), (24, (.aload_n 0, 1)), (25, (.getfield 13, 3)), (28, (.iload 4, 2)), (30, (.iload_n 2, 1)), (31, (.iastore, 1)), (32, (.aload_n 0, 1)), (33, (.getfield 16, 3)), (36, (.iload 4, 2)), (38, (.iload_n 3, 1)), (39, (.iastore, 1)), (40, (.aload_n 0, 1)), (41, (.invokevirtual 115, 3)), (44, (.iload 4, 2)), (46, (.ireturn, 1))]
def ce_X10_adds : List (Nat × (Nat × Option Nat × WP)) := [(115, (1, some 10, wl_X10_changes))]
set_option maxRecDepth 100000 in
set_option maxHeartbeats 4000000 in
theorem ct_X10_adds (l : Launch) : Con l wM yX10_adds cX10_adds 5 (some .int) 1 wl_X10_adds := by
  refine sxm_ok l (ft := lkp ft_RX10) (c32 := lkp c32_RX10) (c64 := lkp c64_RX10) (ce := lkp ce_X10_adds) (sf := lkp sf_RX10) (lab := lkp []) (T := tb_X10_adds) (by decide +kernel) ft_RX10_ok c32_RX10_ok c64_RX10_ok (fun x q h => (show ∀ q ∈ ce_X10_adds, ceOK l wM RX10 1 q.1 q.2.1 q.2.2.1 q.2.2.2 from List.forall_mem_cons.mpr ⟨⟨yX10_changes, cX10_changes, 2, none, 0, ct_X10_changes l, by decide, by decide, mi_X10_changes.1, mi_X10_changes.2, ml_RX10_115, mv_X10_changes.1, mv_X10_changes.2, ⟨_, _, rfl⟩, by decide, by decide +kernel⟩, fun _ h => absurd h List.not_mem_nil⟩) (x, q) (lkp_mem h)) sf_RX10_ok (by decide +kernel) 400 (fun As σ Q h => ?_)
  replace h := p1r_e h
  obtain ⟨z0, q0, rfl, h⟩ := h
  replace h := onB_e h
  obtain ⟨e0, h⟩ := h
  have e0 := Nat.eq_of_beq_eq_true e0
  subst e0
  replace h := p1i_e h
  obtain ⟨x1, q1, rfl, h⟩ := h
  replace h := p1i_e h
  obtain ⟨x2, q2, rfl, h⟩ := h
  replace h := p1i_e h
  obtain ⟨x3, q3, rfl, h⟩ := h
  replace h := onB_e h
  obtain ⟨e9, h⟩ := h
  have e9 := List.isEmpty_iff.mp e9
  subst e9
  refine ⟨Nat.le_of_ble_eq_true rfl, fun P hP => ?_⟩
  exact h 
def wp_X10_next (x1 : Int32) (x2 : Int32) (σ : Sg) (Q : Int32 → Sg → Prop) : Prop :=
  wp_X10_isIn (x1).toInt64 (0 : Int64) (((gI σ 0 5) - (1 : Int32))).toInt64 σ (fun r1 => ((r1 = 0 → wp_X10_no (-3 : Int32) σ (fun r2 s3 => Q r2 s3)) ∧ (¬ r1 = 0 → wp_X10_isSign x2 σ (fun r4 => ((r4 = 0 → wp_X10_no (-3 : Int32) σ (fun r5 s6 => Q r5 s6)) ∧ (¬ r4 = 0 → (vp_in x1 80 ∧ (((gI σ 1 (x1).toNatClampNeg) = (1 : Int32) → (vp_in x1 80 ∧ (vp_in x1 80 ∧ wp_X10_changes (sI σ 2 (x1).toNatClampNeg x2) (fun s7 => Q (gI σ 2 (x1).toNatClampNeg) s7)))) ∧ (¬ (gI σ 1 (x1).toNatClampNeg) = (1 : Int32) → wp_X10_no (-5 : Int32) σ (fun r8 s9 => Q r8 s9))))))))))
def wl_X10_next : WP := fun As σ Q => p1r As (fun z0 r0 => onB (Nat.beq z0 0) (p1i r0 (fun x1 r1 => p1i r1 (fun x2 r2 => onB r2.isEmpty (wp_X10_next x1 x2 σ (fun x τ => Q (some (.int x)) τ))))))
def tb_X10_next : List (Nat × Instr × Nat) := [(0, (.iload_n 1, 1)), (1, (.i2l, 1)), (2, (.lconst 0, 1)), (3, (.aload_n 0, 1)), (4, (.getfield 112, 3)), (7, (.iconst 1, 1)), (8, (.isub, 1)), (9, (.i2l, 1)), (10, (.invokestatic 133, 3)), (13, (.ifCond .eq 24, 3)), (16, (.aload_n 0, 1)), (17, (.iload_n 2, 1)), (18, (.invokevirtual 129, 3)), (21, (.ifCond .ne 31, 3)), (24, (.aload_n 0, 1)), (25, (.bipush (-3), 2)), (27, (.invokevirtual 118, 3)), (30, (.ireturn, 1)), (31, (.aload_n 0, 1)), (32, (.getfield 7, 3)), (35, (.iload_n 1, 1)), (36, (.iaload, 1)), (37, (.iconst 1, 1)), (38, (.if_icmp .eq 48, 3)), (41, (.aload_n 0, 1)), (42, (.bipush (-5), 2)), (44, (.invokevirtual 118, 3)), (47, (.ireturn, 1)), (48, (.aload_n 0, 1)), (49, (.getfield 13, 3)), (52, (.iload_n 1, 1)), (53, (.iaload, 1)), (54, (.istore_n 3, 1)), (55, (.aload_n 0, 1)), (56, (.getfield 13, 3)), (59, (.iload_n 1, 1)), (60, (.iload_n 2, 1)), (61, (.iastore, 1)), (62, (.aload_n 0, 1)), (63, (.invokevirtual 115, 3)), (66, (.iload_n 3, 1)), (67, (.ireturn, 1))]
def ce_X10_next : List (Nat × (Nat × Option Nat × WP)) := [(133, (3, none, wl_X10_isIn)), (129, (2, some 10, wl_X10_isSign)), (118, (2, some 10, wl_X10_no)), (115, (1, some 10, wl_X10_changes))]
set_option maxRecDepth 100000 in
set_option maxHeartbeats 4000000 in
theorem ct_X10_next (l : Launch) : Con l wM yX10_next cX10_next 4 (some .int) 1 wl_X10_next := by
  refine sxm_ok l (ft := lkp ft_RX10) (c32 := lkp c32_RX10) (c64 := lkp c64_RX10) (ce := lkp ce_X10_next) (sf := lkp sf_RX10) (lab := lkp []) (T := tb_X10_next) (by decide +kernel) ft_RX10_ok c32_RX10_ok c64_RX10_ok (fun x q h => (show ∀ q ∈ ce_X10_next, ceOK l wM RX10 1 q.1 q.2.1 q.2.2.1 q.2.2.2 from List.forall_mem_cons.mpr ⟨⟨yX10_isIn, cX10_isIn, 6, (some .boolean), 0, ct_X10_isIn l, by decide, by decide, mi_X10_isIn.1, mi_X10_isIn.2, Or.inl ml_RX10_133, ms_X10_isIn, by decide +kernel⟩, List.forall_mem_cons.mpr ⟨⟨yX10_isSign, cX10_isSign, 2, (some .boolean), 0, ct_X10_isSign l, by decide, by decide, mi_X10_isSign.1, mi_X10_isSign.2, ml_RX10_129, mv_X10_isSign.1, mv_X10_isSign.2, ⟨_, _, rfl⟩, by decide, by decide +kernel⟩, List.forall_mem_cons.mpr ⟨⟨yX10_no, cX10_no, 2, (some .int), 0, ct_X10_no l, by decide, by decide, mi_X10_no.1, mi_X10_no.2, ml_RX10_118, mv_X10_no.1, mv_X10_no.2, ⟨_, _, rfl⟩, by decide, by decide +kernel⟩, List.forall_mem_cons.mpr ⟨⟨yX10_changes, cX10_changes, 2, none, 0, ct_X10_changes l, by decide, by decide, mi_X10_changes.1, mi_X10_changes.2, ml_RX10_115, mv_X10_changes.1, mv_X10_changes.2, ⟨_, _, rfl⟩, by decide, by decide +kernel⟩, fun _ h => absurd h List.not_mem_nil⟩⟩⟩⟩) (x, q) (lkp_mem h)) sf_RX10_ok (by decide +kernel) 400 (fun As σ Q h => ?_)
  replace h := p1r_e h
  obtain ⟨z0, q0, rfl, h⟩ := h
  replace h := onB_e h
  obtain ⟨e0, h⟩ := h
  have e0 := Nat.eq_of_beq_eq_true e0
  subst e0
  replace h := p1i_e h
  obtain ⟨x1, q1, rfl, h⟩ := h
  replace h := p1i_e h
  obtain ⟨x2, q2, rfl, h⟩ := h
  replace h := onB_e h
  obtain ⟨e9, h⟩ := h
  have e9 := List.isEmpty_iff.mp e9
  subst e9
  refine ⟨Nat.le_of_ble_eq_true rfl, fun P hP => ?_⟩
  exact h 
def wp_X10_bad (x1 : Int32) (σ : Sg) (Q : Int32 → Sg → Prop) : Prop :=
  ((x1 = (-1 : Int32) → wp_X10_changes (sI σ 0 9 x1) (fun s1 => Q (gI σ 0 9) s1)) ∧ (¬ x1 = (-1 : Int32) → wp_X10_isSign x1 σ (fun r2 => ((r2 = 0 → wp_X10_no (-3 : Int32) σ (fun r3 s4 => Q r3 s4)) ∧ (¬ r2 = 0 → wp_X10_changes (sI σ 0 9 x1) (fun s5 => Q (gI σ 0 9) s5))))))
def wl_X10_bad : WP := fun As σ Q => p1r As (fun z0 r0 => onB (Nat.beq z0 0) (p1i r0 (fun x1 r1 => onB r1.isEmpty (wp_X10_bad x1 σ (fun x τ => Q (some (.int x)) τ)))))
def tb_X10_bad : List (Nat × Instr × Nat) := [(0, (.iload_n 1, 1)), (1, (.iconst (-1), 1)), (2, (.if_icmp .eq 20, 3)), (5, (.aload_n 0, 1)), (6, (.iload_n 1, 1)), (7, (.invokevirtual 129, 3)), (10, (.ifCond .ne 20, 3)), (13, (.aload_n 0, 1)), (14, (.bipush (-3), 2)), (16, (.invokevirtual 118, 3)), (19, (.ireturn, 1)), (20, (.aload_n 0, 1)), (21, (.getfield 26, 3)), (24, (.istore_n 2, 1)), (25, (.aload_n 0, 1)), (26, (.iload_n 1, 1)), (27, (.putfield 26, 3)), (30, (.aload_n 0, 1)), (31, (.invokevirtual 115, 3)), (34, (.iload_n 2, 1)), (35, (.ireturn, 1))]
def ce_X10_bad : List (Nat × (Nat × Option Nat × WP)) := [(129, (2, some 10, wl_X10_isSign)), (118, (2, some 10, wl_X10_no)), (115, (1, some 10, wl_X10_changes))]
set_option maxRecDepth 100000 in
set_option maxHeartbeats 4000000 in
theorem ct_X10_bad (l : Launch) : Con l wM yX10_bad cX10_bad 3 (some .int) 1 wl_X10_bad := by
  refine sxm_ok l (ft := lkp ft_RX10) (c32 := lkp c32_RX10) (c64 := lkp c64_RX10) (ce := lkp ce_X10_bad) (sf := lkp sf_RX10) (lab := lkp []) (T := tb_X10_bad) (by decide +kernel) ft_RX10_ok c32_RX10_ok c64_RX10_ok (fun x q h => (show ∀ q ∈ ce_X10_bad, ceOK l wM RX10 1 q.1 q.2.1 q.2.2.1 q.2.2.2 from List.forall_mem_cons.mpr ⟨⟨yX10_isSign, cX10_isSign, 2, (some .boolean), 0, ct_X10_isSign l, by decide, by decide, mi_X10_isSign.1, mi_X10_isSign.2, ml_RX10_129, mv_X10_isSign.1, mv_X10_isSign.2, ⟨_, _, rfl⟩, by decide, by decide +kernel⟩, List.forall_mem_cons.mpr ⟨⟨yX10_no, cX10_no, 2, (some .int), 0, ct_X10_no l, by decide, by decide, mi_X10_no.1, mi_X10_no.2, ml_RX10_118, mv_X10_no.1, mv_X10_no.2, ⟨_, _, rfl⟩, by decide, by decide +kernel⟩, List.forall_mem_cons.mpr ⟨⟨yX10_changes, cX10_changes, 2, none, 0, ct_X10_changes l, by decide, by decide, mi_X10_changes.1, mi_X10_changes.2, ml_RX10_115, mv_X10_changes.1, mv_X10_changes.2, ⟨_, _, rfl⟩, by decide, by decide +kernel⟩, fun _ h => absurd h List.not_mem_nil⟩⟩⟩) (x, q) (lkp_mem h)) sf_RX10_ok (by decide +kernel) 400 (fun As σ Q h => ?_)
  replace h := p1r_e h
  obtain ⟨z0, q0, rfl, h⟩ := h
  replace h := onB_e h
  obtain ⟨e0, h⟩ := h
  have e0 := Nat.eq_of_beq_eq_true e0
  subst e0
  replace h := p1i_e h
  obtain ⟨x1, q1, rfl, h⟩ := h
  replace h := onB_e h
  obtain ⟨e9, h⟩ := h
  have e9 := List.isEmpty_iff.mp e9
  subst e9
  refine ⟨Nat.le_of_ble_eq_true rfl, fun P hP => ?_⟩
  exact h 
def wp_X10_assume (x1 : Int32) (σ : Sg) (Q : Int32 → Sg → Prop) : Prop :=
  wp_X10_isSign x1 σ (fun r1 => ((r1 = 0 → wp_X10_no (-3 : Int32) σ (fun r2 s3 => Q r2 s3)) ∧ (¬ r1 = 0 → (((gI σ 0 10) = (4 : Int32) → wp_X10_no (-8 : Int32) σ (fun r4 s5 => Q r4 s5)) ∧ (¬ (gI σ 0 10) = (4 : Int32) → (vp_in (gI σ 0 10) 4 ∧ wp_X10_changes (sI (sI σ 6 ((gI σ 0 10)).toNatClampNeg x1) 0 10 ((gI (sI σ 6 ((gI σ 0 10)).toNatClampNeg x1) 0 10) + (1 : Int32))) (fun s6 => Q (gI s6 0 10) s6)))))))
def wl_X10_assume : WP := fun As σ Q => p1r As (fun z0 r0 => onB (Nat.beq z0 0) (p1i r0 (fun x1 r1 => onB r1.isEmpty (wp_X10_assume x1 σ (fun x τ => Q (some (.int x)) τ)))))
def tb_X10_assume : List (Nat × Instr × Nat) := [(0, (.aload_n 0, 1)), (1, (.iload_n 1, 1)), (2, (.invokevirtual 129, 3)), (5, (.ifCond .ne 15, 3)), (8, (.aload_n 0, 1)), (9, (.bipush (-3), 2)), (11, (.invokevirtual 118, 3)), (14, (.ireturn, 1)), (15, (.aload_n 0, 1)), (16, (.getfield 137, 3)), (19, (.iconst 4, 1)), (20, (.if_icmp .ne 30, 3)), (23, (.aload_n 0, 1)), (24, (.bipush (-8), 2)), (26, (.invokevirtual 118, 3)), (29, (.ireturn, 1)), (30, (.aload_n 0, 1)), (31, (.getfield 30, 3)), (34, (.aload_n 0, 1)), (35, (.getfield 137, 3)), (38, (.iload_n 1, 1)), (39, (.iastore, 1)), (40, (.aload_n 0, 1)), (41, (.dup, 1)), (42, (.getfield 137, 3)), (45, (.iconst 1, 1)), (46, (.iadd, 1)), (47, (.putfield 137, 3)), (50, (.aload_n 0, 1)), (51, (.invokevirtual 115, 3)), (54, (.aload_n 0, 1)), (55, (.getfield 137, 3)), (58, (.ireturn, 1))]
def ce_X10_assume : List (Nat × (Nat × Option Nat × WP)) := [(129, (2, some 10, wl_X10_isSign)), (118, (2, some 10, wl_X10_no)), (115, (1, some 10, wl_X10_changes))]
set_option maxRecDepth 100000 in
set_option maxHeartbeats 4000000 in
theorem ct_X10_assume (l : Launch) : Con l wM yX10_assume cX10_assume 2 (some .int) 1 wl_X10_assume := by
  refine sxm_ok l (ft := lkp ft_RX10) (c32 := lkp c32_RX10) (c64 := lkp c64_RX10) (ce := lkp ce_X10_assume) (sf := lkp sf_RX10) (lab := lkp []) (T := tb_X10_assume) (by decide +kernel) ft_RX10_ok c32_RX10_ok c64_RX10_ok (fun x q h => (show ∀ q ∈ ce_X10_assume, ceOK l wM RX10 1 q.1 q.2.1 q.2.2.1 q.2.2.2 from List.forall_mem_cons.mpr ⟨⟨yX10_isSign, cX10_isSign, 2, (some .boolean), 0, ct_X10_isSign l, by decide, by decide, mi_X10_isSign.1, mi_X10_isSign.2, ml_RX10_129, mv_X10_isSign.1, mv_X10_isSign.2, ⟨_, _, rfl⟩, by decide, by decide +kernel⟩, List.forall_mem_cons.mpr ⟨⟨yX10_no, cX10_no, 2, (some .int), 0, ct_X10_no l, by decide, by decide, mi_X10_no.1, mi_X10_no.2, ml_RX10_118, mv_X10_no.1, mv_X10_no.2, ⟨_, _, rfl⟩, by decide, by decide +kernel⟩, List.forall_mem_cons.mpr ⟨⟨yX10_changes, cX10_changes, 2, none, 0, ct_X10_changes l, by decide, by decide, mi_X10_changes.1, mi_X10_changes.2, ml_RX10_115, mv_X10_changes.1, mv_X10_changes.2, ⟨_, _, rfl⟩, by decide, by decide +kernel⟩, fun _ h => absurd h List.not_mem_nil⟩⟩⟩) (x, q) (lkp_mem h)) sf_RX10_ok (by decide +kernel) 400 (fun As σ Q h => ?_)
  replace h := p1r_e h
  obtain ⟨z0, q0, rfl, h⟩ := h
  replace h := onB_e h
  obtain ⟨e0, h⟩ := h
  have e0 := Nat.eq_of_beq_eq_true e0
  subst e0
  replace h := p1i_e h
  obtain ⟨x1, q1, rfl, h⟩ := h
  replace h := onB_e h
  obtain ⟨e9, h⟩ := h
  have e9 := List.isEmpty_iff.mp e9
  subst e9
  refine ⟨Nat.le_of_ble_eq_true rfl, fun P hP => ?_⟩
  exact h 
def wp_X10_fair (x1 : Int32) (σ : Sg) (Q : Int32 → Sg → Prop) : Prop :=
  wp_X10_isSign x1 σ (fun r1 => ((r1 = 0 → wp_X10_no (-3 : Int32) σ (fun r2 s3 => Q r2 s3)) ∧ (¬ r1 = 0 → (((gI σ 0 11) = (3 : Int32) → wp_X10_no (-8 : Int32) σ (fun r4 s5 => Q r4 s5)) ∧ (¬ (gI σ 0 11) = (3 : Int32) → (vp_in (gI σ 0 11) 3 ∧ wp_X10_changes (sI (sI σ 7 ((gI σ 0 11)).toNatClampNeg x1) 0 11 ((gI (sI σ 7 ((gI σ 0 11)).toNatClampNeg x1) 0 11) + (1 : Int32))) (fun s6 => Q (gI s6 0 11) s6)))))))
def wl_X10_fair : WP := fun As σ Q => p1r As (fun z0 r0 => onB (Nat.beq z0 0) (p1i r0 (fun x1 r1 => onB r1.isEmpty (wp_X10_fair x1 σ (fun x τ => Q (some (.int x)) τ)))))
def tb_X10_fair : List (Nat × Instr × Nat) := [(0, (.aload_n 0, 1)), (1, (.iload_n 1, 1)), (2, (.invokevirtual 129, 3)), (5, (.ifCond .ne 15, 3)), (8, (.aload_n 0, 1)), (9, (.bipush (-3), 2)), (11, (.invokevirtual 118, 3)), (14, (.ireturn, 1)), (15, (.aload_n 0, 1)), (16, (.getfield 140, 3)), (19, (.iconst 3, 1)), (20, (.if_icmp .ne 30, 3)), (23, (.aload_n 0, 1)), (24, (.bipush (-8), 2)), (26, (.invokevirtual 118, 3)), (29, (.ireturn, 1)), (30, (.aload_n 0, 1)), (31, (.getfield 33, 3)), (34, (.aload_n 0, 1)), (35, (.getfield 140, 3)), (38, (.iload_n 1, 1)), (39, (.iastore, 1)), (40, (.aload_n 0, 1)), (41, (.dup, 1)), (42, (.getfield 140, 3)), (45, (.iconst 1, 1)), (46, (.iadd, 1)), (47, (.putfield 140, 3)), (50, (.aload_n 0, 1)), (51, (.invokevirtual 115, 3)), (54, (.aload_n 0, 1)), (55, (.getfield 140, 3)), (58, (.ireturn, 1))]
def ce_X10_fair : List (Nat × (Nat × Option Nat × WP)) := [(129, (2, some 10, wl_X10_isSign)), (118, (2, some 10, wl_X10_no)), (115, (1, some 10, wl_X10_changes))]
set_option maxRecDepth 100000 in
set_option maxHeartbeats 4000000 in
theorem ct_X10_fair (l : Launch) : Con l wM yX10_fair cX10_fair 2 (some .int) 1 wl_X10_fair := by
  refine sxm_ok l (ft := lkp ft_RX10) (c32 := lkp c32_RX10) (c64 := lkp c64_RX10) (ce := lkp ce_X10_fair) (sf := lkp sf_RX10) (lab := lkp []) (T := tb_X10_fair) (by decide +kernel) ft_RX10_ok c32_RX10_ok c64_RX10_ok (fun x q h => (show ∀ q ∈ ce_X10_fair, ceOK l wM RX10 1 q.1 q.2.1 q.2.2.1 q.2.2.2 from List.forall_mem_cons.mpr ⟨⟨yX10_isSign, cX10_isSign, 2, (some .boolean), 0, ct_X10_isSign l, by decide, by decide, mi_X10_isSign.1, mi_X10_isSign.2, ml_RX10_129, mv_X10_isSign.1, mv_X10_isSign.2, ⟨_, _, rfl⟩, by decide, by decide +kernel⟩, List.forall_mem_cons.mpr ⟨⟨yX10_no, cX10_no, 2, (some .int), 0, ct_X10_no l, by decide, by decide, mi_X10_no.1, mi_X10_no.2, ml_RX10_118, mv_X10_no.1, mv_X10_no.2, ⟨_, _, rfl⟩, by decide, by decide +kernel⟩, List.forall_mem_cons.mpr ⟨⟨yX10_changes, cX10_changes, 2, none, 0, ct_X10_changes l, by decide, by decide, mi_X10_changes.1, mi_X10_changes.2, ml_RX10_115, mv_X10_changes.1, mv_X10_changes.2, ⟨_, _, rfl⟩, by decide, by decide +kernel⟩, fun _ h => absurd h List.not_mem_nil⟩⟩⟩) (x, q) (lkp_mem h)) sf_RX10_ok (by decide +kernel) 400 (fun As σ Q h => ?_)
  replace h := p1r_e h
  obtain ⟨z0, q0, rfl, h⟩ := h
  replace h := onB_e h
  obtain ⟨e0, h⟩ := h
  have e0 := Nat.eq_of_beq_eq_true e0
  subst e0
  replace h := p1i_e h
  obtain ⟨x1, q1, rfl, h⟩ := h
  replace h := onB_e h
  obtain ⟨e9, h⟩ := h
  have e9 := List.isEmpty_iff.mp e9
  subst e9
  refine ⟨Nat.le_of_ble_eq_true rfl, fun P hP => ?_⟩
  exact h 
def wp_X10_part (x1 : Int32) (x2 : Int32) (σ : Sg) (Q : Int32 → Sg → Prop) : Prop :=
  wp_X10_isIn (x1).toInt64 (0 : Int64) (((gI σ 0 5) - (1 : Int32))).toInt64 σ (fun r1 => ((r1 = 0 → wp_X10_no (-3 : Int32) σ (fun r2 s3 => Q r2 s3)) ∧ (¬ r1 = 0 → wp_X10_isIn (x2).toInt64 (0 : Int64) (2 : Int64) σ (fun r4 => ((r4 = 0 → wp_X10_no (-7 : Int32) σ (fun r5 s6 => Q r5 s6)) ∧ (¬ r4 = 0 → ((x2 = 0 → (vp_in x1 80 ∧ Q (gI σ 1 (x1).toNatClampNeg) σ)) ∧ (¬ x2 = 0 → ((x2 = (1 : Int32) → (vp_in x1 80 ∧ Q (gI σ 2 (x1).toNatClampNeg) σ)) ∧ (¬ x2 = (1 : Int32) → (vp_in x1 80 ∧ Q (gI σ 3 (x1).toNatClampNeg) σ)))))))))))
def wl_X10_part : WP := fun As σ Q => p1r As (fun z0 r0 => onB (Nat.beq z0 0) (p1i r0 (fun x1 r1 => p1i r1 (fun x2 r2 => onB r2.isEmpty (wp_X10_part x1 x2 σ (fun x τ => Q (some (.int x)) τ))))))
def tb_X10_part : List (Nat × Instr × Nat) := [(0, (.iload_n 1, 1)), (1, (.i2l, 1)), (2, (.lconst 0, 1)), (3, (.aload_n 0, 1)), (4, (.getfield 112, 3)), (7, (.iconst 1, 1)), (8, (.isub, 1)), (9, (.i2l, 1)), (10, (.invokestatic 133, 3)), (13, (.ifCond .ne 23, 3)), (16, (.aload_n 0, 1)), (17, (.bipush (-3), 2)), (19, (.invokevirtual 118, 3)), (22, (.ireturn, 1)), (23, (.iload_n 2, 1)), (24, (.i2l, 1)), (25, (.lconst 0, 1)), (26, (.ldc2_w 143, 3)), (29, (.invokestatic 133, 3)), (32, (.ifCond .ne 42, 3)), (35, (.aload_n 0, 1)), (36, (.bipush (-7), 2)), (38, (.invokevirtual 118, 3)), (41, (.ireturn, 1)), (42, (.iload_n 2, 1)), (43, (.ifCond .ne 55, 3)), (46, (.aload_n 0, 1)), (47, (.getfield 7, 3)), (50, (.iload_n 1, 1)), (51, (.iaload, 1)), (52, (.goto 75, 3)), (55, (.iload_n 2, 1)), (56, (.iconst 1, 1)), (57, (.if_icmp .ne 69, 3)), (60, (.aload_n 0, 1)), (61, (.getfield 13, 3)), (64, (.iload_n 1, 1)), (65, (.iaload, 1)), (66, (.goto 75, 3)), (69, (.aload_n 0, 1)), (70, (.getfield 16, 3)), (73, (.iload_n 1, 1)), (74, (.iaload, 1)), (75, (.ireturn, 1))]
def ce_X10_part : List (Nat × (Nat × Option Nat × WP)) := [(133, (3, none, wl_X10_isIn)), (118, (2, some 10, wl_X10_no))]
set_option maxRecDepth 100000 in
set_option maxHeartbeats 4000000 in
theorem ct_X10_part (l : Launch) : Con l wM yX10_part cX10_part 3 (some .int) 1 wl_X10_part := by
  refine sxm_ok l (ft := lkp ft_RX10) (c32 := lkp c32_RX10) (c64 := lkp c64_RX10) (ce := lkp ce_X10_part) (sf := lkp sf_RX10) (lab := lkp []) (T := tb_X10_part) (by decide +kernel) ft_RX10_ok c32_RX10_ok c64_RX10_ok (fun x q h => (show ∀ q ∈ ce_X10_part, ceOK l wM RX10 1 q.1 q.2.1 q.2.2.1 q.2.2.2 from List.forall_mem_cons.mpr ⟨⟨yX10_isIn, cX10_isIn, 6, (some .boolean), 0, ct_X10_isIn l, by decide, by decide, mi_X10_isIn.1, mi_X10_isIn.2, Or.inl ml_RX10_133, ms_X10_isIn, by decide +kernel⟩, List.forall_mem_cons.mpr ⟨⟨yX10_no, cX10_no, 2, (some .int), 0, ct_X10_no l, by decide, by decide, mi_X10_no.1, mi_X10_no.2, ml_RX10_118, mv_X10_no.1, mv_X10_no.2, ⟨_, _, rfl⟩, by decide, by decide +kernel⟩, fun _ h => absurd h List.not_mem_nil⟩⟩) (x, q) (lkp_mem h)) sf_RX10_ok (by decide +kernel) 400 (fun As σ Q h => ?_)
  replace h := p1r_e h
  obtain ⟨z0, q0, rfl, h⟩ := h
  replace h := onB_e h
  obtain ⟨e0, h⟩ := h
  have e0 := Nat.eq_of_beq_eq_true e0
  subst e0
  replace h := p1i_e h
  obtain ⟨x1, q1, rfl, h⟩ := h
  replace h := p1i_e h
  obtain ⟨x2, q2, rfl, h⟩ := h
  replace h := onB_e h
  obtain ⟨e9, h⟩ := h
  have e9 := List.isEmpty_iff.mp e9
  subst e9
  refine ⟨Nat.le_of_ble_eq_true rfl, fun P hP => ?_⟩
  exact h 
def wp_X10_count (x1 : Int32) (σ : Sg) (Q : Int32 → Sg → Prop) : Prop :=
  ((x1 = (0 : Int32) → Q (gI σ 0 5) σ) ∧ (¬ x1 = (0 : Int32) → ((x1 = (1 : Int32) → Q (gI σ 0 6) σ) ∧ (¬ x1 = (1 : Int32) → ((x1 = (2 : Int32) → Q (gI σ 0 7) σ) ∧ (¬ x1 = (2 : Int32) → ((x1 = (3 : Int32) → wp_X10_sorted (0 : Int32) σ (fun r3 => Q r3 σ)) ∧ (¬ x1 = (3 : Int32) → ((x1 = (4 : Int32) → Q (gI σ 0 10) σ) ∧ (¬ x1 = (4 : Int32) → ((x1 = (5 : Int32) → Q (gI σ 0 11) σ) ∧ (¬ x1 = (5 : Int32) → ((x1 = (6 : Int32) → Q (gI σ 0 25) σ) ∧ (¬ x1 = (6 : Int32) → ((x1 = (7 : Int32) → Q (gI σ 0 39) σ) ∧ (¬ x1 = (7 : Int32) → wp_X10_no (-7 : Int32) σ (fun r1 s2 => Q r1 s2)))))))))))))))))
def wl_X10_count : WP := fun As σ Q => p1r As (fun z0 r0 => onB (Nat.beq z0 0) (p1i r0 (fun x1 r1 => onB r1.isEmpty (wp_X10_count x1 σ (fun x τ => Q (some (.int x)) τ)))))
def tb_X10_count : List (Nat × Instr × Nat) := [(0, (.iload_n 1, 1)), (1, (.tableswitch 88 0 7 #[47, 52, 57, 62, 68, 73, 78, 83], 47)), (48, (.aload_n 0, 1)), (49, (.getfield 112, 3)), (52, (.ireturn, 1)), (53, (.aload_n 0, 1)), (54, (.getfield 106, 3)), (57, (.ireturn, 1)), (58, (.aload_n 0, 1)), (59, (.getfield 109, 3)), (62, (.ireturn, 1)), (63, (.aload_n 0, 1)), (64, (.iconst 0, 1)), (65, (.invokevirtual 145, 3)), (68, (.ireturn, 1)), (69, (.aload_n 0, 1)), (70, (.getfield 137, 3)), (73, (.ireturn, 1)), (74, (.aload_n 0, 1)), (75, (.getfield 140, 3)), (78, (.ireturn, 1)), (79, (.aload_n 0, 1)), (80, (.getfield 148, 3)), (83, (.ireturn, 1)), (84, (.aload_n 0, 1)), (85, (.getfield 151, 3)), (88, (.ireturn, 1)), (89, (.aload_n 0, 1)), (90, (.bipush (-7), 2)), (92, (.invokevirtual 118, 3)), (95, (.ireturn, 1))]
def ce_X10_count : List (Nat × (Nat × Option Nat × WP)) := [(145, (2, some 10, wl_X10_sorted)), (118, (2, some 10, wl_X10_no))]
set_option maxRecDepth 100000 in
set_option maxHeartbeats 4000000 in
theorem ct_X10_count (l : Launch) : Con l wM yX10_count cX10_count 2 (some .int) 1 wl_X10_count := by
  refine sxm_ok l (ft := lkp ft_RX10) (c32 := lkp c32_RX10) (c64 := lkp c64_RX10) (ce := lkp ce_X10_count) (sf := lkp sf_RX10) (lab := lkp []) (T := tb_X10_count) (by decide +kernel) ft_RX10_ok c32_RX10_ok c64_RX10_ok (fun x q h => (show ∀ q ∈ ce_X10_count, ceOK l wM RX10 1 q.1 q.2.1 q.2.2.1 q.2.2.2 from List.forall_mem_cons.mpr ⟨⟨yX10_sorted, cX10_sorted, 4, (some .int), 0, ct_X10_sorted l, by decide, by decide, mi_X10_sorted.1, mi_X10_sorted.2, ml_RX10_145, mv_X10_sorted.1, mv_X10_sorted.2, ⟨_, _, rfl⟩, by decide, by decide +kernel⟩, List.forall_mem_cons.mpr ⟨⟨yX10_no, cX10_no, 2, (some .int), 0, ct_X10_no l, by decide, by decide, mi_X10_no.1, mi_X10_no.2, ml_RX10_118, mv_X10_no.1, mv_X10_no.2, ⟨_, _, rfl⟩, by decide, by decide +kernel⟩, fun _ h => absurd h List.not_mem_nil⟩⟩) (x, q) (lkp_mem h)) sf_RX10_ok (by decide +kernel) 400 (fun As σ Q h => ?_)
  replace h := p1r_e h
  obtain ⟨z0, q0, rfl, h⟩ := h
  replace h := onB_e h
  obtain ⟨e0, h⟩ := h
  have e0 := Nat.eq_of_beq_eq_true e0
  subst e0
  replace h := p1i_e h
  obtain ⟨x1, q1, rfl, h⟩ := h
  replace h := onB_e h
  obtain ⟨e9, h⟩ := h
  have e9 := List.isEmpty_iff.mp e9
  subst e9
  refine ⟨Nat.le_of_ble_eq_true rfl, fun P hP => ?_⟩
  exact h 
def wp_X10_show (x1 : Int32) (x2 : Int32) (σ : Sg) (Q : Sg → Prop) : Prop :=
  ∀ L2 : Int32 → Sg → Prop,
  (∀ (x3 : Int32) (τ : Sg), ((x3 < (gI τ 0 5) → (vp_in x3 80 ∧ (((gI τ 1 (x3).toNatClampNeg) = (3 : Int32) → (vp_in x3 80 ∧ ((((x2 >>> ((gI τ 4 (x3).toNatClampNeg) &&& 31)) &&& (1 : Int32)) = (1 : Int32) → (vp_in x3 80 ∧ L2 (x3 + (1 : Int32)) (sI τ 5 (x3).toNatClampNeg (vp_nar .boolean (1 : Int32))))) ∧ (¬ ((x2 >>> ((gI τ 4 (x3).toNatClampNeg) &&& 31)) &&& (1 : Int32)) = (1 : Int32) → (vp_in x3 80 ∧ L2 (x3 + (1 : Int32)) (sI τ 5 (x3).toNatClampNeg (vp_nar .boolean (0 : Int32)))))))) ∧ (¬ (gI τ 1 (x3).toNatClampNeg) = (3 : Int32) → (vp_in x3 80 ∧ (((gI τ 1 (x3).toNatClampNeg) = 0 → (vp_in x3 80 ∧ wp_X10_is (gI τ 2 (x3).toNatClampNeg) τ (fun r1 => ((r1 = 0 → (vp_in x3 80 ∧ L2 (x3 + (1 : Int32)) (sI τ 5 (x3).toNatClampNeg (vp_nar .boolean (0 : Int32))))) ∧ (¬ r1 = 0 → (vp_in x3 80 ∧ wp_X10_is (gI τ 3 (x3).toNatClampNeg) τ (fun r2 => ((r2 = 0 → (vp_in x3 80 ∧ L2 (x3 + (1 : Int32)) (sI τ 5 (x3).toNatClampNeg (vp_nar .boolean (0 : Int32))))) ∧ (¬ r2 = 0 → (vp_in x3 80 ∧ L2 (x3 + (1 : Int32)) (sI τ 5 (x3).toNatClampNeg (vp_nar .boolean (1 : Int32))))))))))))) ∧ (¬ (gI τ 1 (x3).toNatClampNeg) = 0 → (vp_in x3 80 ∧ ((((x1 >>> ((gI τ 4 (x3).toNatClampNeg) &&& 31)) &&& (1 : Int32)) = (1 : Int32) → (vp_in x3 80 ∧ L2 (x3 + (1 : Int32)) (sI τ 5 (x3).toNatClampNeg (vp_nar .boolean (1 : Int32))))) ∧ (¬ ((x1 >>> ((gI τ 4 (x3).toNatClampNeg) &&& 31)) &&& (1 : Int32)) = (1 : Int32) → (vp_in x3 80 ∧ L2 (x3 + (1 : Int32)) (sI τ 5 (x3).toNatClampNeg (vp_nar .boolean (0 : Int32)))))))))))))) ∧ (¬ x3 < (gI τ 0 5) → Q τ)) → L2 x3 τ) →
  L2 (0 : Int32) σ
def wl_X10_show : WP := fun As σ Q => p1r As (fun z0 r0 => onB (Nat.beq z0 0) (p1i r0 (fun x1 r1 => p1i r1 (fun x2 r2 => onB r2.isEmpty (wp_X10_show x1 x2 σ (fun τ => Q none τ))))))
def tb_X10_show : List (Nat × Instr × Nat) := [(0, (.iconst 0, 1)), (1, (.istore_n 3, 1)), (2, (.iload_n 3, 1)), (3, (.aload_n 0, 1)), (4, (.getfield 112, 3)), (7, (.if_icmp .ge 128, 3)), (10, (.aload_n 0, 1)), (11, (.getfield 7, 3)), (14, (.iload_n 3, 1)), (15, (.iaload, 1)), (16, (.iconst 3, 1)), (17, (.if_icmp .ne 48, 3)), (20, (.aload_n 0, 1)), (21, (.getfield 22, 3)), (24, (.iload_n 3, 1)), (25, (.iload_n 2, 1)), (26, (.aload_n 0, 1)), (27, (.getfield 19, 3)), (30, (.iload_n 3, 1)), (31, (.iaload, 1)), (32, (.ishr, 1)), (33, (.iconst 1, 1)), (34, (.iand, 1)), (35, (.iconst 1, 1)), (36, (.if_icmp .ne 43, 3)), (39, (.iconst 1, 1)), (40, (.goto 44, 3)), (43, (.iconst 0, 1)), (44, (.bastore, 1)), (45, (.goto 122, 3)), (48, (.aload_n 0, 1)), (49, (.getfield 7, 3)), (52, (.iload_n 3, 1)), (53, (.iaload, 1)), (54, (.ifCond .ne 97, 3)), (57, (.aload_n 0, 1)), (58, (.getfield 22, 3)), (61, (.iload_n 3, 1)), (62, (.aload_n 0, 1)), (63, (.aload_n 0, 1)), (64, (.getfield 13, 3)), (67, (.iload_n 3, 1)), (68, (.iaload, 1)), (69, (.invokevirtual 154, 3)), (72, (.ifCond .eq 92, 3)), (75, (.aload_n 0, 1)), (76, (.aload_n 0, 1)), (77, (.getfield 16, 3)), (80, (.iload_n 3, 1)), (81, (.iaload, 1)), (82, (.invokevirtual 154, 3)), (85, (.ifCond .eq 92, 3)), (88, (.iconst 1, 1)), (89, (.goto 93, 3)), (92, (.iconst 0, 1)), (93, (.bastore, 1)), (94, (.goto 122, 3)), (97, (.aload_n 0, 1)), (98, (.getfield 22, 3)), (101, (.iload_n 3, 1)), (102, (.iload_n 1, 1)), (103, (.aload_n 0, 1)), (104, (.getfield 19, 3)), (107, (.iload_n 3, 1)), (108, (.iaload, 1)), (109, (.ishr, 1)), (110, (.iconst 1, 1)), (111, (.iand, 1)), (112, (.iconst 1, 1)), (113, (.if_icmp .ne 120, 3)), (116, (.iconst 1, 1)), (117, (.goto 121, 3)), (120, (.iconst 0, 1)), (121, (.bastore, 1)), (122, (.iinc 3 1, 3)), (125, (.goto 2, 3)), (128, (.return_, 1))]
def ce_X10_show : List (Nat × (Nat × Option Nat × WP)) := [(154, (2, some 10, wl_X10_is))]
set_option maxRecDepth 100000 in
set_option maxHeartbeats 4000000 in
theorem ct_X10_show (l : Launch) : Con l wM yX10_show cX10_show 4 none 1 wl_X10_show := by
  refine sxm_ok l (ft := lkp ft_RX10) (c32 := lkp c32_RX10) (c64 := lkp c64_RX10) (ce := lkp ce_X10_show) (sf := lkp sf_RX10) (lab := lkp [(2, [0, 1, 2, 3])]) (T := tb_X10_show) (by decide +kernel) ft_RX10_ok c32_RX10_ok c64_RX10_ok (fun x q h => (show ∀ q ∈ ce_X10_show, ceOK l wM RX10 1 q.1 q.2.1 q.2.2.1 q.2.2.2 from List.forall_mem_cons.mpr ⟨⟨yX10_is, cX10_is, 2, (some .boolean), 0, ct_X10_is l, by decide, by decide, mi_X10_is.1, mi_X10_is.2, ml_RX10_154, mv_X10_is.1, mv_X10_is.2, ⟨_, _, rfl⟩, by decide, by decide +kernel⟩, fun _ h => absurd h List.not_mem_nil⟩) (x, q) (lkp_mem h)) sf_RX10_ok (by decide +kernel) 400 (fun As σ Q h => ?_)
  replace h := p1r_e h
  obtain ⟨z0, q0, rfl, h⟩ := h
  replace h := onB_e h
  obtain ⟨e0, h⟩ := h
  have e0 := Nat.eq_of_beq_eq_true e0
  subst e0
  replace h := p1i_e h
  obtain ⟨x1, q1, rfl, h⟩ := h
  replace h := p1i_e h
  obtain ⟨x2, q2, rfl, h⟩ := h
  replace h := onB_e h
  obtain ⟨e9, h⟩ := h
  have e9 := List.isEmpty_iff.mp e9
  subst e9
  refine ⟨Nat.le_of_ble_eq_true rfl, fun P hP => ?_⟩
  exact h (fun x3 τ => P 2 [.ref 0, .int x1, .int x2, .int x3] τ) (fun x3 τ hb => hP 2 [.ref 0, .int x1, .int x2, .int x3] τ hb)
def wp_X10_isRight  (σ : Sg) (Q : Int32 → Prop) : Prop :=
  ∀ L4 : Int32 → Int32 → Prop,
  (∀ (x1 : Int32) (x2 : Int32), ((x2 < (gI σ 0 10) → ((x1 = 0 → L4 (0 : Int32) (x2 + (1 : Int32))) ∧ (¬ x1 = 0 → (vp_in x2 4 ∧ wp_X10_is (gI σ 6 (x2).toNatClampNeg) σ (fun r1 => ((r1 = 0 → L4 (0 : Int32) (x2 + (1 : Int32))) ∧ (¬ r1 = 0 → L4 (1 : Int32) (x2 + (1 : Int32))))))))) ∧ (¬ x2 < (gI σ 0 10) → (nz x1 ∧ Q x1))) → L4 x1 x2) →
  L4 (1 : Int32) (0 : Int32)
def wl_X10_isRight : WP := fun As σ Q => p1r As (fun z0 r0 => onB (Nat.beq z0 0) (onB r0.isEmpty (wp_X10_isRight  σ (fun x => Q (some (.int x)) σ))))
def tb_X10_isRight : List (Nat × Instr × Nat) := [(0, (.iconst 1, 1)), (1, (.istore_n 1, 1)), (2, (.iconst 0, 1)), (3, (.istore_n 2, 1)), (4, (.iload_n 2, 1)), (5, (.aload_n 0, 1)), (6, (.getfield 137, 3)), (9, (.if_icmp .ge 41, 3)), (12, (.iload_n 1, 1)), (13, (.ifCond .eq 33, 3)), (16, (.aload_n 0, 1)), (17, (.aload_n 0, 1)), (18, (.getfield 30, 3)), (21, (.iload_n 2, 1)), (22, (.iaload, 1)), (23, (.invokevirtual 154, 3)), (26, (.ifCond .eq 33, 3)), (29, (.iconst 1, 1)), (30, (.goto 34, 3)), (33, (.iconst 0, 1)), (34, (.istore_n 1, 1)), (35, (.iinc 2 1, 3)), (38, (.goto 4, 3)), (41, (.iload_n 1, 1)), (42, (.ireturn, 1))]
def ce_X10_isRight : List (Nat × (Nat × Option Nat × WP)) := [(154, (2, some 10, wl_X10_is))]
set_option maxRecDepth 100000 in
set_option maxHeartbeats 4000000 in
theorem ct_X10_isRight (l : Launch) : Con l wM yX10_isRight cX10_isRight 3 (some .boolean) 1 wl_X10_isRight := by
  refine sxm_ok l (ft := lkp ft_RX10) (c32 := lkp c32_RX10) (c64 := lkp c64_RX10) (ce := lkp ce_X10_isRight) (sf := lkp sf_RX10) (lab := lkp [(4, [0, 1, 2])]) (T := tb_X10_isRight) (by decide +kernel) ft_RX10_ok c32_RX10_ok c64_RX10_ok (fun x q h => (show ∀ q ∈ ce_X10_isRight, ceOK l wM RX10 1 q.1 q.2.1 q.2.2.1 q.2.2.2 from List.forall_mem_cons.mpr ⟨⟨yX10_is, cX10_is, 2, (some .boolean), 0, ct_X10_is l, by decide, by decide, mi_X10_is.1, mi_X10_is.2, ml_RX10_154, mv_X10_is.1, mv_X10_is.2, ⟨_, _, rfl⟩, by decide, by decide +kernel⟩, fun _ h => absurd h List.not_mem_nil⟩) (x, q) (lkp_mem h)) sf_RX10_ok (by decide +kernel) 400 (fun As σ Q h => ?_)
  replace h := p1r_e h
  obtain ⟨z0, q0, rfl, h⟩ := h
  replace h := onB_e h
  obtain ⟨e0, h⟩ := h
  have e0 := Nat.eq_of_beq_eq_true e0
  subst e0
  replace h := onB_e h
  obtain ⟨e9, h⟩ := h
  have e9 := List.isEmpty_iff.mp e9
  subst e9
  refine ⟨Nat.le_of_ble_eq_true rfl, fun P hP => ?_⟩
  exact h (fun x1 x2 => P 4 [.ref 0, .int x1, .int x2] σ) (fun x1 x2 hb => hP 4 [.ref 0, .int x1, .int x2] σ hb)
def wp_X10_comes  (σ : Sg) (Q : Int32 → Prop) : Prop :=
  ∀ L4 : Int32 → Int32 → Prop,
  (∀ (x1 : Int32) (x2 : Int32), ((x2 < (gI σ 0 5) → (vp_in x2 80 ∧ (((gI σ 1 (x2).toNatClampNeg) = (1 : Int32) → (vp_in x2 80 ∧ wp_X10_is (gI σ 2 (x2).toNatClampNeg) σ (fun r1 => ((r1 = 0 → L4 x1 (x2 + (1 : Int32))) ∧ (¬ r1 = 0 → (vp_in x2 80 ∧ L4 (x1 ||| ((1 : Int32) <<< ((gI σ 4 (x2).toNatClampNeg) &&& 31))) (x2 + (1 : Int32)))))))) ∧ (¬ (gI σ 1 (x2).toNatClampNeg) = (1 : Int32) → (vp_in x2 80 ∧ (((gI σ 1 (x2).toNatClampNeg) = (2 : Int32) → (vp_in x2 80 ∧ wp_X10_is (gI σ 2 (x2).toNatClampNeg) σ (fun r2 => ((r2 = 0 → L4 x1 (x2 + (1 : Int32))) ∧ (¬ r2 = 0 → (vp_in x2 80 ∧ L4 (x1 ||| ((1 : Int32) <<< ((gI σ 4 (x2).toNatClampNeg) &&& 31))) (x2 + (1 : Int32)))))))) ∧ (¬ (gI σ 1 (x2).toNatClampNeg) = (2 : Int32) → L4 x1 (x2 + (1 : Int32))))))))) ∧ (¬ x2 < (gI σ 0 5) → Q x1)) → L4 x1 x2) →
  L4 (0 : Int32) (0 : Int32)
def wl_X10_comes : WP := fun As σ Q => p1r As (fun z0 r0 => onB (Nat.beq z0 0) (onB r0.isEmpty (wp_X10_comes  σ (fun x => Q (some (.int x)) σ))))
def tb_X10_comes : List (Nat × Instr × Nat) := [(0, (.iconst 0, 1)), (1, (.istore_n 1, 1)), (2, (.iconst 0, 1)), (3, (.istore_n 2, 1)), (4, (.iload_n 2, 1)), (5, (.aload_n 0, 1)), (6, (.getfield 112, 3)), (9, (.if_icmp .ge 62, 3)), (12, (.aload_n 0, 1)), (13, (.getfield 7, 3)), (16, (.iload_n 2, 1)), (17, (.iaload, 1)), (18, (.iconst 1, 1)), (19, (.if_icmp .eq 32, 3)), (22, (.aload_n 0, 1)), (23, (.getfield 7, 3)), (26, (.iload_n 2, 1)), (27, (.iaload, 1)), (28, (.iconst 2, 1)), (29, (.if_icmp .ne 56, 3)), (32, (.aload_n 0, 1)), (33, (.aload_n 0, 1)), (34, (.getfield 13, 3)), (37, (.iload_n 2, 1)), (38, (.iaload, 1)), (39, (.invokevirtual 154, 3)), (42, (.ifCond .eq 56, 3)), (45, (.iload_n 1, 1)), (46, (.iconst 1, 1)), (47, (.aload_n 0, 1)), (48, (.getfield 19, 3)), (51, (.iload_n 2, 1)), (52, (.iaload, 1)), (53, (.ishl, 1)), (54, (.ior, 1)), (55, (.istore_n 1, 1)), (56, (.iinc 2 1, 3)), (59, (.goto 4, 3)), (62, (.iload_n 1, 1)), (63, (.ireturn, 1))]
def ce_X10_comes : List (Nat × (Nat × Option Nat × WP)) := [(154, (2, some 10, wl_X10_is))]
set_option maxRecDepth 100000 in
set_option maxHeartbeats 4000000 in
theorem ct_X10_comes (l : Launch) : Con l wM yX10_comes cX10_comes 3 (some .int) 1 wl_X10_comes := by
  refine sxm_ok l (ft := lkp ft_RX10) (c32 := lkp c32_RX10) (c64 := lkp c64_RX10) (ce := lkp ce_X10_comes) (sf := lkp sf_RX10) (lab := lkp [(4, [0, 1, 2])]) (T := tb_X10_comes) (by decide +kernel) ft_RX10_ok c32_RX10_ok c64_RX10_ok (fun x q h => (show ∀ q ∈ ce_X10_comes, ceOK l wM RX10 1 q.1 q.2.1 q.2.2.1 q.2.2.2 from List.forall_mem_cons.mpr ⟨⟨yX10_is, cX10_is, 2, (some .boolean), 0, ct_X10_is l, by decide, by decide, mi_X10_is.1, mi_X10_is.2, ml_RX10_154, mv_X10_is.1, mv_X10_is.2, ⟨_, _, rfl⟩, by decide, by decide +kernel⟩, fun _ h => absurd h List.not_mem_nil⟩) (x, q) (lkp_mem h)) sf_RX10_ok (by decide +kernel) 400 (fun As σ Q h => ?_)
  replace h := p1r_e h
  obtain ⟨z0, q0, rfl, h⟩ := h
  replace h := onB_e h
  obtain ⟨e0, h⟩ := h
  have e0 := Nat.eq_of_beq_eq_true e0
  subst e0
  replace h := onB_e h
  obtain ⟨e9, h⟩ := h
  have e9 := List.isEmpty_iff.mp e9
  subst e9
  refine ⟨Nat.le_of_ble_eq_true rfl, fun P hP => ?_⟩
  exact h (fun x1 x2 => P 4 [.ref 0, .int x1, .int x2] σ) (fun x1 x2 hb => hP 4 [.ref 0, .int x1, .int x2] σ hb)
def wp_X10_isBadState (x1 : Int32) (σ : Sg) (Q : Int32 → Prop) : Prop :=
  ∀ L4 : Int32 → Int32 → Prop,
  (∀ (x2 : Int32) (x3 : Int32), wp_X10_ways σ (fun r1 => ((x3 < r1 → ((x2 = 0 → (vp_in (((16 : Int32) * x1) + x3) 4096 ∧ (((gI σ 11 ((((16 : Int32) * x1) + x3)).toNatClampNeg) = 0 → L4 (0 : Int32) (x3 + (1 : Int32))) ∧ (¬ (gI σ 11 ((((16 : Int32) * x1) + x3)).toNatClampNeg) = 0 → L4 (1 : Int32) (x3 + (1 : Int32)))))) ∧ (¬ x2 = 0 → L4 (1 : Int32) (x3 + (1 : Int32))))) ∧ (¬ x3 < r1 → (nz x2 ∧ Q x2)))) → L4 x2 x3) →
  L4 (0 : Int32) (0 : Int32)
def wl_X10_isBadState : WP := fun As σ Q => p1r As (fun z0 r0 => onB (Nat.beq z0 0) (p1i r0 (fun x1 r1 => onB r1.isEmpty (wp_X10_isBadState x1 σ (fun x => Q (some (.int x)) σ)))))
def tb_X10_isBadState : List (Nat × Instr × Nat) := [(0, (.iconst 0, 1)), (1, (.istore_n 2, 1)), (2, (.iconst 0, 1)), (3, (.istore_n 3, 1)), (4, (.iload_n 3, 1)), (5, (.aload_n 0, 1)), (6, (.invokevirtual 165, 3)), (9, (.if_icmp .ge 42, 3)), (12, (.iload_n 2, 1)), (13, (.ifCond .ne 30, 3)), (16, (.aload_n 0, 1)), (17, (.getfield 45, 3)), (20, (.bipush 16, 2)), (22, (.iload_n 1, 1)), (23, (.imul, 1)), (24, (.iload_n 3, 1)), (25, (.iadd, 1)), (26, (.baload, 1)), (27, (.ifCond .eq 34, 3)), (30, (.iconst 1, 1)), (31, (.goto 35, 3)), (34, (.iconst 0, 1)), (35, (.istore_n 2, 1)), (36, (.iinc 3 1, 3)), (39, (.goto 4, 3)), (42, (.iload_n 2, 1)), (43, (.ireturn, 1))]
def ce_X10_isBadState : List (Nat × (Nat × Option Nat × WP)) := [(165, (1, some 10, wl_X10_ways))]
set_option maxRecDepth 100000 in
set_option maxHeartbeats 4000000 in
theorem ct_X10_isBadState (l : Launch) : Con l wM yX10_isBadState cX10_isBadState 4 (some .boolean) 1 wl_X10_isBadState := by
  refine sxm_ok l (ft := lkp ft_RX10) (c32 := lkp c32_RX10) (c64 := lkp c64_RX10) (ce := lkp ce_X10_isBadState) (sf := lkp sf_RX10) (lab := lkp [(4, [0, 1, 2, 3])]) (T := tb_X10_isBadState) (by decide +kernel) ft_RX10_ok c32_RX10_ok c64_RX10_ok (fun x q h => (show ∀ q ∈ ce_X10_isBadState, ceOK l wM RX10 1 q.1 q.2.1 q.2.2.1 q.2.2.2 from List.forall_mem_cons.mpr ⟨⟨yX10_ways, cX10_ways, 1, (some .int), 0, ct_X10_ways l, by decide, by decide, mi_X10_ways.1, mi_X10_ways.2, ml_RX10_165, mv_X10_ways.1, mv_X10_ways.2, ⟨_, _, rfl⟩, by decide, by decide +kernel⟩, fun _ h => absurd h List.not_mem_nil⟩) (x, q) (lkp_mem h)) sf_RX10_ok (by decide +kernel) 400 (fun As σ Q h => ?_)
  replace h := p1r_e h
  obtain ⟨z0, q0, rfl, h⟩ := h
  replace h := onB_e h
  obtain ⟨e0, h⟩ := h
  have e0 := Nat.eq_of_beq_eq_true e0
  subst e0
  replace h := p1i_e h
  obtain ⟨x1, q1, rfl, h⟩ := h
  replace h := onB_e h
  obtain ⟨e9, h⟩ := h
  have e9 := List.isEmpty_iff.mp e9
  subst e9
  refine ⟨Nat.le_of_ble_eq_true rfl, fun P hP => ?_⟩
  exact h (fun x2 x3 => P 4 [.ref 0, .int x1, .int x2, .int x3] σ) (fun x2 x3 hb => hP 4 [.ref 0, .int x1, .int x2, .int x3] σ hb)
def wp_X10_leads (x1 : Int32) (x2 : Int32) (σ : Sg) (Q : Int32 → Prop) : Prop :=
  ∀ L5 : Int32 → Int32 → Prop,
  (∀ (x3 : Int32) (x4 : Int32), wp_X10_ways σ (fun r1 => ((x4 < r1 → ((x3 = 0 → (vp_in (((16 : Int32) * x1) + x4) 4096 ∧ (((gI σ 9 ((((16 : Int32) * x1) + x4)).toNatClampNeg) = x2 → L5 (1 : Int32) (x4 + (1 : Int32))) ∧ (¬ (gI σ 9 ((((16 : Int32) * x1) + x4)).toNatClampNeg) = x2 → L5 (0 : Int32) (x4 + (1 : Int32)))))) ∧ (¬ x3 = 0 → L5 (1 : Int32) (x4 + (1 : Int32))))) ∧ (¬ x4 < r1 → (nz x3 ∧ Q x3)))) → L5 x3 x4) →
  L5 (0 : Int32) (0 : Int32)
def wl_X10_leads : WP := fun As σ Q => p1r As (fun z0 r0 => onB (Nat.beq z0 0) (p1i r0 (fun x1 r1 => p1i r1 (fun x2 r2 => onB r2.isEmpty (wp_X10_leads x1 x2 σ (fun x => Q (some (.int x)) σ))))))
def tb_X10_leads : List (Nat × Instr × Nat) := [(0, (.iconst 0, 1)), (1, (.istore_n 3, 1)), (2, (.iconst 0, 1)), (3, (.istore 4, 2)), (5, (.iload 4, 2)), (7, (.aload_n 0, 1)), (8, (.invokevirtual 165, 3)), (11, (.if_icmp .ge 46, 3)), (14, (.iload_n 3, 1)), (15, (.ifCond .ne 34, 3)), (18, (.aload_n 0, 1)), (19, (.getfield 39, 3)), (22, (.bipush 16, 2)), (24, (.iload_n 1, 1)), (25, (.imul, 1)), (26, (.iload 4, 2)), (28, (.iadd, 1)), (29, (.iaload, 1)), (30, (.iload_n 2, 1)), (31, (.if_icmp .ne 38, 3)), (34, (.iconst 1, 1)), (35, (.goto 39, 3)), (38, (.iconst 0, 1)), (39, (.istore_n 3, 1)), (40, (.iinc 4 1, 3)), (43, (.goto 5, 3)), (46, (.iload_n 3, 1)), (47, (.ireturn, 1))]
def ce_X10_leads : List (Nat × (Nat × Option Nat × WP)) := [(165, (1, some 10, wl_X10_ways))]
set_option maxRecDepth 100000 in
set_option maxHeartbeats 4000000 in
theorem ct_X10_leads (l : Launch) : Con l wM yX10_leads cX10_leads 5 (some .boolean) 1 wl_X10_leads := by
  refine sxm_ok l (ft := lkp ft_RX10) (c32 := lkp c32_RX10) (c64 := lkp c64_RX10) (ce := lkp ce_X10_leads) (sf := lkp sf_RX10) (lab := lkp [(5, [0, 1, 2, 3, 4])]) (T := tb_X10_leads) (by decide +kernel) ft_RX10_ok c32_RX10_ok c64_RX10_ok (fun x q h => (show ∀ q ∈ ce_X10_leads, ceOK l wM RX10 1 q.1 q.2.1 q.2.2.1 q.2.2.2 from List.forall_mem_cons.mpr ⟨⟨yX10_ways, cX10_ways, 1, (some .int), 0, ct_X10_ways l, by decide, by decide, mi_X10_ways.1, mi_X10_ways.2, ml_RX10_165, mv_X10_ways.1, mv_X10_ways.2, ⟨_, _, rfl⟩, by decide, by decide +kernel⟩, fun _ h => absurd h List.not_mem_nil⟩) (x, q) (lkp_mem h)) sf_RX10_ok (by decide +kernel) 400 (fun As σ Q h => ?_)
  replace h := p1r_e h
  obtain ⟨z0, q0, rfl, h⟩ := h
  replace h := onB_e h
  obtain ⟨e0, h⟩ := h
  have e0 := Nat.eq_of_beq_eq_true e0
  subst e0
  replace h := p1i_e h
  obtain ⟨x1, q1, rfl, h⟩ := h
  replace h := p1i_e h
  obtain ⟨x2, q2, rfl, h⟩ := h
  replace h := onB_e h
  obtain ⟨e9, h⟩ := h
  have e9 := List.isEmpty_iff.mp e9
  subst e9
  refine ⟨Nat.le_of_ble_eq_true rfl, fun P hP => ?_⟩
  exact h (fun x3 x4 => P 5 [.ref 0, .int x1, .int x2, .int x3, .int x4] σ) (fun x3 x4 hb => hP 5 [.ref 0, .int x1, .int x2, .int x3, .int x4] σ hb)
def wp_X10_isState (x1 : Int32) (σ : Sg) (Q : Int32 → Prop) : Prop :=
  ((x1 < 0 → (nz (0 : Int32) ∧ Q (0 : Int32))) ∧ (¬ x1 < 0 → wp_X10_states σ (fun r1 => ((x1 < r1 → (nz (1 : Int32) ∧ Q (1 : Int32))) ∧ (¬ x1 < r1 → (nz (0 : Int32) ∧ Q (0 : Int32)))))))
def wl_X10_isState : WP := fun As σ Q => p1r As (fun z0 r0 => onB (Nat.beq z0 0) (p1i r0 (fun x1 r1 => onB r1.isEmpty (wp_X10_isState x1 σ (fun x => Q (some (.int x)) σ)))))
def tb_X10_isState : List (Nat × Instr × Nat) := [(0, (.iload_n 1, 1)), (1, (.ifCond .lt 16, 3)), (4, (.iload_n 1, 1)), (5, (.aload_n 0, 1)), (6, (.invokevirtual 161, 3)), (9, (.if_icmp .ge 16, 3)), (12, (.iconst 1, 1)), (13, (.goto 17, 3)), (16, (.iconst 0, 1)), (17, (.ireturn, 1))]
def ce_X10_isState : List (Nat × (Nat × Option Nat × WP)) := [(161, (1, some 10, wl_X10_states))]
set_option maxRecDepth 100000 in
set_option maxHeartbeats 4000000 in
theorem ct_X10_isState (l : Launch) : Con l wM yX10_isState cX10_isState 2 (some .boolean) 1 wl_X10_isState := by
  refine sxm_ok l (ft := lkp ft_RX10) (c32 := lkp c32_RX10) (c64 := lkp c64_RX10) (ce := lkp ce_X10_isState) (sf := lkp sf_RX10) (lab := lkp []) (T := tb_X10_isState) (by decide +kernel) ft_RX10_ok c32_RX10_ok c64_RX10_ok (fun x q h => (show ∀ q ∈ ce_X10_isState, ceOK l wM RX10 1 q.1 q.2.1 q.2.2.1 q.2.2.2 from List.forall_mem_cons.mpr ⟨⟨yX10_states, cX10_states, 1, (some .int), 0, ct_X10_states l, by decide, by decide, mi_X10_states.1, mi_X10_states.2, ml_RX10_161, mv_X10_states.1, mv_X10_states.2, ⟨_, _, rfl⟩, by decide, by decide +kernel⟩, fun _ h => absurd h List.not_mem_nil⟩) (x, q) (lkp_mem h)) sf_RX10_ok (by decide +kernel) 400 (fun As σ Q h => ?_)
  replace h := p1r_e h
  obtain ⟨z0, q0, rfl, h⟩ := h
  replace h := onB_e h
  obtain ⟨e0, h⟩ := h
  have e0 := Nat.eq_of_beq_eq_true e0
  subst e0
  replace h := p1i_e h
  obtain ⟨x1, q1, rfl, h⟩ := h
  replace h := onB_e h
  obtain ⟨e9, h⟩ := h
  have e9 := List.isEmpty_iff.mp e9
  subst e9
  refine ⟨Nat.le_of_ble_eq_true rfl, fun P hP => ?_⟩
  exact h 
def wp_X10_isInFrame (x1 : Int32) (x2 : Int32) (σ : Sg) (Q : Int32 → Prop) : Prop :=
  ∀ L20 : Int32 → Prop,
  (∀ (x3 : Int32), (vp_in x2 25 ∧ ((x3 < (gI σ 14 (x2).toNatClampNeg) → (vp_in (((200 : Int32) * x2) + x3) 5000 ∧ (vp_in (((200 : Int32) * x2) + x3) 5000 ∧ wp_X10_isInCube x1 (gI σ 12 ((((200 : Int32) * x2) + x3)).toNatClampNeg) (gI σ 13 ((((200 : Int32) * x2) + x3)).toNatClampNeg) σ (fun r1 => ((r1 = 0 → L20 (x3 + (1 : Int32))) ∧ (¬ r1 = 0 → (nz (0 : Int32) ∧ Q (0 : Int32)))))))) ∧ (¬ x3 < (gI σ 14 (x2).toNatClampNeg) → (nz (1 : Int32) ∧ Q (1 : Int32))))) → L20 x3) →
  ((x2 = 0 → ((x1 = (gI σ 0 8) → (nz (1 : Int32) ∧ Q (1 : Int32))) ∧ (¬ x1 = (gI σ 0 8) → (nz (0 : Int32) ∧ Q (0 : Int32))))) ∧ (¬ x2 = 0 → L20 (0 : Int32)))
def wl_X10_isInFrame : WP := fun As σ Q => p1r As (fun z0 r0 => onB (Nat.beq z0 0) (p1i r0 (fun x1 r1 => p1i r1 (fun x2 r2 => onB r2.isEmpty (wp_X10_isInFrame x1 x2 σ (fun x => Q (some (.int x)) σ))))))
def tb_X10_isInFrame : List (Nat × Instr × Nat) := [(0, (.iload_n 2, 1)), (1, (.ifCond .ne 18, 3)), (4, (.iload_n 1, 1)), (5, (.aload_n 0, 1)), (6, (.getfield 122, 3)), (9, (.if_icmp .ne 16, 3)), (12, (.iconst 1, 1)), (13, (.goto 17, 3)), (16, (.iconst 0, 1)), (17, (.ireturn, 1)), (18, (.iconst 0, 1)), (19, (.istore_n 3, 1)), (20, (.iload_n 3, 1)), (21, (.aload_n 0, 1)), (22, (.getfield 54, 3)), (25, (.iload_n 2, 1)), (26, (.iaload, 1)), (27, (.if_icmp .ge 69, 3)), (30, (.iload_n 1, 1)), (31, (.aload_n 0, 1)), (32, (.getfield 48, 3)), (35, (.sipush 200, 3)), (38, (.iload_n 2, 1)), (39, (.imul, 1)), (40, (.iload_n 3, 1)), (41, (.iadd, 1)), (42, (.iaload, 1)), (43, (.aload_n 0, 1)), (44, (.getfield 51, 3)), (47, (.sipush 200, 3)), (50, (.iload_n 2, 1)), (51, (.imul, 1)), (52, (.iload_n 3, 1)), (53, (.iadd, 1)), (54, (.iaload, 1)), (55, (.invokestatic 200, 3)), (58, (.ifCond .eq 63, 3)), (61, (.iconst 0, 1)), (62, (.ireturn, 1)), (63, (.iinc 3 1, 3)), (66, (.goto 20, 3)), (69, (.iconst 1, 1)), (70, (.ireturn, 1))]
def ce_X10_isInFrame : List (Nat × (Nat × Option Nat × WP)) := [(200, (3, none, wl_X10_isInCube))]
set_option maxRecDepth 100000 in
set_option maxHeartbeats 4000000 in
theorem ct_X10_isInFrame (l : Launch) : Con l wM yX10_isInFrame cX10_isInFrame 4 (some .boolean) 1 wl_X10_isInFrame := by
  refine sxm_ok l (ft := lkp ft_RX10) (c32 := lkp c32_RX10) (c64 := lkp c64_RX10) (ce := lkp ce_X10_isInFrame) (sf := lkp sf_RX10) (lab := lkp [(20, [0, 1, 2, 3])]) (T := tb_X10_isInFrame) (by decide +kernel) ft_RX10_ok c32_RX10_ok c64_RX10_ok (fun x q h => (show ∀ q ∈ ce_X10_isInFrame, ceOK l wM RX10 1 q.1 q.2.1 q.2.2.1 q.2.2.2 from List.forall_mem_cons.mpr ⟨⟨yX10_isInCube, cX10_isInCube, 3, (some .boolean), 0, ct_X10_isInCube l, by decide, by decide, mi_X10_isInCube.1, mi_X10_isInCube.2, Or.inl ml_RX10_200, ms_X10_isInCube, by decide +kernel⟩, fun _ h => absurd h List.not_mem_nil⟩) (x, q) (lkp_mem h)) sf_RX10_ok (by decide +kernel) 400 (fun As σ Q h => ?_)
  replace h := p1r_e h
  obtain ⟨z0, q0, rfl, h⟩ := h
  replace h := onB_e h
  obtain ⟨e0, h⟩ := h
  have e0 := Nat.eq_of_beq_eq_true e0
  subst e0
  replace h := p1i_e h
  obtain ⟨x1, q1, rfl, h⟩ := h
  replace h := p1i_e h
  obtain ⟨x2, q2, rfl, h⟩ := h
  replace h := onB_e h
  obtain ⟨e9, h⟩ := h
  have e9 := List.isEmpty_iff.mp e9
  subst e9
  refine ⟨Nat.le_of_ble_eq_true rfl, fun P hP => ?_⟩
  exact h (fun x3 => P 20 [.ref 0, .int x1, .int x2, .int x3] σ) (fun x3 hb => hP 20 [.ref 0, .int x1, .int x2, .int x3] σ hb)
def wp_X10_leadsInto (x1 : Int32) (x2 : Int32) (x3 : Int32) (σ : Sg) (Q : Int32 → Prop) : Prop :=
  ∀ L6 : Int32 → Int32 → Prop,
  (∀ (x4 : Int32) (x5 : Int32), wp_X10_ways σ (fun r1 => ((x5 < r1 → ((x4 = 0 → (vp_in (((16 : Int32) * x1) + x5) 4096 ∧ (((gI σ 9 ((((16 : Int32) * x1) + x5)).toNatClampNeg) < 0 → L6 (0 : Int32) (x5 + (1 : Int32))) ∧ (¬ (gI σ 9 ((((16 : Int32) * x1) + x5)).toNatClampNeg) < 0 → (vp_in (((16 : Int32) * x1) + x5) 4096 ∧ wp_X10_isInCube (gI σ 9 ((((16 : Int32) * x1) + x5)).toNatClampNeg) x2 x3 σ (fun r2 => ((r2 = 0 → L6 (0 : Int32) (x5 + (1 : Int32))) ∧ (¬ r2 = 0 → L6 (1 : Int32) (x5 + (1 : Int32)))))))))) ∧ (¬ x4 = 0 → L6 (1 : Int32) (x5 + (1 : Int32))))) ∧ (¬ x5 < r1 → (nz x4 ∧ Q x4)))) → L6 x4 x5) →
  L6 (0 : Int32) (0 : Int32)
def wl_X10_leadsInto : WP := fun As σ Q => p1r As (fun z0 r0 => onB (Nat.beq z0 0) (p1i r0 (fun x1 r1 => p1i r1 (fun x2 r2 => p1i r2 (fun x3 r3 => onB r3.isEmpty (wp_X10_leadsInto x1 x2 x3 σ (fun x => Q (some (.int x)) σ)))))))
def tb_X10_leadsInto : List (Nat × Instr × Nat) := [(0, (.iconst 0, 1)), (1, (.istore 4, 2)), (3, (.iconst 0, 1)), (4, (.istore 5, 2)), (6, (.iload 5, 2)), (8, (.aload_n 0, 1)), (9, (.invokevirtual 165, 3)), (12, (.if_icmp .ge 68, 3)), (15, (.iload 4, 2)), (17, (.ifCond .ne 55, 3)), (20, (.aload_n 0, 1)), (21, (.getfield 39, 3)), (24, (.bipush 16, 2)), (26, (.iload_n 1, 1)), (27, (.imul, 1)), (28, (.iload 5, 2)), (30, (.iadd, 1)), (31, (.iaload, 1)), (32, (.ifCond .lt 59, 3)), (35, (.aload_n 0, 1)), (36, (.getfield 39, 3)), (39, (.bipush 16, 2)), (41, (.iload_n 1, 1)), (42, (.imul, 1)), (43, (.iload 5, 2)), (45, (.iadd, 1)), (46, (.iaload, 1)), (47, (.iload_n 2, 1)), (48, (.iload_n 3, 1)), (49, (.invokestatic 200, 3)), (52, (.ifCond .eq 59, 3)), (55, (.iconst 1, 1)), (56, (.goto 60, 3)), (59, (.iconst 0, 1)), (60, (.istore 4, 2)), (62, (.iinc 5 1, 3)), (65, (.goto 6, 3)), (68, (.iload 4, 2)), (70, (.ireturn, 1))]
def ce_X10_leadsInto : List (Nat × (Nat × Option Nat × WP)) := [(165, (1, some 10, wl_X10_ways)), (200, (3, none, wl_X10_isInCube))]
set_option maxRecDepth 100000 in
set_option maxHeartbeats 4000000 in
theorem ct_X10_leadsInto (l : Launch) : Con l wM yX10_leadsInto cX10_leadsInto 6 (some .boolean) 1 wl_X10_leadsInto := by
  refine sxm_ok l (ft := lkp ft_RX10) (c32 := lkp c32_RX10) (c64 := lkp c64_RX10) (ce := lkp ce_X10_leadsInto) (sf := lkp sf_RX10) (lab := lkp [(6, [0, 1, 2, 3, 4, 5])]) (T := tb_X10_leadsInto) (by decide +kernel) ft_RX10_ok c32_RX10_ok c64_RX10_ok (fun x q h => (show ∀ q ∈ ce_X10_leadsInto, ceOK l wM RX10 1 q.1 q.2.1 q.2.2.1 q.2.2.2 from List.forall_mem_cons.mpr ⟨⟨yX10_ways, cX10_ways, 1, (some .int), 0, ct_X10_ways l, by decide, by decide, mi_X10_ways.1, mi_X10_ways.2, ml_RX10_165, mv_X10_ways.1, mv_X10_ways.2, ⟨_, _, rfl⟩, by decide, by decide +kernel⟩, List.forall_mem_cons.mpr ⟨⟨yX10_isInCube, cX10_isInCube, 3, (some .boolean), 0, ct_X10_isInCube l, by decide, by decide, mi_X10_isInCube.1, mi_X10_isInCube.2, Or.inl ml_RX10_200, ms_X10_isInCube, by decide +kernel⟩, fun _ h => absurd h List.not_mem_nil⟩⟩) (x, q) (lkp_mem h)) sf_RX10_ok (by decide +kernel) 400 (fun As σ Q h => ?_)
  replace h := p1r_e h
  obtain ⟨z0, q0, rfl, h⟩ := h
  replace h := onB_e h
  obtain ⟨e0, h⟩ := h
  have e0 := Nat.eq_of_beq_eq_true e0
  subst e0
  replace h := p1i_e h
  obtain ⟨x1, q1, rfl, h⟩ := h
  replace h := p1i_e h
  obtain ⟨x2, q2, rfl, h⟩ := h
  replace h := p1i_e h
  obtain ⟨x3, q3, rfl, h⟩ := h
  replace h := onB_e h
  obtain ⟨e9, h⟩ := h
  have e9 := List.isEmpty_iff.mp e9
  subst e9
  refine ⟨Nat.le_of_ble_eq_true rfl, fun P hP => ?_⟩
  exact h (fun x4 x5 => P 6 [.ref 0, .int x1, .int x2, .int x3, .int x4, .int x5] σ) (fun x4 x5 hb => hP 6 [.ref 0, .int x1, .int x2, .int x3, .int x4, .int x5] σ hb)
def wp_X10_hasAll (x1 : Int32) (σ : Sg) (Q : Int32 → Prop) : Prop :=
  ∀ L4 : Int32 → Int32 → Prop,
  (∀ (x2 : Int32) (x3 : Int32), (vp_in x1 25 ∧ ((x3 < (gI σ 14 (x1).toNatClampNeg) → ((x2 = 0 → L4 (0 : Int32) (x3 + (1 : Int32))) ∧ (¬ x2 = 0 → (vp_in (((200 : Int32) * x1) + x3) 5000 ∧ (vp_in (((200 : Int32) * x1) + x3) 5000 ∧ wp_X10_has (x1 + (1 : Int32)) (gI σ 12 ((((200 : Int32) * x1) + x3)).toNatClampNeg) (gI σ 13 ((((200 : Int32) * x1) + x3)).toNatClampNeg) σ (fun r1 => ((r1 = 0 → L4 (0 : Int32) (x3 + (1 : Int32))) ∧ (¬ r1 = 0 → L4 (1 : Int32) (x3 + (1 : Int32)))))))))) ∧ (¬ x3 < (gI σ 14 (x1).toNatClampNeg) → (nz x2 ∧ Q x2)))) → L4 x2 x3) →
  L4 (1 : Int32) (0 : Int32)
def wl_X10_hasAll : WP := fun As σ Q => p1r As (fun z0 r0 => onB (Nat.beq z0 0) (p1i r0 (fun x1 r1 => onB r1.isEmpty (wp_X10_hasAll x1 σ (fun x => Q (some (.int x)) σ)))))
def tb_X10_hasAll : List (Nat × Instr × Nat) := [(0, (.iconst 1, 1)), (1, (.istore_n 2, 1)), (2, (.iconst 0, 1)), (3, (.istore_n 3, 1)), (4, (.iload_n 3, 1)), (5, (.aload_n 0, 1)), (6, (.getfield 54, 3)), (9, (.iload_n 1, 1)), (10, (.iaload, 1)), (11, (.if_icmp .ge 64, 3)), (14, (.iload_n 2, 1)), (15, (.ifCond .eq 56, 3)), (18, (.aload_n 0, 1)), (19, (.iload_n 1, 1)), (20, (.iconst 1, 1)), (21, (.iadd, 1)), (22, (.aload_n 0, 1)), (23, (.getfield 48, 3)), (26, (.sipush 200, 3)), (29, (.iload_n 1, 1)), (30, (.imul, 1)), (31, (.iload_n 3, 1)), (32, (.iadd, 1)), (33, (.iaload, 1)), (34, (.aload_n 0, 1)), (35, (.getfield 51, 3)), (38, (.sipush 200, 3)), (41, (.iload_n 1, 1)), (42, (.imul, 1)), (43, (.iload_n 3, 1)), (44, (.iadd, 1)), (45, (.iaload, 1)), (46, (.invokevirtual 234, 3)), (49, (.ifCond .eq 56, 3)), (52, (.iconst 1, 1)), (53, (.goto 57, 3)), (56, (.iconst 0, 1)), (57, (.istore_n 2, 1)), (58, (.iinc 3 1, 3)), (61, (.goto 4, 3)), (64, (.iload_n 2, 1)), (65, (.ireturn, 1))]
def ce_X10_hasAll : List (Nat × (Nat × Option Nat × WP)) := [(234, (4, some 10, wl_X10_has))]
set_option maxRecDepth 100000 in
set_option maxHeartbeats 4000000 in
theorem ct_X10_hasAll (l : Launch) : Con l wM yX10_hasAll cX10_hasAll 4 (some .boolean) 1 wl_X10_hasAll := by
  refine sxm_ok l (ft := lkp ft_RX10) (c32 := lkp c32_RX10) (c64 := lkp c64_RX10) (ce := lkp ce_X10_hasAll) (sf := lkp sf_RX10) (lab := lkp [(4, [0, 1, 2, 3])]) (T := tb_X10_hasAll) (by decide +kernel) ft_RX10_ok c32_RX10_ok c64_RX10_ok (fun x q h => (show ∀ q ∈ ce_X10_hasAll, ceOK l wM RX10 1 q.1 q.2.1 q.2.2.1 q.2.2.2 from List.forall_mem_cons.mpr ⟨⟨yX10_has, cX10_has, 6, (some .boolean), 0, ct_X10_has l, by decide, by decide, mi_X10_has.1, mi_X10_has.2, ml_RX10_234, mv_X10_has.1, mv_X10_has.2, ⟨_, _, rfl⟩, by decide, by decide +kernel⟩, fun _ h => absurd h List.not_mem_nil⟩) (x, q) (lkp_mem h)) sf_RX10_ok (by decide +kernel) 400 (fun As σ Q h => ?_)
  replace h := p1r_e h
  obtain ⟨z0, q0, rfl, h⟩ := h
  replace h := onB_e h
  obtain ⟨e0, h⟩ := h
  have e0 := Nat.eq_of_beq_eq_true e0
  subst e0
  replace h := p1i_e h
  obtain ⟨x1, q1, rfl, h⟩ := h
  replace h := onB_e h
  obtain ⟨e9, h⟩ := h
  have e9 := List.isEmpty_iff.mp e9
  subst e9
  refine ⟨Nat.le_of_ble_eq_true rfl, fun P hP => ?_⟩
  exact h (fun x2 x3 => P 4 [.ref 0, .int x1, .int x2, .int x3] σ) (fun x2 x3 hb => hP 4 [.ref 0, .int x1, .int x2, .int x3] σ hb)
def wp_X10_clauses (x1 : Int32) (σ : Sg) (Q : Int32 → Sg → Prop) : Prop :=
  wp_X10_isFrame x1 σ (fun r1 => ((r1 = 0 → wp_X10_no (-3 : Int32) σ (fun r2 s3 => Q r2 s3)) ∧ (¬ r1 = 0 → (vp_in x1 25 ∧ Q (gI σ 14 (x1).toNatClampNeg) σ))))
def wl_X10_clauses : WP := fun As σ Q => p1r As (fun z0 r0 => onB (Nat.beq z0 0) (p1i r0 (fun x1 r1 => onB r1.isEmpty (wp_X10_clauses x1 σ (fun x τ => Q (some (.int x)) τ)))))
def tb_X10_clauses : List (Nat × Instr × Nat) := [(0, (.iload_n 1, 1)), (1, (.invokestatic 261, 3)), (4, (.ifCond .eq 16, 3)), (7, (.aload_n 0, 1)), (8, (.getfield 54, 3)), (11, (.iload_n 1, 1)), (12, (.iaload, 1)), (13, (.goto 22, 3)), (16, (.aload_n 0, 1)), (17, (.bipush (-3), 2)), (19, (.invokevirtual 118, 3)), (22, (.ireturn, 1))]
def ce_X10_clauses : List (Nat × (Nat × Option Nat × WP)) := [(261, (1, none, wl_X10_isFrame)), (118, (2, some 10, wl_X10_no))]
set_option maxRecDepth 100000 in
set_option maxHeartbeats 4000000 in
theorem ct_X10_clauses (l : Launch) : Con l wM yX10_clauses cX10_clauses 2 (some .int) 1 wl_X10_clauses := by
  refine sxm_ok l (ft := lkp ft_RX10) (c32 := lkp c32_RX10) (c64 := lkp c64_RX10) (ce := lkp ce_X10_clauses) (sf := lkp sf_RX10) (lab := lkp []) (T := tb_X10_clauses) (by decide +kernel) ft_RX10_ok c32_RX10_ok c64_RX10_ok (fun x q h => (show ∀ q ∈ ce_X10_clauses, ceOK l wM RX10 1 q.1 q.2.1 q.2.2.1 q.2.2.2 from List.forall_mem_cons.mpr ⟨⟨yX10_isFrame, cX10_isFrame, 1, (some .boolean), 0, ct_X10_isFrame l, by decide, by decide, mi_X10_isFrame.1, mi_X10_isFrame.2, Or.inl ml_RX10_261, ms_X10_isFrame, by decide +kernel⟩, List.forall_mem_cons.mpr ⟨⟨yX10_no, cX10_no, 2, (some .int), 0, ct_X10_no l, by decide, by decide, mi_X10_no.1, mi_X10_no.2, ml_RX10_118, mv_X10_no.1, mv_X10_no.2, ⟨_, _, rfl⟩, by decide, by decide +kernel⟩, fun _ h => absurd h List.not_mem_nil⟩⟩) (x, q) (lkp_mem h)) sf_RX10_ok (by decide +kernel) 400 (fun As σ Q h => ?_)
  replace h := p1r_e h
  obtain ⟨z0, q0, rfl, h⟩ := h
  replace h := onB_e h
  obtain ⟨e0, h⟩ := h
  have e0 := Nat.eq_of_beq_eq_true e0
  subst e0
  replace h := p1i_e h
  obtain ⟨x1, q1, rfl, h⟩ := h
  replace h := onB_e h
  obtain ⟨e9, h⟩ := h
  have e9 := List.isEmpty_iff.mp e9
  subst e9
  refine ⟨Nat.le_of_ble_eq_true rfl, fun P hP => ?_⟩
  exact h 
def wp_X10_clause (x1 : Int32) (x2 : Int32) (x3 : Int32) (σ : Sg) (Q : Int32 → Sg → Prop) : Prop :=
  wp_X10_isFrame x1 σ (fun r1 => ((r1 = 0 → wp_X10_no (-3 : Int32) σ (fun r2 s3 => Q r2 s3)) ∧ (¬ r1 = 0 → (vp_in x1 25 ∧ wp_X10_isIn (x2).toInt64 (0 : Int64) (((gI σ 14 (x1).toNatClampNeg) - (1 : Int32))).toInt64 σ (fun r4 => ((r4 = 0 → wp_X10_no (-3 : Int32) σ (fun r5 s6 => Q r5 s6)) ∧ (¬ r4 = 0 → ((x3 = 0 → (vp_in (((200 : Int32) * x1) + x2) 5000 ∧ Q (gI σ 12 ((((200 : Int32) * x1) + x2)).toNatClampNeg) σ)) ∧ (¬ x3 = 0 → (vp_in (((200 : Int32) * x1) + x2) 5000 ∧ Q (gI σ 13 ((((200 : Int32) * x1) + x2)).toNatClampNeg) σ))))))))))
def wl_X10_clause : WP := fun As σ Q => p1r As (fun z0 r0 => onB (Nat.beq z0 0) (p1i r0 (fun x1 r1 => p1i r1 (fun x2 r2 => p1i r2 (fun x3 r3 => onB r3.isEmpty (wp_X10_clause x1 x2 x3 σ (fun x τ => Q (some (.int x)) τ)))))))
def tb_X10_clause : List (Nat × Instr × Nat) := [(0, (.iload_n 1, 1)), (1, (.invokestatic 261, 3)), (4, (.ifCond .eq 25, 3)), (7, (.iload_n 2, 1)), (8, (.i2l, 1)), (9, (.lconst 0, 1)), (10, (.aload_n 0, 1)), (11, (.getfield 54, 3)), (14, (.iload_n 1, 1)), (15, (.iaload, 1)), (16, (.iconst 1, 1)), (17, (.isub, 1)), (18, (.i2l, 1)), (19, (.invokestatic 133, 3)), (22, (.ifCond .ne 32, 3)), (25, (.aload_n 0, 1)), (26, (.bipush (-3), 2)), (28, (.invokevirtual 118, 3)), (31, (.ireturn, 1)), (32, (.iload_n 3, 1)), (33, (.ifCond .eq 51, 3)), (36, (.aload_n 0, 1)), (37, (.getfield 51, 3)), (40, (.sipush 200, 3)), (43, (.iload_n 1, 1)), (44, (.imul, 1)), (45, (.iload_n 2, 1)), (46, (.iadd, 1)), (47, (.iaload, 1)), (48, (.goto 63, 3)), (51, (.aload_n 0, 1)), (52, (.getfield 48, 3)), (55, (.sipush 200, 3)), (58, (.iload_n 1, 1)), (59, (.imul, 1)), (60, (.iload_n 2, 1)), (61, (.iadd, 1)), (62, (.iaload, 1)), (63, (.ireturn, 1))]
def ce_X10_clause : List (Nat × (Nat × Option Nat × WP)) := [(261, (1, none, wl_X10_isFrame)), (133, (3, none, wl_X10_isIn)), (118, (2, some 10, wl_X10_no))]
set_option maxRecDepth 100000 in
set_option maxHeartbeats 4000000 in
theorem ct_X10_clause (l : Launch) : Con l wM yX10_clause cX10_clause 4 (some .int) 1 wl_X10_clause := by
  refine sxm_ok l (ft := lkp ft_RX10) (c32 := lkp c32_RX10) (c64 := lkp c64_RX10) (ce := lkp ce_X10_clause) (sf := lkp sf_RX10) (lab := lkp []) (T := tb_X10_clause) (by decide +kernel) ft_RX10_ok c32_RX10_ok c64_RX10_ok (fun x q h => (show ∀ q ∈ ce_X10_clause, ceOK l wM RX10 1 q.1 q.2.1 q.2.2.1 q.2.2.2 from List.forall_mem_cons.mpr ⟨⟨yX10_isFrame, cX10_isFrame, 1, (some .boolean), 0, ct_X10_isFrame l, by decide, by decide, mi_X10_isFrame.1, mi_X10_isFrame.2, Or.inl ml_RX10_261, ms_X10_isFrame, by decide +kernel⟩, List.forall_mem_cons.mpr ⟨⟨yX10_isIn, cX10_isIn, 6, (some .boolean), 0, ct_X10_isIn l, by decide, by decide, mi_X10_isIn.1, mi_X10_isIn.2, Or.inl ml_RX10_133, ms_X10_isIn, by decide +kernel⟩, List.forall_mem_cons.mpr ⟨⟨yX10_no, cX10_no, 2, (some .int), 0, ct_X10_no l, by decide, by decide, mi_X10_no.1, mi_X10_no.2, ml_RX10_118, mv_X10_no.1, mv_X10_no.2, ⟨_, _, rfl⟩, by decide, by decide +kernel⟩, fun _ h => absurd h List.not_mem_nil⟩⟩⟩) (x, q) (lkp_mem h)) sf_RX10_ok (by decide +kernel) 400 (fun As σ Q h => ?_)
  replace h := p1r_e h
  obtain ⟨z0, q0, rfl, h⟩ := h
  replace h := onB_e h
  obtain ⟨e0, h⟩ := h
  have e0 := Nat.eq_of_beq_eq_true e0
  subst e0
  replace h := p1i_e h
  obtain ⟨x1, q1, rfl, h⟩ := h
  replace h := p1i_e h
  obtain ⟨x2, q2, rfl, h⟩ := h
  replace h := p1i_e h
  obtain ⟨x3, q3, rfl, h⟩ := h
  replace h := onB_e h
  obtain ⟨e9, h⟩ := h
  have e9 := List.isEmpty_iff.mp e9
  subst e9
  refine ⟨Nat.le_of_ble_eq_true rfl, fun P hP => ?_⟩
  exact h 
def wp_X10_trouble (x1 : Int32) (x2 : Int32) (σ : Sg) (Q : Int32 → Sg → Prop) : Prop :=
  ((x1 < 0 → wp_X10_no (-4 : Int32) σ (fun r1 s2 => Q r1 s2)) ∧ (¬ x1 < 0 → wp_X10_isIn (x2).toInt64 (0 : Int64) (1 : Int64) σ (fun r3 => ((r3 = 0 → wp_X10_no (-7 : Int32) σ (fun r4 s5 => Q r4 s5)) ∧ (¬ r3 = 0 → ((x1 < (gI σ 0 26) → ((x2 = 0 → (vp_in x1 40 ∧ Q (gI σ 15 (x1).toNatClampNeg) σ)) ∧ (¬ x2 = 0 → (vp_in x1 40 ∧ Q (gI σ 16 (x1).toNatClampNeg) σ)))) ∧ (¬ x1 < (gI σ 0 26) → Q (-1 : Int32) σ)))))))
def wl_X10_trouble : WP := fun As σ Q => p1r As (fun z0 r0 => onB (Nat.beq z0 0) (p1i r0 (fun x1 r1 => p1i r1 (fun x2 r2 => onB r2.isEmpty (wp_X10_trouble x1 x2 σ (fun x τ => Q (some (.int x)) τ))))))
def tb_X10_trouble : List (Nat × Instr × Nat) := [(0, (.iload_n 1, 1)), (1, (.ifCond .ge 11, 3)), (4, (.aload_n 0, 1)), (5, (.bipush (-4), 2)), (7, (.invokevirtual 118, 3)), (10, (.ireturn, 1)), (11, (.iload_n 2, 1)), (12, (.i2l, 1)), (13, (.lconst 0, 1)), (14, (.lconst 1, 1)), (15, (.invokestatic 133, 3)), (18, (.ifCond .ne 28, 3)), (21, (.aload_n 0, 1)), (22, (.bipush (-7), 2)), (24, (.invokevirtual 118, 3)), (27, (.ireturn, 1)), (28, (.iload_n 1, 1)), (29, (.aload_n 0, 1)), (30, (.getfield 194, 3)), (33, (.if_icmp .lt 38, 3)), (36, (.iconst (-1), 1)), (37, (.ireturn, 1)), (38, (.iload_n 2, 1)), (39, (.ifCond .ne 51, 3)), (42, (.aload_n 0, 1)), (43, (.getfield 57, 3)), (46, (.iload_n 1, 1)), (47, (.iaload, 1)), (48, (.goto 57, 3)), (51, (.aload_n 0, 1)), (52, (.getfield 60, 3)), (55, (.iload_n 1, 1)), (56, (.iaload, 1)), (57, (.ireturn, 1))]
def ce_X10_trouble : List (Nat × (Nat × Option Nat × WP)) := [(118, (2, some 10, wl_X10_no)), (133, (3, none, wl_X10_isIn))]
set_option maxRecDepth 100000 in
set_option maxHeartbeats 4000000 in
theorem ct_X10_trouble (l : Launch) : Con l wM yX10_trouble cX10_trouble 3 (some .int) 1 wl_X10_trouble := by
  refine sxm_ok l (ft := lkp ft_RX10) (c32 := lkp c32_RX10) (c64 := lkp c64_RX10) (ce := lkp ce_X10_trouble) (sf := lkp sf_RX10) (lab := lkp []) (T := tb_X10_trouble) (by decide +kernel) ft_RX10_ok c32_RX10_ok c64_RX10_ok (fun x q h => (show ∀ q ∈ ce_X10_trouble, ceOK l wM RX10 1 q.1 q.2.1 q.2.2.1 q.2.2.2 from List.forall_mem_cons.mpr ⟨⟨yX10_no, cX10_no, 2, (some .int), 0, ct_X10_no l, by decide, by decide, mi_X10_no.1, mi_X10_no.2, ml_RX10_118, mv_X10_no.1, mv_X10_no.2, ⟨_, _, rfl⟩, by decide, by decide +kernel⟩, List.forall_mem_cons.mpr ⟨⟨yX10_isIn, cX10_isIn, 6, (some .boolean), 0, ct_X10_isIn l, by decide, by decide, mi_X10_isIn.1, mi_X10_isIn.2, Or.inl ml_RX10_133, ms_X10_isIn, by decide +kernel⟩, fun _ h => absurd h List.not_mem_nil⟩⟩) (x, q) (lkp_mem h)) sf_RX10_ok (by decide +kernel) 400 (fun As σ Q h => ?_)
  replace h := p1r_e h
  obtain ⟨z0, q0, rfl, h⟩ := h
  replace h := onB_e h
  obtain ⟨e0, h⟩ := h
  have e0 := Nat.eq_of_beq_eq_true e0
  subst e0
  replace h := p1i_e h
  obtain ⟨x1, q1, rfl, h⟩ := h
  replace h := p1i_e h
  obtain ⟨x2, q2, rfl, h⟩ := h
  replace h := onB_e h
  obtain ⟨e9, h⟩ := h
  have e9 := List.isEmpty_iff.mp e9
  subst e9
  refine ⟨Nat.le_of_ble_eq_true rfl, fun P hP => ?_⟩
  exact h 
def wp_X10_way  (σ : Sg) (Q : Int32 → Sg → Prop) : Prop :=
  (((gI σ 0 33) = 0 → wp_X10_no (-2 : Int32) σ (fun r1 s2 => Q r1 s2)) ∧ (¬ (gI σ 0 33) = 0 → Q ((gI σ 0 33) - (1 : Int32)) σ))
def wl_X10_way : WP := fun As σ Q => p1r As (fun z0 r0 => onB (Nat.beq z0 0) (onB r0.isEmpty (wp_X10_way  σ (fun x τ => Q (some (.int x)) τ))))
def tb_X10_way : List (Nat × Instr × Nat) := [(0, (.aload_n 0, 1)), (1, (.getfield 197, 3)), (4, (.ifCond .ne 16, 3)), (7, (.aload_n 0, 1)), (8, (.bipush (-2), 2)), (10, (.invokevirtual 118, 3)), (13, (.goto 22, 3)), (16, (.aload_n 0, 1)), (17, (.getfield 197, 3)), (20, (.iconst 1, 1)), (21, (.isub, 1)), (22, (.ireturn, 1))]
def ce_X10_way : List (Nat × (Nat × Option Nat × WP)) := [(118, (2, some 10, wl_X10_no))]
set_option maxRecDepth 100000 in
set_option maxHeartbeats 4000000 in
theorem ct_X10_way (l : Launch) : Con l wM yX10_way cX10_way 1 (some .int) 1 wl_X10_way := by
  refine sxm_ok l (ft := lkp ft_RX10) (c32 := lkp c32_RX10) (c64 := lkp c64_RX10) (ce := lkp ce_X10_way) (sf := lkp sf_RX10) (lab := lkp []) (T := tb_X10_way) (by decide +kernel) ft_RX10_ok c32_RX10_ok c64_RX10_ok (fun x q h => (show ∀ q ∈ ce_X10_way, ceOK l wM RX10 1 q.1 q.2.1 q.2.2.1 q.2.2.2 from List.forall_mem_cons.mpr ⟨⟨yX10_no, cX10_no, 2, (some .int), 0, ct_X10_no l, by decide, by decide, mi_X10_no.1, mi_X10_no.2, ml_RX10_118, mv_X10_no.1, mv_X10_no.2, ⟨_, _, rfl⟩, by decide, by decide +kernel⟩, fun _ h => absurd h List.not_mem_nil⟩) (x, q) (lkp_mem h)) sf_RX10_ok (by decide +kernel) 400 (fun As σ Q h => ?_)
  replace h := p1r_e h
  obtain ⟨z0, q0, rfl, h⟩ := h
  replace h := onB_e h
  obtain ⟨e0, h⟩ := h
  have e0 := Nat.eq_of_beq_eq_true e0
  subst e0
  replace h := onB_e h
  obtain ⟨e9, h⟩ := h
  have e9 := List.isEmpty_iff.mp e9
  subst e9
  refine ⟨Nat.le_of_ble_eq_true rfl, fun P hP => ?_⟩
  exact h 
def wp_X10_wayState (x1 : Int32) (σ : Sg) (Q : Int32 → Sg → Prop) : Prop :=
  (((gI σ 0 33) = 0 → wp_X10_no (-2 : Int32) σ (fun r1 s2 => Q r1 s2)) ∧ (¬ (gI σ 0 33) = 0 → wp_X10_isIn (x1).toInt64 (0 : Int64) (((gI σ 0 33) - (1 : Int32))).toInt64 σ (fun r3 => ((r3 = 0 → wp_X10_no (-3 : Int32) σ (fun r4 s5 => Q r4 s5)) ∧ (¬ r3 = 0 → (vp_in x1 40 ∧ Q (gI σ 19 (x1).toNatClampNeg) σ))))))
def wl_X10_wayState : WP := fun As σ Q => p1r As (fun z0 r0 => onB (Nat.beq z0 0) (p1i r0 (fun x1 r1 => onB r1.isEmpty (wp_X10_wayState x1 σ (fun x τ => Q (some (.int x)) τ)))))
def tb_X10_wayState : List (Nat × Instr × Nat) := [(0, (.aload_n 0, 1)), (1, (.getfield 197, 3)), (4, (.ifCond .ne 14, 3)), (7, (.aload_n 0, 1)), (8, (.bipush (-2), 2)), (10, (.invokevirtual 118, 3)), (13, (.ireturn, 1)), (14, (.iload_n 1, 1)), (15, (.i2l, 1)), (16, (.lconst 0, 1)), (17, (.aload_n 0, 1)), (18, (.getfield 197, 3)), (21, (.iconst 1, 1)), (22, (.isub, 1)), (23, (.i2l, 1)), (24, (.invokestatic 133, 3)), (27, (.ifCond .eq 39, 3)), (30, (.aload_n 0, 1)), (31, (.getfield 72, 3)), (34, (.iload_n 1, 1)), (35, (.iaload, 1)), (36, (.goto 45, 3)), (39, (.aload_n 0, 1)), (40, (.bipush (-3), 2)), (42, (.invokevirtual 118, 3)), (45, (.ireturn, 1))]
def ce_X10_wayState : List (Nat × (Nat × Option Nat × WP)) := [(118, (2, some 10, wl_X10_no)), (133, (3, none, wl_X10_isIn))]
set_option maxRecDepth 100000 in
set_option maxHeartbeats 4000000 in
theorem ct_X10_wayState (l : Launch) : Con l wM yX10_wayState cX10_wayState 2 (some .int) 1 wl_X10_wayState := by
  refine sxm_ok l (ft := lkp ft_RX10) (c32 := lkp c32_RX10) (c64 := lkp c64_RX10) (ce := lkp ce_X10_wayState) (sf := lkp sf_RX10) (lab := lkp []) (T := tb_X10_wayState) (by decide +kernel) ft_RX10_ok c32_RX10_ok c64_RX10_ok (fun x q h => (show ∀ q ∈ ce_X10_wayState, ceOK l wM RX10 1 q.1 q.2.1 q.2.2.1 q.2.2.2 from List.forall_mem_cons.mpr ⟨⟨yX10_no, cX10_no, 2, (some .int), 0, ct_X10_no l, by decide, by decide, mi_X10_no.1, mi_X10_no.2, ml_RX10_118, mv_X10_no.1, mv_X10_no.2, ⟨_, _, rfl⟩, by decide, by decide +kernel⟩, List.forall_mem_cons.mpr ⟨⟨yX10_isIn, cX10_isIn, 6, (some .boolean), 0, ct_X10_isIn l, by decide, by decide, mi_X10_isIn.1, mi_X10_isIn.2, Or.inl ml_RX10_133, ms_X10_isIn, by decide +kernel⟩, fun _ h => absurd h List.not_mem_nil⟩⟩) (x, q) (lkp_mem h)) sf_RX10_ok (by decide +kernel) 400 (fun As σ Q h => ?_)
  replace h := p1r_e h
  obtain ⟨z0, q0, rfl, h⟩ := h
  replace h := onB_e h
  obtain ⟨e0, h⟩ := h
  have e0 := Nat.eq_of_beq_eq_true e0
  subst e0
  replace h := p1i_e h
  obtain ⟨x1, q1, rfl, h⟩ := h
  replace h := onB_e h
  obtain ⟨e9, h⟩ := h
  have e9 := List.isEmpty_iff.mp e9
  subst e9
  refine ⟨Nat.le_of_ble_eq_true rfl, fun P hP => ?_⟩
  exact h 
def wp_X10_isCube (x1 : Int32) (x2 : Int32) (σ : Sg) (Q : Int32 → Prop) : Prop :=
  wp_X10_states σ (fun r1 => wp_X10_isIn (x1).toInt64 (0 : Int64) ((r1 - (1 : Int32))).toInt64 σ (fun r2 => ((r2 = 0 → (nz (0 : Int32) ∧ Q (0 : Int32))) ∧ (¬ r2 = 0 → ((x2 < 0 → (nz (0 : Int32) ∧ Q (0 : Int32))) ∧ (¬ x2 < 0 → (((x2 &&& (x1 ^^^ (-1 : Int32))) = 0 → (nz (1 : Int32) ∧ Q (1 : Int32))) ∧ (¬ (x2 &&& (x1 ^^^ (-1 : Int32))) = 0 → (nz (0 : Int32) ∧ Q (0 : Int32))))))))))
def wl_X10_isCube : WP := fun As σ Q => p1r As (fun z0 r0 => onB (Nat.beq z0 0) (p1i r0 (fun x1 r1 => p1i r1 (fun x2 r2 => onB r2.isEmpty (wp_X10_isCube x1 x2 σ (fun x => Q (some (.int x)) σ))))))
def tb_X10_isCube : List (Nat × Instr × Nat) := [(0, (.iload_n 1, 1)), (1, (.i2l, 1)), (2, (.lconst 0, 1)), (3, (.aload_n 0, 1)), (4, (.invokevirtual 161, 3)), (7, (.iconst 1, 1)), (8, (.isub, 1)), (9, (.i2l, 1)), (10, (.invokestatic 133, 3)), (13, (.ifCond .eq 32, 3)), (16, (.iload_n 2, 1)), (17, (.ifCond .lt 32, 3)), (20, (.iload_n 2, 1)), (21, (.iload_n 1, 1)), (22, (.iconst (-1), 1)), (23, (.ixor, 1)), (24, (.iand, 1)), (25, (.ifCond .ne 32, 3)), (28, (.iconst 1, 1)), (29, (.goto 33, 3)), (32, (.iconst 0, 1)), (33, (.ireturn, 1))]
def ce_X10_isCube : List (Nat × (Nat × Option Nat × WP)) := [(161, (1, some 10, wl_X10_states)), (133, (3, none, wl_X10_isIn))]
set_option maxRecDepth 100000 in
set_option maxHeartbeats 4000000 in
theorem ct_X10_isCube (l : Launch) : Con l wM yX10_isCube cX10_isCube 3 (some .boolean) 1 wl_X10_isCube := by
  refine sxm_ok l (ft := lkp ft_RX10) (c32 := lkp c32_RX10) (c64 := lkp c64_RX10) (ce := lkp ce_X10_isCube) (sf := lkp sf_RX10) (lab := lkp []) (T := tb_X10_isCube) (by decide +kernel) ft_RX10_ok c32_RX10_ok c64_RX10_ok (fun x q h => (show ∀ q ∈ ce_X10_isCube, ceOK l wM RX10 1 q.1 q.2.1 q.2.2.1 q.2.2.2 from List.forall_mem_cons.mpr ⟨⟨yX10_states, cX10_states, 1, (some .int), 0, ct_X10_states l, by decide, by decide, mi_X10_states.1, mi_X10_states.2, ml_RX10_161, mv_X10_states.1, mv_X10_states.2, ⟨_, _, rfl⟩, by decide, by decide +kernel⟩, List.forall_mem_cons.mpr ⟨⟨yX10_isIn, cX10_isIn, 6, (some .boolean), 0, ct_X10_isIn l, by decide, by decide, mi_X10_isIn.1, mi_X10_isIn.2, Or.inl ml_RX10_133, ms_X10_isIn, by decide +kernel⟩, fun _ h => absurd h List.not_mem_nil⟩⟩) (x, q) (lkp_mem h)) sf_RX10_ok (by decide +kernel) 400 (fun As σ Q h => ?_)
  replace h := p1r_e h
  obtain ⟨z0, q0, rfl, h⟩ := h
  replace h := onB_e h
  obtain ⟨e0, h⟩ := h
  have e0 := Nat.eq_of_beq_eq_true e0
  subst e0
  replace h := p1i_e h
  obtain ⟨x1, q1, rfl, h⟩ := h
  replace h := p1i_e h
  obtain ⟨x2, q2, rfl, h⟩ := h
  replace h := onB_e h
  obtain ⟨e9, h⟩ := h
  have e9 := List.isEmpty_iff.mp e9
  subst e9
  refine ⟨Nat.le_of_ble_eq_true rfl, fun P hP => ?_⟩
  exact h 
def wp_X10_cone  (σ : Sg) (Q : Int32 → Sg → Prop) : Prop :=
  ∀ L16 : Int32 → Sg → Prop,
  ∀ L53 : Int32 → Sg → Prop,
  ∀ L83 : Int32 → Sg → Prop,
  ∀ L93 : Int32 → Int32 → Sg → Prop,
  ∀ L176 : Int32 → Int32 → Sg → Prop,
  (∀ (x1 : Int32) (τ : Sg), ((x1 < (gI τ 0 5) → (¬ (2 : Int32) = 0 ∧ ((x1 = ((gI τ 0 9) / (2 : Int32)) → (vp_in x1 80 ∧ L16 (x1 + (1 : Int32)) (sI τ 21 (x1).toNatClampNeg (vp_nar .boolean (1 : Int32))))) ∧ (¬ x1 = ((gI τ 0 9) / (2 : Int32)) → (vp_in x1 80 ∧ L16 (x1 + (1 : Int32)) (sI τ 21 (x1).toNatClampNeg (vp_nar .boolean (0 : Int32)))))))) ∧ (¬ x1 < (gI τ 0 5) → L53 (0 : Int32) τ)) → L16 x1 τ) →
  (∀ (x1 : Int32) (τ : Sg), ((x1 < (gI τ 0 10) → (vp_in x1 4 ∧ (¬ (2 : Int32) = 0 ∧ (vp_in ((gI τ 6 (x1).toNatClampNeg) / (2 : Int32)) 80 ∧ L53 (x1 + (1 : Int32)) (sI τ 21 (((gI τ 6 (x1).toNatClampNeg) / (2 : Int32))).toNatClampNeg (vp_nar .boolean (1 : Int32))))))) ∧ (¬ x1 < (gI τ 0 10) → L83 (0 : Int32) τ)) → L53 x1 τ) →
  (∀ (x1 : Int32) (τ : Sg), ((x1 < (gI τ 0 5) → L93 x1 (0 : Int32) τ) ∧ (¬ x1 < (gI τ 0 5) → L176 (0 : Int32) (0 : Int32) τ)) → L83 x1 τ) →
  (∀ (x1 : Int32) (x2 : Int32) (τ : Sg), ((x2 < (gI τ 0 5) → (vp_in x2 80 ∧ (((gI τ 21 (x2).toNatClampNeg) = 0 → L93 x1 (x2 + (1 : Int32)) τ) ∧ (¬ (gI τ 21 (x2).toNatClampNeg) = 0 → (vp_in x2 80 ∧ (((gI τ 1 (x2).toNatClampNeg) = (3 : Int32) → L93 x1 (x2 + (1 : Int32)) τ) ∧ (¬ (gI τ 1 (x2).toNatClampNeg) = (3 : Int32) → (vp_in x2 80 ∧ (¬ (2 : Int32) = 0 ∧ (vp_in ((gI τ 2 (x2).toNatClampNeg) / (2 : Int32)) 80 ∧ (vp_in x2 80 ∧ (((gI (sI τ 21 (((gI τ 2 (x2).toNatClampNeg) / (2 : Int32))).toNatClampNeg (vp_nar .boolean (1 : Int32))) 1 (x2).toNatClampNeg) = 0 → (vp_in x2 80 ∧ (¬ (2 : Int32) = 0 ∧ (vp_in ((gI (sI τ 21 (((gI τ 2 (x2).toNatClampNeg) / (2 : Int32))).toNatClampNeg (vp_nar .boolean (1 : Int32))) 3 (x2).toNatClampNeg) / (2 : Int32)) 80 ∧ L93 x1 (x2 + (1 : Int32)) (sI (sI τ 21 (((gI τ 2 (x2).toNatClampNeg) / (2 : Int32))).toNatClampNeg (vp_nar .boolean (1 : Int32))) 21 (((gI (sI τ 21 (((gI τ 2 (x2).toNatClampNeg) / (2 : Int32))).toNatClampNeg (vp_nar .boolean (1 : Int32))) 3 (x2).toNatClampNeg) / (2 : Int32))).toNatClampNeg (vp_nar .boolean (1 : Int32))))))) ∧ (¬ (gI (sI τ 21 (((gI τ 2 (x2).toNatClampNeg) / (2 : Int32))).toNatClampNeg (vp_nar .boolean (1 : Int32))) 1 (x2).toNatClampNeg) = 0 → L93 x1 (x2 + (1 : Int32)) (sI τ 21 (((gI τ 2 (x2).toNatClampNeg) / (2 : Int32))).toNatClampNeg (vp_nar .boolean (1 : Int32)))))))))))))))) ∧ (¬ x2 < (gI τ 0 5) → L83 (x1 + (1 : Int32)) τ)) → L93 x1 x2 τ) →
  (∀ (x1 : Int32) (x2 : Int32) (τ : Sg), ((x2 < (gI τ 0 5) → (vp_in x2 80 ∧ (((gI τ 21 (x2).toNatClampNeg) = 0 → L176 (x1 ||| (0 : Int32)) (x2 + (1 : Int32)) τ) ∧ (¬ (gI τ 21 (x2).toNatClampNeg) = 0 → (vp_in x2 80 ∧ (((gI τ 1 (x2).toNatClampNeg) = (1 : Int32) → (vp_in x2 80 ∧ L176 (x1 ||| ((1 : Int32) <<< ((gI τ 4 (x2).toNatClampNeg) &&& 31))) (x2 + (1 : Int32)) τ)) ∧ (¬ (gI τ 1 (x2).toNatClampNeg) = (1 : Int32) → (vp_in x2 80 ∧ (((gI τ 1 (x2).toNatClampNeg) = (2 : Int32) → (vp_in x2 80 ∧ L176 (x1 ||| ((1 : Int32) <<< ((gI τ 4 (x2).toNatClampNeg) &&& 31))) (x2 + (1 : Int32)) τ)) ∧ (¬ (gI τ 1 (x2).toNatClampNeg) = (2 : Int32) → L176 (x1 ||| (0 : Int32)) (x2 + (1 : Int32)) τ)))))))))) ∧ (¬ x2 < (gI τ 0 5) → Q x1 τ)) → L176 x1 x2 τ) →
  (((gI σ 0 9) < 0 → wp_X10_no (-2 : Int32) σ (fun r1 s2 => Q r1 s2)) ∧ (¬ (gI σ 0 9) < 0 → L16 (0 : Int32) σ))
def wl_X10_cone : WP := fun As σ Q => p1r As (fun z0 r0 => onB (Nat.beq z0 0) (onB r0.isEmpty (wp_X10_cone  σ (fun x τ => Q (some (.int x)) τ))))
def tb_X10_cone : List (Nat × Instr × Nat) := [(0, (.aload_n 0, 1)), (1, (.getfield 26, 3)), (4, (.ifCond .ge 14, 3)), (7, (.aload_n 0, 1)), (8, (.bipush (-2), 2)), (10, (.invokevirtual 118, 3)), (13, (.ireturn, 1)), (14, (.iconst 0, 1)), (15, (.istore_n 1, 1)), (16, (.iload_n 1, 1)), (17, (.aload_n 0, 1)), (18, (.getfield 112, 3)), (21, (.if_icmp .ge 51, 3)), (24, (.aload_n 0, 1)), (25, (.getfield 78, 3)), (28, (.iload_n 1, 1)), (29, (.iload_n 1, 1)), (30, (.aload_n 0, 1)), (31, (.getfield 26, 3)), (34, (.iconst 2, 1)), (35, (.idiv, 1)), (36, (.if_icmp .ne 43, 3)), (39, (.iconst 1, 1)), (40, (.goto 44, 3)), (43, (.iconst 0, 1)), (44, (.bastore, 1)), (45, (.iinc 1 1, 3)), (48, (.goto 16, 3)), (51, (.iconst 0, 1)), (52, (.istore_n 1, 1)), (53, (.iload_n 1, 1)), (54, (.aload_n 0, 1)), (55, (.getfield 137, 3)), (58, (.if_icmp .ge 81, 3)), (61, (.aload_n 0, 1)), (62, (.getfield 78, 3)), (65, (.aload_n 0, 1)), (66, (.getfield 30, 3)), (69, (.iload_n 1, 1)), (70, (.iaload, 1)), (71, (.iconst 2, 1)), (72, (.idiv, 1)), (73, (.iconst 1, 1)), (74, (.bastore, 1)), (75, (.iinc 1 1, 3)), (78, (.goto 53, 3)), (81, (.iconst 0, 1)), (82, (.istore_n 1, 1)), (83, (.iload_n 1, 1)), (84, (.aload_n 0, 1)), (85, (.getfield 112, 3)), (88, (.if_icmp .ge 172, 3)), (91, (.iconst 0, 1)), (92, (.istore_n 2, 1)), (93, (.iload_n 2, 1)), (94, (.aload_n 0, 1)), (95, (.getfield 112, 3)), (98, (.if_icmp .ge 166, 3)), (101, (.aload_n 0, 1)), (102, (.getfield 78, 3)), (105, (.iload_n 2, 1)), (106, (.baload, 1)), (107, (.ifCond .eq 160, 3)), (110, (.aload_n 0, 1)), (111, (.getfield 7, 3)), (114, (.iload_n 2, 1)), (115, (.iaload, 1)), (116, (.iconst 3, 1)), (117, (.if_icmp .ne 123, 3)), (120, (.goto 160, 3)), (123, (.aload_n 0, 1)), (124, (.getfield 78, 3)), (127, (.aload_n 0, 1)), (128, (.getfield 13, 3)), (131, (.iload_n 2, 1)), (132, (.iaload, 1)), (133, (.iconst 2, 1)), (134, (.idiv, 1)), (135, (.iconst 1, 1)), (136, (.bastore, 1)), (137, (.aload_n 0, 1)), (138, (.getfield 7, 3)), (141, (.iload_n 2, 1)), (142, (.iaload, 1)), (143, (.ifCond .ne 160, 3)), (146, (.aload_n 0, 1)), (147, (.getfield 78, 3)), (150, (.aload_n 0, 1)), (151, (.getfield 16, 3)), (154, (.iload_n 2, 1)), (155, (.iaload, 1)), (156, (.iconst 2, 1)), (157, (.idiv, 1)), (158, (.iconst 1, 1)), (159, (.bastore, 1)), (160, (.iinc 2 1, 3)), (163, (.goto 93, 3)), (166, (.iinc 1 1, 3)), (169, (.goto 83, 3)), (172, (.iconst 0, 1)), (173, (.istore_n 1, 1)), (174, (.iconst 0, 1)), (175, (.istore_n 2, 1)), (176, (.iload_n 2, 1)), (177, (.aload_n 0, 1)), (178, (.getfield 112, 3)), (181, (.if_icmp .ge 234, 3)), (184, (.iload_n 1, 1)), (185, (.aload_n 0, 1)), (186, (.getfield 78, 3)), (189, (.iload_n 2, 1)), (190, (.baload, 1)), (191, (.ifCond .eq 225, 3)), (194, (.aload_n 0, 1)), (195, (.getfield 7, 3)), (198, (.iload_n 2, 1)), (199, (.iaload, 1)), (200, (.iconst 1, 1)), (201, (.if_icmp .eq 214, 3)), (204, (.aload_n 0, 1)), (205, (.getfield 7, 3)), (208, (.iload_n 2, 1)), (209, (.iaload, 1)), (210, (.iconst 2, 1)), (211, (.if_icmp .ne 225, 3)), (214, (.iconst 1, 1)), (215, (.aload_n 0, 1)), (216, (.getfield 19, 3)), (219, (.iload_n 2, 1)), (220, (.iaload, 1)), (221, (.ishl, 1)), (222, (.goto 226, 3)), (225, (.iconst 0, 1)), (226, (.ior, 1)), (227, (.istore_n 1, 1)), (228, (.iinc 2 1, 3)), (231, (.goto 176, 3)), (234, (.iload_n 1, 1)), (235, (.ireturn, 1))]
def ce_X10_cone : List (Nat × (Nat × Option Nat × WP)) := [(118, (2, some 10, wl_X10_no))]
set_option maxRecDepth 100000 in
set_option maxHeartbeats 4000000 in
theorem ct_X10_cone (l : Launch) : Con l wM yX10_cone cX10_cone 3 (some .int) 1 wl_X10_cone := by
  refine sxm_ok l (ft := lkp ft_RX10) (c32 := lkp c32_RX10) (c64 := lkp c64_RX10) (ce := lkp ce_X10_cone) (sf := lkp sf_RX10) (lab := lkp [(16, [0, 1]), (53, [0, 1]), (83, [0, 1]), (93, [0, 1, 2]), (176, [0, 1, 2])]) (T := tb_X10_cone) (by decide +kernel) ft_RX10_ok c32_RX10_ok c64_RX10_ok (fun x q h => (show ∀ q ∈ ce_X10_cone, ceOK l wM RX10 1 q.1 q.2.1 q.2.2.1 q.2.2.2 from List.forall_mem_cons.mpr ⟨⟨yX10_no, cX10_no, 2, (some .int), 0, ct_X10_no l, by decide, by decide, mi_X10_no.1, mi_X10_no.2, ml_RX10_118, mv_X10_no.1, mv_X10_no.2, ⟨_, _, rfl⟩, by decide, by decide +kernel⟩, fun _ h => absurd h List.not_mem_nil⟩) (x, q) (lkp_mem h)) sf_RX10_ok (by decide +kernel) 400 (fun As σ Q h => ?_)
  replace h := p1r_e h
  obtain ⟨z0, q0, rfl, h⟩ := h
  replace h := onB_e h
  obtain ⟨e0, h⟩ := h
  have e0 := Nat.eq_of_beq_eq_true e0
  subst e0
  replace h := onB_e h
  obtain ⟨e9, h⟩ := h
  have e9 := List.isEmpty_iff.mp e9
  subst e9
  refine ⟨Nat.le_of_ble_eq_true rfl, fun P hP => ?_⟩
  exact h (fun x1 τ => P 16 [.ref 0, .int x1] τ) (fun x1 τ => P 53 [.ref 0, .int x1] τ) (fun x1 τ => P 83 [.ref 0, .int x1] τ) (fun x1 x2 τ => P 93 [.ref 0, .int x1, .int x2] τ) (fun x1 x2 τ => P 176 [.ref 0, .int x1, .int x2] τ) (fun x1 τ hb => hP 16 [.ref 0, .int x1] τ hb) (fun x1 τ hb => hP 53 [.ref 0, .int x1] τ hb) (fun x1 τ hb => hP 83 [.ref 0, .int x1] τ hb) (fun x1 x2 τ hb => hP 93 [.ref 0, .int x1, .int x2] τ hb) (fun x1 x2 τ hb => hP 176 [.ref 0, .int x1, .int x2] τ hb)
def wp_X10_fairAround (x1 : Int32) (σ : Sg) (Q : Int32 → Prop) : Prop :=
  ∀ L4 : Int32 → Int32 → Prop,
  ∀ L53 : Int32 → Int32 → Int32 → Prop,
  (∀ (x2 : Int32) (x3 : Int32), wp_X10_states σ (fun r1 => ((x3 < r1 → ((x3 = x1 → L53 x2 x3 (0 : Int32)) ∧ (¬ x3 = x1 → (vp_in (((256 : Int32) * x1) + x3) 65536 ∧ (((gI σ 22 ((((256 : Int32) * x1) + x3)).toNatClampNeg) = 0 → L4 x2 (x3 + (1 : Int32))) ∧ (¬ (gI σ 22 ((((256 : Int32) * x1) + x3)).toNatClampNeg) = 0 → (vp_in (((256 : Int32) * x3) + x1) 65536 ∧ (((gI σ 22 ((((256 : Int32) * x3) + x1)).toNatClampNeg) = 0 → L4 x2 (x3 + (1 : Int32))) ∧ (¬ (gI σ 22 ((((256 : Int32) * x3) + x1)).toNatClampNeg) = 0 → L53 x2 x3 (0 : Int32)))))))))) ∧ (¬ x3 < r1 → Q x2))) → L4 x2 x3) →
  (∀ (x2 : Int32) (x3 : Int32) (x4 : Int32), wp_X10_ways σ (fun r2 => ((x4 < r2 → (vp_in (((16 : Int32) * x3) + x4) 4096 ∧ (((gI σ 9 ((((16 : Int32) * x3) + x4)).toNatClampNeg) < 0 → L53 x2 x3 (x4 + (1 : Int32))) ∧ (¬ (gI σ 9 ((((16 : Int32) * x3) + x4)).toNatClampNeg) < 0 → (((gI σ 9 ((((16 : Int32) * x3) + x4)).toNatClampNeg) = x1 → (vp_in (((16 : Int32) * x3) + x4) 4096 ∧ L53 (x2 ||| (gI σ 10 ((((16 : Int32) * x3) + x4)).toNatClampNeg)) x3 (x4 + (1 : Int32)))) ∧ (¬ (gI σ 9 ((((16 : Int32) * x3) + x4)).toNatClampNeg) = x1 → (vp_in (((256 : Int32) * (gI σ 9 ((((16 : Int32) * x3) + x4)).toNatClampNeg)) + x1) 65536 ∧ (((gI σ 22 ((((256 : Int32) * (gI σ 9 ((((16 : Int32) * x3) + x4)).toNatClampNeg)) + x1)).toNatClampNeg) = 0 → L53 x2 x3 (x4 + (1 : Int32))) ∧ (¬ (gI σ 22 ((((256 : Int32) * (gI σ 9 ((((16 : Int32) * x3) + x4)).toNatClampNeg)) + x1)).toNatClampNeg) = 0 → (vp_in (((16 : Int32) * x3) + x4) 4096 ∧ L53 (x2 ||| (gI σ 10 ((((16 : Int32) * x3) + x4)).toNatClampNeg)) x3 (x4 + (1 : Int32)))))))))))) ∧ (¬ x4 < r2 → L4 x2 (x3 + (1 : Int32))))) → L53 x2 x3 x4) →
  L4 (0 : Int32) (0 : Int32)
def wl_X10_fairAround : WP := fun As σ Q => p1r As (fun z0 r0 => onB (Nat.beq z0 0) (p1i r0 (fun x1 r1 => onB r1.isEmpty (wp_X10_fairAround x1 σ (fun x => Q (some (.int x)) σ)))))
def tb_X10_fairAround : List (Nat × Instr × Nat) := [(0, (.iconst 0, 1)), (1, (.istore_n 2, 1)), (2, (.iconst 0, 1)), (3, (.istore_n 3, 1)), (4, (.iload_n 3, 1)), (5, (.aload_n 0, 1)), (6, (.invokevirtual 161, 3)), (9, (.if_icmp .ge 130, 3)), (12, (.iload_n 3, 1)), (13, (.iload_n 1, 1)), (14, (.if_icmp .eq 50, 3)), (17, (.aload_n 0, 1)), (18, (.getfield 82, 3)), (21, (.sipush 256, 3)), (24, (.iload_n 1, 1)), (25, (.imul, 1)), (26, (.iload_n 3, 1)), (27, (.iadd, 1)), (28, (.baload, 1)), (29, (.ifCond .eq 124, 3)), (32, (.aload_n 0, 1)), (33, (.getfield 82, 3)), (36, (.sipush 256, 3)), (39, (.iload_n 3, 1)), (40, (.imul, 1)), (41, (.iload_n 1, 1)), (42, (.iadd, 1)), (43, (.baload, 1)), (44, (.ifCond .ne 50, 3)), (47, (.goto 124, 3)), (50, (.iconst 0, 1)), (51, (.istore 4, 2)), (53, (.iload 4, 2)), (55, (.aload_n 0, 1)), (56, (.invokevirtual 165, 3)), (59, (.if_icmp .ge 124, 3)), (62, (.aload_n 0, 1)), (63, (.getfield 39, 3)), (66, (.bipush 16, 2)), (68, (.iload_n 3, 1)), (69, (.imul, 1)), (70, (.iload 4, 2)), (72, (.iadd, 1)), (73, (.iaload, 1)), (74, (.istore 5, 2)), (76, (.iload 5, 2)), (78, (.ifCond .lt 118, 3)), (81, (.iload 5, 2)), (83, (.iload_n 1, 1)), (84, (.if_icmp .eq 103, 3)), (87, (.aload_n 0, 1)), (88, (.getfield 82, 3)), (91, (.sipush 256, 3)), (94, (.iload 5, 2)), (96, (.imul, 1)), (97, (.iload_n 1, 1)), (98, (.iadd, 1)), (99, (.baload, 1)), (100, (.ifCond .eq 118, 3)), (103, (.iload_n 2, 1)), (104, (.aload_n 0, 1)), (105, (.getfield 42, 3)), (108, (.bipush 16, 2)), (110, (.iload_n 3, 1)), (111, (.imul, 1)), (112, (.iload 4, 2)), (114, (.iadd, 1)), (115, (.iaload, 1)), (116, (.ior, 1)), (117, (.istore_n 2, 1)), (118, (.iinc 4 1, 3)), (121, (.goto 53, 3)), (124, (.iinc 3 1, 3)), (127, (.goto 4, 3)), (130, (.iload_n 2, 1)), (131, (.ireturn, 1))]
def ce_X10_fairAround : List (Nat × (Nat × Option Nat × WP)) := [(161, (1, some 10, wl_X10_states)), (165, (1, some 10, wl_X10_ways))]
set_option maxRecDepth 100000 in
set_option maxHeartbeats 4000000 in
theorem ct_X10_fairAround (l : Launch) : Con l wM yX10_fairAround cX10_fairAround 6 (some .int) 1 wl_X10_fairAround := by
  refine sxm_ok l (ft := lkp ft_RX10) (c32 := lkp c32_RX10) (c64 := lkp c64_RX10) (ce := lkp ce_X10_fairAround) (sf := lkp sf_RX10) (lab := lkp [(4, [0, 1, 2, 3]), (53, [0, 1, 2, 3, 4])]) (T := tb_X10_fairAround) (by decide +kernel) ft_RX10_ok c32_RX10_ok c64_RX10_ok (fun x q h => (show ∀ q ∈ ce_X10_fairAround, ceOK l wM RX10 1 q.1 q.2.1 q.2.2.1 q.2.2.2 from List.forall_mem_cons.mpr ⟨⟨yX10_states, cX10_states, 1, (some .int), 0, ct_X10_states l, by decide, by decide, mi_X10_states.1, mi_X10_states.2, ml_RX10_161, mv_X10_states.1, mv_X10_states.2, ⟨_, _, rfl⟩, by decide, by decide +kernel⟩, List.forall_mem_cons.mpr ⟨⟨yX10_ways, cX10_ways, 1, (some .int), 0, ct_X10_ways l, by decide, by decide, mi_X10_ways.1, mi_X10_ways.2, ml_RX10_165, mv_X10_ways.1, mv_X10_ways.2, ⟨_, _, rfl⟩, by decide, by decide +kernel⟩, fun _ h => absurd h List.not_mem_nil⟩⟩) (x, q) (lkp_mem h)) sf_RX10_ok (by decide +kernel) 400 (fun As σ Q h => ?_)
  replace h := p1r_e h
  obtain ⟨z0, q0, rfl, h⟩ := h
  replace h := onB_e h
  obtain ⟨e0, h⟩ := h
  have e0 := Nat.eq_of_beq_eq_true e0
  subst e0
  replace h := p1i_e h
  obtain ⟨x1, q1, rfl, h⟩ := h
  replace h := onB_e h
  obtain ⟨e9, h⟩ := h
  have e9 := List.isEmpty_iff.mp e9
  subst e9
  refine ⟨Nat.le_of_ble_eq_true rfl, fun P hP => ?_⟩
  exact h (fun x2 x3 => P 4 [.ref 0, .int x1, .int x2, .int x3] σ) (fun x2 x3 x4 => P 53 [.ref 0, .int x1, .int x2, .int x3, .int x4] σ) (fun x2 x3 hb => hP 4 [.ref 0, .int x1, .int x2, .int x3] σ hb) (fun x2 x3 x4 hb => hP 53 [.ref 0, .int x1, .int x2, .int x3, .int x4] σ hb)
def wp_X10_take  (σ : Sg) (Q : Int32 → Sg → Prop) : Prop :=
  ∀ L40 : Int32 → Sg → Prop,
  (∀ (x1 : Int32) (τ : Sg), ((x1 < (gI τ 0 31) → (vp_in x1 200 ∧ (vp_in x1 100 ∧ (vp_in x1 200 ∧ (vp_in x1 100 ∧ L40 (x1 + (1 : Int32)) (sI (sI τ 23 (x1).toNatClampNeg (gI τ 17 (x1).toNatClampNeg)) 24 (x1).toNatClampNeg (gI (sI τ 23 (x1).toNatClampNeg (gI τ 17 (x1).toNatClampNeg)) 18 (x1).toNatClampNeg))))))) ∧ (¬ x1 < (gI τ 0 31) → Q (gI τ 0 39) τ)) → L40 x1 τ) →
  (((gI σ 0 31) < 0 → wp_X10_no (-2 : Int32) σ (fun r1 s2 => Q r1 s2)) ∧ (¬ (gI σ 0 31) < 0 → (((100 : Int32) < (gI σ 0 31) → wp_X10_no (-8 : Int32) σ (fun r3 s4 => Q r3 s4)) ∧ (¬ (100 : Int32) < (gI σ 0 31) → L40 (0 : Int32) (sI σ 0 39 (gI σ 0 31))))))
def wl_X10_take : WP := fun As σ Q => p1r As (fun z0 r0 => onB (Nat.beq z0 0) (onB r0.isEmpty (wp_X10_take  σ (fun x τ => Q (some (.int x)) τ))))
def tb_X10_take : List (Nat × Instr × Nat) := [(0, (.aload_n 0, 1)), (1, (.getfield 69, 3)), (4, (.ifCond .ge 14, 3)), (7, (.aload_n 0, 1)), (8, (.bipush (-2), 2)), (10, (.invokevirtual 118, 3)), (13, (.ireturn, 1)), (14, (.aload_n 0, 1)), (15, (.getfield 69, 3)), (18, (.bipush 100, 2)), (20, (.if_icmp .le 30, 3)), (23, (.aload_n 0, 1)), (24, (.bipush (-8), 2)), (26, (.invokevirtual 118, 3)), (29, (.ireturn, 1)), (30, (.aload_n 0, 1)), (31, (.aload_n 0, 1)), (32, (.getfield 69, 3)), (35, (.putfield 151, 3)), (38, (.iconst 0, 1)), (39, (.istore_n 1, 1)), (40, (.iload_n 1, 1)), (41, (.aload_n 0, 1)), (42, (.getfield 69, 3)), (45, (.if_icmp .ge 78, 3)), (48, (.aload_n 0, 1)), (49, (.getfield 85, 3)), (52, (.iload_n 1, 1)), (53, (.aload_n 0, 1)), (54, (.getfield 63, 3)), (57, (.iload_n 1, 1)), (58, (.iaload, 1)), (59, (.iastore, 1)), (60, (.aload_n 0, 1)), (61, (.getfield 88, 3)), (64, (.iload_n 1, 1)), (65, (.aload_n 0, 1)), (66, (.getfield 66, 3)), (69, (.iload_n 1, 1)), (70, (.iaload, 1)), (71, (.iastore, 1)), (72, (.iinc 1 1, 3)), (75, (.goto 40, 3)), (78, (.aload_n 0, 1)), (79, (.getfield 151, 3)), (82, (.ireturn, 1))]
def ce_X10_take : List (Nat × (Nat × Option Nat × WP)) := [(118, (2, some 10, wl_X10_no))]
set_option maxRecDepth 100000 in
set_option maxHeartbeats 4000000 in
theorem ct_X10_take (l : Launch) : Con l wM yX10_take cX10_take 2 (some .int) 1 wl_X10_take := by
  refine sxm_ok l (ft := lkp ft_RX10) (c32 := lkp c32_RX10) (c64 := lkp c64_RX10) (ce := lkp ce_X10_take) (sf := lkp sf_RX10) (lab := lkp [(40, [0, 1])]) (T := tb_X10_take) (by decide +kernel) ft_RX10_ok c32_RX10_ok c64_RX10_ok (fun x q h => (show ∀ q ∈ ce_X10_take, ceOK l wM RX10 1 q.1 q.2.1 q.2.2.1 q.2.2.2 from List.forall_mem_cons.mpr ⟨⟨yX10_no, cX10_no, 2, (some .int), 0, ct_X10_no l, by decide, by decide, mi_X10_no.1, mi_X10_no.2, ml_RX10_118, mv_X10_no.1, mv_X10_no.2, ⟨_, _, rfl⟩, by decide, by decide +kernel⟩, fun _ h => absurd h List.not_mem_nil⟩) (x, q) (lkp_mem h)) sf_RX10_ok (by decide +kernel) 400 (fun As σ Q h => ?_)
  replace h := p1r_e h
  obtain ⟨z0, q0, rfl, h⟩ := h
  replace h := onB_e h
  obtain ⟨e0, h⟩ := h
  have e0 := Nat.eq_of_beq_eq_true e0
  subst e0
  replace h := onB_e h
  obtain ⟨e9, h⟩ := h
  have e9 := List.isEmpty_iff.mp e9
  subst e9
  refine ⟨Nat.le_of_ble_eq_true rfl, fun P hP => ?_⟩
  exact h (fun x1 τ => P 40 [.ref 0, .int x1] τ) (fun x1 τ hb => hP 40 [.ref 0, .int x1] τ hb)
def wp_X10_forge (x1 : Int32) (x2 : Int32) (x3 : Int32) (σ : Sg) (Q : Int32 → Sg → Prop) : Prop :=
  wp_X10_isIn (x1).toInt64 (0 : Int64) (((gI σ 0 39) - (1 : Int32))).toInt64 σ (fun r1 => ((r1 = 0 → wp_X10_no (-3 : Int32) σ (fun r2 s3 => Q r2 s3)) ∧ (¬ r1 = 0 → wp_X10_isIn (x2).toInt64 (0 : Int64) (((gI σ 0 6) - (1 : Int32))).toInt64 σ (fun r4 => ((r4 = 0 → wp_X10_no (-3 : Int32) σ (fun r5 s6 => Q r5 s6)) ∧ (¬ r4 = 0 → (vp_in x1 100 ∧ (((((gI σ 23 (x1).toNatClampNeg) >>> (x2 &&& 31)) &&& (1 : Int32)) = (1 : Int32) → ((x3 = 0 → (((1 : Int32) = 0 → wp_X10_no (-7 : Int32) σ (fun r7 s8 => Q r7 s8)) ∧ (¬ (1 : Int32) = 0 → ((x3 = 0 → (vp_in x1 100 ∧ (vp_in x1 100 ∧ Q (1 : Int32) (sI σ 24 (x1).toNatClampNeg ((gI σ 24 (x1).toNatClampNeg) ^^^ ((1 : Int32) <<< (x2 &&& 31))))))) ∧ (¬ x3 = 0 → (vp_in x1 100 ∧ (vp_in x1 100 ∧ (vp_in x1 100 ∧ (vp_in x1 100 ∧ Q (1 : Int32) (sI (sI σ 23 (x1).toNatClampNeg ((gI σ 23 (x1).toNatClampNeg) ^^^ ((1 : Int32) <<< (x2 &&& 31)))) 24 (x1).toNatClampNeg ((gI (sI σ 23 (x1).toNatClampNeg ((gI σ 23 (x1).toNatClampNeg) ^^^ ((1 : Int32) <<< (x2 &&& 31)))) 24 (x1).toNatClampNeg) &&& (((1 : Int32) <<< (x2 &&& 31)) ^^^ (-1 : Int32))))))))))))) ∧ (¬ x3 = 0 → ((x3 = 0 → (vp_in x1 100 ∧ (vp_in x1 100 ∧ Q (1 : Int32) (sI σ 24 (x1).toNatClampNeg ((gI σ 24 (x1).toNatClampNeg) ^^^ ((1 : Int32) <<< (x2 &&& 31))))))) ∧ (¬ x3 = 0 → (vp_in x1 100 ∧ (vp_in x1 100 ∧ (vp_in x1 100 ∧ (vp_in x1 100 ∧ Q (1 : Int32) (sI (sI σ 23 (x1).toNatClampNeg ((gI σ 23 (x1).toNatClampNeg) ^^^ ((1 : Int32) <<< (x2 &&& 31)))) 24 (x1).toNatClampNeg ((gI (sI σ 23 (x1).toNatClampNeg ((gI σ 23 (x1).toNatClampNeg) ^^^ ((1 : Int32) <<< (x2 &&& 31)))) 24 (x1).toNatClampNeg) &&& (((1 : Int32) <<< (x2 &&& 31)) ^^^ (-1 : Int32))))))))))))) ∧ (¬ (((gI σ 23 (x1).toNatClampNeg) >>> (x2 &&& 31)) &&& (1 : Int32)) = (1 : Int32) → ((x3 = 0 → (((0 : Int32) = 0 → wp_X10_no (-7 : Int32) σ (fun r9 s10 => Q r9 s10)) ∧ (¬ (0 : Int32) = 0 → ((x3 = 0 → (vp_in x1 100 ∧ (vp_in x1 100 ∧ Q (1 : Int32) (sI σ 24 (x1).toNatClampNeg ((gI σ 24 (x1).toNatClampNeg) ^^^ ((1 : Int32) <<< (x2 &&& 31))))))) ∧ (¬ x3 = 0 → (vp_in x1 100 ∧ (vp_in x1 100 ∧ (vp_in x1 100 ∧ (vp_in x1 100 ∧ Q (1 : Int32) (sI (sI σ 23 (x1).toNatClampNeg ((gI σ 23 (x1).toNatClampNeg) ^^^ ((1 : Int32) <<< (x2 &&& 31)))) 24 (x1).toNatClampNeg ((gI (sI σ 23 (x1).toNatClampNeg ((gI σ 23 (x1).toNatClampNeg) ^^^ ((1 : Int32) <<< (x2 &&& 31)))) 24 (x1).toNatClampNeg) &&& (((1 : Int32) <<< (x2 &&& 31)) ^^^ (-1 : Int32))))))))))))) ∧ (¬ x3 = 0 → ((x3 = 0 → (vp_in x1 100 ∧ (vp_in x1 100 ∧ Q (1 : Int32) (sI σ 24 (x1).toNatClampNeg ((gI σ 24 (x1).toNatClampNeg) ^^^ ((1 : Int32) <<< (x2 &&& 31))))))) ∧ (¬ x3 = 0 → (vp_in x1 100 ∧ (vp_in x1 100 ∧ (vp_in x1 100 ∧ (vp_in x1 100 ∧ Q (1 : Int32) (sI (sI σ 23 (x1).toNatClampNeg ((gI σ 23 (x1).toNatClampNeg) ^^^ ((1 : Int32) <<< (x2 &&& 31)))) 24 (x1).toNatClampNeg ((gI (sI σ 23 (x1).toNatClampNeg ((gI σ 23 (x1).toNatClampNeg) ^^^ ((1 : Int32) <<< (x2 &&& 31)))) 24 (x1).toNatClampNeg) &&& (((1 : Int32) <<< (x2 &&& 31)) ^^^ (-1 : Int32)))))))))))))))))))))
def wl_X10_forge : WP := fun As σ Q => p1r As (fun z0 r0 => onB (Nat.beq z0 0) (p1i r0 (fun x1 r1 => p1i r1 (fun x2 r2 => p1i r2 (fun x3 r3 => onB r3.isEmpty (wp_X10_forge x1 x2 x3 σ (fun x τ => Q (some (.int x)) τ)))))))
def tb_X10_forge : List (Nat × Instr × Nat) := [(0, (.iload_n 1, 1)), (1, (.i2l, 1)), (2, (.lconst 0, 1)), (3, (.aload_n 0, 1)), (4, (.getfield 151, 3)), (7, (.iconst 1, 1)), (8, (.isub, 1)), (9, (.i2l, 1)), (10, (.invokestatic 133, 3)), (13, (.ifCond .eq 32, 3)), (16, (.iload_n 2, 1)), (17, (.i2l, 1)), (18, (.lconst 0, 1)), (19, (.aload_n 0, 1)), (20, (.getfield 106, 3)), (23, (.iconst 1, 1)), (24, (.isub, 1)), (25, (.i2l, 1)), (26, (.invokestatic 133, 3)), (29, (.ifCond .ne 39, 3)), (32, (.aload_n 0, 1)), (33, (.bipush (-3), 2)), (35, (.invokevirtual 118, 3)), (38, (.ireturn, 1)), (39, (.aload_n 0, 1)), (40, (.getfield 85, 3)), (43, (.iload_n 1, 1)), (44, (.iaload, 1)), (45, (.iload_n 2, 1)), (46, (.ishr, 1)), (47, (.iconst 1, 1)), (48, (.iand, 1)), (49, (.iconst 1, 1)), (50, (.if_icmp .ne 57, 3)), (53, (.iconst 1, 1)), (54, (.goto 58, 3)), (57, (.iconst 0, 1)), (58, (.istore 4, 2)), (60, (.iload_n 3, 1)), (61, (.ifCond .ne 76, 3)), (64, (.iload 4, 2)), (66, (.ifCond .ne 76, 3)), (69, (.aload_n 0, 1)), (70, (.bipush (-7), 2)), (72, (.invokevirtual 118, 3)), (75, (.ireturn, 1)), (76, (.iload_n 3, 1)), (77, (.ifCond .eq 109, 3)), (80, (.aload_n 0, 1)), (81, (.getfield 85, 3)), (84, (.iload_n 1, 1)), (85, (.dup2, 1)), (86, (.iaload, 1)), (87, (.iconst 1, 1)), (88, (.iload_n 2, 1)), (89, (.ishl, 1)), (90, (.ixor, 1)), (91, (.iastore, 1)), (92, (.aload_n 0, 1)), (93, (.getfield 88, 3)), (96, (.iload_n 1, 1)), (97, (.dup2, 1)), (98, (.iaload, 1)), (99, (.iconst 1, 1)), (100, (.iload_n 2, 1)), (101, (.ishl, 1)), (102, (.iconst (-1), 1)), (103, (.ixor, 1)), (104, (.iand, 1)), (105, (.iastore, 1)), (106, (.goto 121, 3)), (109, (.aload_n 0, 1)), (110, (.getfield 88, 3)), (113, (.iload_n 1, 1)), (114, (.dup2, 1)), (115, (.iaload, 1)), (116, (.iconst 1, 1)), (117, (.iload_n 2, 1)), (118, (.ishl, 1)), (119, (.ixor, 1)), (120, (.iastore, 1)), (121, (.iconst 1, 1)), (122, (.ireturn, 1))]
def ce_X10_forge : List (Nat × (Nat × Option Nat × WP)) := [(133, (3, none, wl_X10_isIn)), (118, (2, some 10, wl_X10_no))]
set_option maxRecDepth 100000 in
set_option maxHeartbeats 4000000 in
theorem ct_X10_forge (l : Launch) : Con l wM yX10_forge cX10_forge 5 (some .int) 1 wl_X10_forge := by
  refine sxm_ok l (ft := lkp ft_RX10) (c32 := lkp c32_RX10) (c64 := lkp c64_RX10) (ce := lkp ce_X10_forge) (sf := lkp sf_RX10) (lab := lkp []) (T := tb_X10_forge) (by decide +kernel) ft_RX10_ok c32_RX10_ok c64_RX10_ok (fun x q h => (show ∀ q ∈ ce_X10_forge, ceOK l wM RX10 1 q.1 q.2.1 q.2.2.1 q.2.2.2 from List.forall_mem_cons.mpr ⟨⟨yX10_isIn, cX10_isIn, 6, (some .boolean), 0, ct_X10_isIn l, by decide, by decide, mi_X10_isIn.1, mi_X10_isIn.2, Or.inl ml_RX10_133, ms_X10_isIn, by decide +kernel⟩, List.forall_mem_cons.mpr ⟨⟨yX10_no, cX10_no, 2, (some .int), 0, ct_X10_no l, by decide, by decide, mi_X10_no.1, mi_X10_no.2, ml_RX10_118, mv_X10_no.1, mv_X10_no.2, ⟨_, _, rfl⟩, by decide, by decide +kernel⟩, fun _ h => absurd h List.not_mem_nil⟩⟩) (x, q) (lkp_mem h)) sf_RX10_ok (by decide +kernel) 400 (fun As σ Q h => ?_)
  replace h := p1r_e h
  obtain ⟨z0, q0, rfl, h⟩ := h
  replace h := onB_e h
  obtain ⟨e0, h⟩ := h
  have e0 := Nat.eq_of_beq_eq_true e0
  subst e0
  replace h := p1i_e h
  obtain ⟨x1, q1, rfl, h⟩ := h
  replace h := p1i_e h
  obtain ⟨x2, q2, rfl, h⟩ := h
  replace h := p1i_e h
  obtain ⟨x3, q3, rfl, h⟩ := h
  replace h := onB_e h
  obtain ⟨e9, h⟩ := h
  have e9 := List.isEmpty_iff.mp e9
  subst e9
  refine ⟨Nat.le_of_ble_eq_true rfl, fun P hP => ?_⟩
  exact h 
def wp_X10_isLeft (x1 : Int32) (x2 : Int32) (σ : Sg) (Q : Int32 → Prop) : Prop :=
  ∀ L2 : Int32 → Prop,
  (∀ (x3 : Int32), ((x3 < (gI σ 0 39) → ((x3 = x2 → L2 (x3 + (1 : Int32))) ∧ (¬ x3 = x2 → (vp_in x3 100 ∧ (vp_in x3 100 ∧ wp_X10_isInCube x1 (gI σ 23 (x3).toNatClampNeg) (gI σ 24 (x3).toNatClampNeg) σ (fun r1 => ((r1 = 0 → L2 (x3 + (1 : Int32))) ∧ (¬ r1 = 0 → (nz (0 : Int32) ∧ Q (0 : Int32)))))))))) ∧ (¬ x3 < (gI σ 0 39) → (nz (1 : Int32) ∧ Q (1 : Int32)))) → L2 x3) →
  L2 (0 : Int32)
def wl_X10_isLeft : WP := fun As σ Q => p1r As (fun z0 r0 => onB (Nat.beq z0 0) (p1i r0 (fun x1 r1 => p1i r1 (fun x2 r2 => onB r2.isEmpty (wp_X10_isLeft x1 x2 σ (fun x => Q (some (.int x)) σ))))))
def tb_X10_isLeft : List (Nat × Instr × Nat) := [(0, (.iconst 0, 1)), (1, (.istore_n 3, 1)), (2, (.iload_n 3, 1)), (3, (.aload_n 0, 1)), (4, (.getfield 151, 3)), (7, (.if_icmp .ge 42, 3)), (10, (.iload_n 3, 1)), (11, (.iload_n 2, 1)), (12, (.if_icmp .eq 36, 3)), (15, (.iload_n 1, 1)), (16, (.aload_n 0, 1)), (17, (.getfield 85, 3)), (20, (.iload_n 3, 1)), (21, (.iaload, 1)), (22, (.aload_n 0, 1)), (23, (.getfield 88, 3)), (26, (.iload_n 3, 1)), (27, (.iaload, 1)), (28, (.invokestatic 200, 3)), (31, (.ifCond .eq 36, 3)), (34, (.iconst 0, 1)), (35, (.ireturn, 1)), (36, (.iinc 3 1, 3)), (39, (.goto 2, 3)), (42, (.iconst 1, 1)), (43, (.ireturn, 1))]
def ce_X10_isLeft : List (Nat × (Nat × Option Nat × WP)) := [(200, (3, none, wl_X10_isInCube))]
set_option maxRecDepth 100000 in
set_option maxHeartbeats 4000000 in
theorem ct_X10_isLeft (l : Launch) : Con l wM yX10_isLeft cX10_isLeft 4 (some .boolean) 1 wl_X10_isLeft := by
  refine sxm_ok l (ft := lkp ft_RX10) (c32 := lkp c32_RX10) (c64 := lkp c64_RX10) (ce := lkp ce_X10_isLeft) (sf := lkp sf_RX10) (lab := lkp [(2, [0, 1, 2, 3])]) (T := tb_X10_isLeft) (by decide +kernel) ft_RX10_ok c32_RX10_ok c64_RX10_ok (fun x q h => (show ∀ q ∈ ce_X10_isLeft, ceOK l wM RX10 1 q.1 q.2.1 q.2.2.1 q.2.2.2 from List.forall_mem_cons.mpr ⟨⟨yX10_isInCube, cX10_isInCube, 3, (some .boolean), 0, ct_X10_isInCube l, by decide, by decide, mi_X10_isInCube.1, mi_X10_isInCube.2, Or.inl ml_RX10_200, ms_X10_isInCube, by decide +kernel⟩, fun _ h => absurd h List.not_mem_nil⟩) (x, q) (lkp_mem h)) sf_RX10_ok (by decide +kernel) 400 (fun As σ Q h => ?_)
  replace h := p1r_e h
  obtain ⟨z0, q0, rfl, h⟩ := h
  replace h := onB_e h
  obtain ⟨e0, h⟩ := h
  have e0 := Nat.eq_of_beq_eq_true e0
  subst e0
  replace h := p1i_e h
  obtain ⟨x1, q1, rfl, h⟩ := h
  replace h := p1i_e h
  obtain ⟨x2, q2, rfl, h⟩ := h
  replace h := onB_e h
  obtain ⟨e9, h⟩ := h
  have e9 := List.isEmpty_iff.mp e9
  subst e9
  refine ⟨Nat.le_of_ble_eq_true rfl, fun P hP => ?_⟩
  exact h (fun x3 => P 2 [.ref 0, .int x1, .int x2, .int x3] σ) (fun x3 hb => hP 2 [.ref 0, .int x1, .int x2, .int x3] σ hb)
def wp_X10_fails (x1 : Int32) (σ : Sg) (Q : Int32 → Sg → Prop) : Prop :=
  wp_X10_isIn (x1).toInt64 (0 : Int64) (1 : Int64) σ (fun r1 => ((r1 = 0 → wp_X10_no (-7 : Int32) σ (fun r2 s3 => Q r2 s3)) ∧ (¬ r1 = 0 → ((x1 = 0 → Q (gI σ 0 40) σ) ∧ (¬ x1 = 0 → Q (gI σ 0 41) σ)))))
def wl_X10_fails : WP := fun As σ Q => p1r As (fun z0 r0 => onB (Nat.beq z0 0) (p1i r0 (fun x1 r1 => onB r1.isEmpty (wp_X10_fails x1 σ (fun x τ => Q (some (.int x)) τ)))))
def tb_X10_fails : List (Nat × Instr × Nat) := [(0, (.iload_n 1, 1)), (1, (.i2l, 1)), (2, (.lconst 0, 1)), (3, (.lconst 1, 1)), (4, (.invokestatic 133, 3)), (7, (.ifCond .ne 17, 3)), (10, (.aload_n 0, 1)), (11, (.bipush (-7), 2)), (13, (.invokevirtual 118, 3)), (16, (.ireturn, 1)), (17, (.iload_n 1, 1)), (18, (.ifCond .ne 28, 3)), (21, (.aload_n 0, 1)), (22, (.getfield 91, 3)), (25, (.goto 32, 3)), (28, (.aload_n 0, 1)), (29, (.getfield 94, 3)), (32, (.ireturn, 1))]
def ce_X10_fails : List (Nat × (Nat × Option Nat × WP)) := [(133, (3, none, wl_X10_isIn)), (118, (2, some 10, wl_X10_no))]
set_option maxRecDepth 100000 in
set_option maxHeartbeats 4000000 in
theorem ct_X10_fails (l : Launch) : Con l wM yX10_fails cX10_fails 2 (some .int) 1 wl_X10_fails := by
  refine sxm_ok l (ft := lkp ft_RX10) (c32 := lkp c32_RX10) (c64 := lkp c64_RX10) (ce := lkp ce_X10_fails) (sf := lkp sf_RX10) (lab := lkp []) (T := tb_X10_fails) (by decide +kernel) ft_RX10_ok c32_RX10_ok c64_RX10_ok (fun x q h => (show ∀ q ∈ ce_X10_fails, ceOK l wM RX10 1 q.1 q.2.1 q.2.2.1 q.2.2.2 from List.forall_mem_cons.mpr ⟨⟨yX10_isIn, cX10_isIn, 6, (some .boolean), 0, ct_X10_isIn l, by decide, by decide, mi_X10_isIn.1, mi_X10_isIn.2, Or.inl ml_RX10_133, ms_X10_isIn, by decide +kernel⟩, List.forall_mem_cons.mpr ⟨⟨yX10_no, cX10_no, 2, (some .int), 0, ct_X10_no l, by decide, by decide, mi_X10_no.1, mi_X10_no.2, ml_RX10_118, mv_X10_no.1, mv_X10_no.2, ⟨_, _, rfl⟩, by decide, by decide +kernel⟩, fun _ h => absurd h List.not_mem_nil⟩⟩) (x, q) (lkp_mem h)) sf_RX10_ok (by decide +kernel) 400 (fun As σ Q h => ?_)
  replace h := p1r_e h
  obtain ⟨z0, q0, rfl, h⟩ := h
  replace h := onB_e h
  obtain ⟨e0, h⟩ := h
  have e0 := Nat.eq_of_beq_eq_true e0
  subst e0
  replace h := p1i_e h
  obtain ⟨x1, q1, rfl, h⟩ := h
  replace h := onB_e h
  obtain ⟨e9, h⟩ := h
  have e9 := List.isEmpty_iff.mp e9
  subst e9
  refine ⟨Nat.le_of_ble_eq_true rfl, fun P hP => ?_⟩
  exact h 
def wp_X10_listed (x1 : Int32) (x2 : Int32) (σ : Sg) (Q : Int32 → Sg → Prop) : Prop :=
  wp_X10_isIn (x1).toInt64 (0 : Int64) (((gI σ 0 39) - (1 : Int32))).toInt64 σ (fun r1 => ((r1 = 0 → wp_X10_no (-3 : Int32) σ (fun r2 s3 => Q r2 s3)) ∧ (¬ r1 = 0 → ((x2 = 0 → (vp_in x1 100 ∧ Q (gI σ 23 (x1).toNatClampNeg) σ)) ∧ (¬ x2 = 0 → (vp_in x1 100 ∧ Q (gI σ 24 (x1).toNatClampNeg) σ))))))
def wl_X10_listed : WP := fun As σ Q => p1r As (fun z0 r0 => onB (Nat.beq z0 0) (p1i r0 (fun x1 r1 => p1i r1 (fun x2 r2 => onB r2.isEmpty (wp_X10_listed x1 x2 σ (fun x τ => Q (some (.int x)) τ))))))
def tb_X10_listed : List (Nat × Instr × Nat) := [(0, (.iload_n 1, 1)), (1, (.i2l, 1)), (2, (.lconst 0, 1)), (3, (.aload_n 0, 1)), (4, (.getfield 151, 3)), (7, (.iconst 1, 1)), (8, (.isub, 1)), (9, (.i2l, 1)), (10, (.invokestatic 133, 3)), (13, (.ifCond .ne 23, 3)), (16, (.aload_n 0, 1)), (17, (.bipush (-3), 2)), (19, (.invokevirtual 118, 3)), (22, (.ireturn, 1)), (23, (.iload_n 2, 1)), (24, (.ifCond .eq 36, 3)), (27, (.aload_n 0, 1)), (28, (.getfield 88, 3)), (31, (.iload_n 1, 1)), (32, (.iaload, 1)), (33, (.goto 42, 3)), (36, (.aload_n 0, 1)), (37, (.getfield 85, 3)), (40, (.iload_n 1, 1)), (41, (.iaload, 1)), (42, (.ireturn, 1))]
def ce_X10_listed : List (Nat × (Nat × Option Nat × WP)) := [(133, (3, none, wl_X10_isIn)), (118, (2, some 10, wl_X10_no))]
set_option maxRecDepth 100000 in
set_option maxHeartbeats 4000000 in
theorem ct_X10_listed (l : Launch) : Con l wM yX10_listed cX10_listed 3 (some .int) 1 wl_X10_listed := by
  refine sxm_ok l (ft := lkp ft_RX10) (c32 := lkp c32_RX10) (c64 := lkp c64_RX10) (ce := lkp ce_X10_listed) (sf := lkp sf_RX10) (lab := lkp []) (T := tb_X10_listed) (by decide +kernel) ft_RX10_ok c32_RX10_ok c64_RX10_ok (fun x q h => (show ∀ q ∈ ce_X10_listed, ceOK l wM RX10 1 q.1 q.2.1 q.2.2.1 q.2.2.2 from List.forall_mem_cons.mpr ⟨⟨yX10_isIn, cX10_isIn, 6, (some .boolean), 0, ct_X10_isIn l, by decide, by decide, mi_X10_isIn.1, mi_X10_isIn.2, Or.inl ml_RX10_133, ms_X10_isIn, by decide +kernel⟩, List.forall_mem_cons.mpr ⟨⟨yX10_no, cX10_no, 2, (some .int), 0, ct_X10_no l, by decide, by decide, mi_X10_no.1, mi_X10_no.2, ml_RX10_118, mv_X10_no.1, mv_X10_no.2, ⟨_, _, rfl⟩, by decide, by decide +kernel⟩, fun _ h => absurd h List.not_mem_nil⟩⟩) (x, q) (lkp_mem h)) sf_RX10_ok (by decide +kernel) 400 (fun As σ Q h => ?_)
  replace h := p1r_e h
  obtain ⟨z0, q0, rfl, h⟩ := h
  replace h := onB_e h
  obtain ⟨e0, h⟩ := h
  have e0 := Nat.eq_of_beq_eq_true e0
  subst e0
  replace h := p1i_e h
  obtain ⟨x1, q1, rfl, h⟩ := h
  replace h := p1i_e h
  obtain ⟨x2, q2, rfl, h⟩ := h
  replace h := onB_e h
  obtain ⟨e9, h⟩ := h
  have e9 := List.isEmpty_iff.mp e9
  subst e9
  refine ⟨Nat.le_of_ble_eq_true rfl, fun P hP => ?_⟩
  exact h 
def wp_X10_row (x1 : Int32) (σ : Sg) (Q : Int32 → Sg → Prop) : Prop :=
  (((gI σ 0 46) < 0 → wp_X10_no (-2 : Int32) σ (fun r1 s2 => Q r1 s2)) ∧ (¬ (gI σ 0 46) < 0 → wp_X10_isIn (x1).toInt64 (0 : Int64) (((gI σ 0 46) - (1 : Int32))).toInt64 σ (fun r3 => ((r3 = 0 → wp_X10_no (-3 : Int32) σ (fun r4 s5 => Q r4 s5)) ∧ (¬ r3 = 0 → (vp_in x1 80 ∧ Q (gI σ 25 (x1).toNatClampNeg) σ))))))
def wl_X10_row : WP := fun As σ Q => p1r As (fun z0 r0 => onB (Nat.beq z0 0) (p1i r0 (fun x1 r1 => onB r1.isEmpty (wp_X10_row x1 σ (fun x τ => Q (some (.int x)) τ)))))
def tb_X10_row : List (Nat × Instr × Nat) := [(0, (.aload_n 0, 1)), (1, (.getfield 103, 3)), (4, (.ifCond .ge 14, 3)), (7, (.aload_n 0, 1)), (8, (.bipush (-2), 2)), (10, (.invokevirtual 118, 3)), (13, (.ireturn, 1)), (14, (.iload_n 1, 1)), (15, (.i2l, 1)), (16, (.lconst 0, 1)), (17, (.aload_n 0, 1)), (18, (.getfield 103, 3)), (21, (.iconst 1, 1)), (22, (.isub, 1)), (23, (.i2l, 1)), (24, (.invokestatic 133, 3)), (27, (.ifCond .eq 39, 3)), (30, (.aload_n 0, 1)), (31, (.getfield 97, 3)), (34, (.iload_n 1, 1)), (35, (.iaload, 1)), (36, (.goto 45, 3)), (39, (.aload_n 0, 1)), (40, (.bipush (-3), 2)), (42, (.invokevirtual 118, 3)), (45, (.ireturn, 1))]
def ce_X10_row : List (Nat × (Nat × Option Nat × WP)) := [(118, (2, some 10, wl_X10_no)), (133, (3, none, wl_X10_isIn))]
set_option maxRecDepth 100000 in
set_option maxHeartbeats 4000000 in
theorem ct_X10_row (l : Launch) : Con l wM yX10_row cX10_row 2 (some .int) 1 wl_X10_row := by
  refine sxm_ok l (ft := lkp ft_RX10) (c32 := lkp c32_RX10) (c64 := lkp c64_RX10) (ce := lkp ce_X10_row) (sf := lkp sf_RX10) (lab := lkp []) (T := tb_X10_row) (by decide +kernel) ft_RX10_ok c32_RX10_ok c64_RX10_ok (fun x q h => (show ∀ q ∈ ce_X10_row, ceOK l wM RX10 1 q.1 q.2.1 q.2.2.1 q.2.2.2 from List.forall_mem_cons.mpr ⟨⟨yX10_no, cX10_no, 2, (some .int), 0, ct_X10_no l, by decide, by decide, mi_X10_no.1, mi_X10_no.2, ml_RX10_118, mv_X10_no.1, mv_X10_no.2, ⟨_, _, rfl⟩, by decide, by decide +kernel⟩, List.forall_mem_cons.mpr ⟨⟨yX10_isIn, cX10_isIn, 6, (some .boolean), 0, ct_X10_isIn l, by decide, by decide, mi_X10_isIn.1, mi_X10_isIn.2, Or.inl ml_RX10_133, ms_X10_isIn, by decide +kernel⟩, fun _ h => absurd h List.not_mem_nil⟩⟩) (x, q) (lkp_mem h)) sf_RX10_ok (by decide +kernel) 400 (fun As σ Q h => ?_)
  replace h := p1r_e h
  obtain ⟨z0, q0, rfl, h⟩ := h
  replace h := onB_e h
  obtain ⟨e0, h⟩ := h
  have e0 := Nat.eq_of_beq_eq_true e0
  subst e0
  replace h := p1i_e h
  obtain ⟨x1, q1, rfl, h⟩ := h
  replace h := onB_e h
  obtain ⟨e9, h⟩ := h
  have e9 := List.isEmpty_iff.mp e9
  subst e9
  refine ⟨Nat.le_of_ble_eq_true rfl, fun P hP => ?_⟩
  exact h 
def wp_X10_copy (x1 : Int32) (x2 : Int32) (x3 : Int32) (σ : Sg) (Q : Int32 → Sg → Prop) : Prop :=
  ∀ L71 : Int32 → Sg → Prop,
  ∀ L102 : Int32 → Sg → Prop,
  (∀ (x4 : Int32) (τ : Sg), ((x4 < x3 → (vp_in (x1 + x4) 80 ∧ (vp_in x4 80 ∧ L71 (x4 + (1 : Int32)) (sI τ 26 (x4).toNatClampNeg (gI τ 25 ((x1 + x4)).toNatClampNeg))))) ∧ (¬ x4 < x3 → L102 (0 : Int32) τ)) → L71 x4 τ) →
  (∀ (x4 : Int32) (τ : Sg), ((x4 < x3 → (vp_in x4 80 ∧ (vp_in (x2 + x4) 80 ∧ L102 (x4 + (1 : Int32)) (sI τ 25 ((x2 + x4)).toNatClampNeg (gI τ 26 (x4).toNatClampNeg))))) ∧ (¬ x4 < x3 → Q x3 τ)) → L102 x4 τ) →
  (((gI σ 0 46) < 0 → wp_X10_no (-2 : Int32) σ (fun r1 s2 => Q r1 s2)) ∧ (¬ (gI σ 0 46) < 0 → ((x3 < 0 → wp_X10_no (-4 : Int32) σ (fun r3 s4 => Q r3 s4)) ∧ (¬ x3 < 0 → ((x1 < 0 → wp_X10_no (-6 : Int32) σ (fun r5 s6 => Q r5 s6)) ∧ (¬ x1 < 0 → ((x2 < 0 → wp_X10_no (-6 : Int32) σ (fun r7 s8 => Q r7 s8)) ∧ (¬ x2 < 0 → ((0 < (lg_cmp ((x1).toInt64 + (x3).toInt64) ((gI σ 0 46)).toInt64) → wp_X10_no (-6 : Int32) σ (fun r9 s10 => Q r9 s10)) ∧ (¬ 0 < (lg_cmp ((x1).toInt64 + (x3).toInt64) ((gI σ 0 46)).toInt64) → ((0 < (lg_cmp ((x2).toInt64 + (x3).toInt64) ((gI σ 0 46)).toInt64) → wp_X10_no (-6 : Int32) σ (fun r11 s12 => Q r11 s12)) ∧ (¬ 0 < (lg_cmp ((x2).toInt64 + (x3).toInt64) ((gI σ 0 46)).toInt64) → L71 (0 : Int32) σ))))))))))))
def wl_X10_copy : WP := fun As σ Q => p1r As (fun z0 r0 => onB (Nat.beq z0 0) (p1i r0 (fun x1 r1 => p1i r1 (fun x2 r2 => p1i r2 (fun x3 r3 => onB r3.isEmpty (wp_X10_copy x1 x2 x3 σ (fun x τ => Q (some (.int x)) τ)))))))
def tb_X10_copy : List (Nat × Instr × Nat) := [(0, (.aload_n 0, 1)), (1, (.getfield 103, 3)), (4, (.ifCond .ge 14, 3)), (7, (.aload_n 0, 1)), (8, (.bipush (-2), 2)), (10, (.invokevirtual 118, 3)), (13, (.ireturn, 1)), (14, (.iload_n 3, 1)), (15, (.ifCond .ge 25, 3)), (18, (.aload_n 0, 1)), (19, (.bipush (-4), 2)), (21, (.invokevirtual 118, 3)), (24, (.ireturn, 1)), (25, (.iload_n 1, 1)), (26, (.ifCond .lt 61, 3)), (29, (.iload_n 2, 1)), (30, (.ifCond .lt 61, 3)), (33, (.iload_n 1, 1)), (34, (.i2l, 1)), (35, (.iload_n 3, 1)), (36, (.i2l, 1)), (37, (.ladd, 1)), (38, (.aload_n 0, 1)), (39, (.getfield 103, 3)), (42, (.i2l, 1)), (43, (.lcmp, 1)), (44, (.ifCond .gt 61, 3)), (47, (.iload_n 2, 1)), (48, (.i2l, 1)), (49, (.iload_n 3, 1)), (50, (.i2l, 1)), (51, (.ladd, 1)), (52, (.aload_n 0, 1)), (53, (.getfield 103, 3)), (56, (.i2l, 1)), (57, (.lcmp, 1)), (58, (.ifCond .le 68, 3)), (61, (.aload_n 0, 1)), (62, (.bipush (-6), 2)), (64, (.invokevirtual 118, 3)), (67, (.ireturn, 1)), (68, (.iconst 0, 1)), (69, (.istore 4, 2)), (71, (.iload 4, 2)), (73, (.iload_n 3, 1)), (74, (.if_icmp .ge 99, 3)), (77, (.aload_n 0, 1)), (78, (.getfield 100, 3)), (81, (.iload 4, 2)), (83, (.aload_n 0, 1)), (84, (.getfield 97, 3)), (87, (.iload_n 1, 1)), (88, (.iload 4, 2)), (90, (.iadd, 1)), (91, (.iaload, 1)), (92, (.iastore, 1)), (93, (.iinc 4 1, 3)), (96, (.goto 71, 3)), (99, (.iconst 0, 1)), (100, (.istore 4, 2)), (102, (.iload 4, 2)), (104, (.iload_n 3, 1)), (105, (.if_icmp .ge 130, 3)), (108, (.aload_n 0, 1)), (109, (.getfield 97, 3)), (112, (.iload_n 2, 1)), (113, (.iload 4, 2)), (115, (.iadd, 1)), (116, (.aload_n 0, 1)), (117, (.getfield 100, 3)), (120, (.iload 4, 2)), (122, (.iaload, 1)), (123, (.iastore, 1)), (124, (.iinc 4 1, 3)), (127, (.goto 102, 3)), (130, (.iload_n 3, 1)), (131, (.ireturn, 1))]
def ce_X10_copy : List (Nat × (Nat × Option Nat × WP)) := [(118, (2, some 10, wl_X10_no))]
set_option maxRecDepth 100000 in
set_option maxHeartbeats 4000000 in
theorem ct_X10_copy (l : Launch) : Con l wM yX10_copy cX10_copy 5 (some .int) 1 wl_X10_copy := by
  refine sxm_ok l (ft := lkp ft_RX10) (c32 := lkp c32_RX10) (c64 := lkp c64_RX10) (ce := lkp ce_X10_copy) (sf := lkp sf_RX10) (lab := lkp [(71, [0, 1, 2, 3, 4]), (102, [0, 2, 3, 4])]) (T := tb_X10_copy) (by decide +kernel) ft_RX10_ok c32_RX10_ok c64_RX10_ok (fun x q h => (show ∀ q ∈ ce_X10_copy, ceOK l wM RX10 1 q.1 q.2.1 q.2.2.1 q.2.2.2 from List.forall_mem_cons.mpr ⟨⟨yX10_no, cX10_no, 2, (some .int), 0, ct_X10_no l, by decide, by decide, mi_X10_no.1, mi_X10_no.2, ml_RX10_118, mv_X10_no.1, mv_X10_no.2, ⟨_, _, rfl⟩, by decide, by decide +kernel⟩, fun _ h => absurd h List.not_mem_nil⟩) (x, q) (lkp_mem h)) sf_RX10_ok (by decide +kernel) 400 (fun As σ Q h => ?_)
  replace h := p1r_e h
  obtain ⟨z0, q0, rfl, h⟩ := h
  replace h := onB_e h
  obtain ⟨e0, h⟩ := h
  have e0 := Nat.eq_of_beq_eq_true e0
  subst e0
  replace h := p1i_e h
  obtain ⟨x1, q1, rfl, h⟩ := h
  replace h := p1i_e h
  obtain ⟨x2, q2, rfl, h⟩ := h
  replace h := p1i_e h
  obtain ⟨x3, q3, rfl, h⟩ := h
  replace h := onB_e h
  obtain ⟨e9, h⟩ := h
  have e9 := List.isEmpty_iff.mp e9
  subst e9
  refine ⟨Nat.le_of_ble_eq_true rfl, fun P hP => ?_⟩
  exact h (fun x4 τ => P 71 [.ref 0, .int x1, .int x2, .int x3, .int x4] τ) (fun x4 τ => P 102 [.ref 0, .int x2, .int x3, .int x4] τ) (fun x4 τ hb => hP 71 [.ref 0, .int x1, .int x2, .int x3, .int x4] τ hb) (fun x4 τ hb => hP 102 [.ref 0, .int x2, .int x3, .int x4] τ hb)
def wp_X10_status (x1 : Int32) (σ : Sg) (Q : Int32 → Sg → Prop) : Prop :=
  wp_X10_isIn (x1).toInt64 (-8 : Int64) (-2 : Int64) σ (fun r1 => ((r1 = 0 → wp_X10_no (-7 : Int32) σ (fun r2 s3 => Q r2 s3)) ∧ (¬ r1 = 0 → (vp_in (-x1) 9 ∧ Q (gI σ 8 ((-x1)).toNatClampNeg) σ))))
def wl_X10_status : WP := fun As σ Q => p1r As (fun z0 r0 => onB (Nat.beq z0 0) (p1i r0 (fun x1 r1 => onB r1.isEmpty (wp_X10_status x1 σ (fun x τ => Q (some (.int x)) τ)))))
def tb_X10_status : List (Nat × Instr × Nat) := [(0, (.iload_n 1, 1)), (1, (.i2l, 1)), (2, (.ldc2_w 290, 3)), (5, (.ldc2_w 292, 3)), (8, (.invokestatic 133, 3)), (11, (.ifCond .eq 24, 3)), (14, (.aload_n 0, 1)), (15, (.getfield 36, 3)), (18, (.iload_n 1, 1)), (19, (.ineg, 1)), (20, (.iaload, 1)), (21, (.goto 30, 3)), (24, (.aload_n 0, 1)), (25, (.bipush (-7), 2)), (27, (.invokevirtual 118, 3)), (30, (.ireturn, 1))]
def ce_X10_status : List (Nat × (Nat × Option Nat × WP)) := [(133, (3, none, wl_X10_isIn)), (118, (2, some 10, wl_X10_no))]
set_option maxRecDepth 100000 in
set_option maxHeartbeats 4000000 in
theorem ct_X10_status (l : Launch) : Con l wM yX10_status cX10_status 2 (some .int) 1 wl_X10_status := by
  refine sxm_ok l (ft := lkp ft_RX10) (c32 := lkp c32_RX10) (c64 := lkp c64_RX10) (ce := lkp ce_X10_status) (sf := lkp sf_RX10) (lab := lkp []) (T := tb_X10_status) (by decide +kernel) ft_RX10_ok c32_RX10_ok c64_RX10_ok (fun x q h => (show ∀ q ∈ ce_X10_status, ceOK l wM RX10 1 q.1 q.2.1 q.2.2.1 q.2.2.2 from List.forall_mem_cons.mpr ⟨⟨yX10_isIn, cX10_isIn, 6, (some .boolean), 0, ct_X10_isIn l, by decide, by decide, mi_X10_isIn.1, mi_X10_isIn.2, Or.inl ml_RX10_133, ms_X10_isIn, by decide +kernel⟩, List.forall_mem_cons.mpr ⟨⟨yX10_no, cX10_no, 2, (some .int), 0, ct_X10_no l, by decide, by decide, mi_X10_no.1, mi_X10_no.2, ml_RX10_118, mv_X10_no.1, mv_X10_no.2, ⟨_, _, rfl⟩, by decide, by decide +kernel⟩, fun _ h => absurd h List.not_mem_nil⟩⟩) (x, q) (lkp_mem h)) sf_RX10_ok (by decide +kernel) 400 (fun As σ Q h => ?_)
  replace h := p1r_e h
  obtain ⟨z0, q0, rfl, h⟩ := h
  replace h := onB_e h
  obtain ⟨e0, h⟩ := h
  have e0 := Nat.eq_of_beq_eq_true e0
  subst e0
  replace h := p1i_e h
  obtain ⟨x1, q1, rfl, h⟩ := h
  replace h := onB_e h
  obtain ⟨e9, h⟩ := h
  have e9 := List.isEmpty_iff.mp e9
  subst e9
  refine ⟨Nat.le_of_ble_eq_true rfl, fun P hP => ?_⟩
  exact h 
def wp_X10_bit (x1 : Int32) (x2 : Int32) (σ : Sg) (Q : Int32 → Sg → Prop) : Prop :=
  (((gI σ 0 5) = (80 : Int32) → wp_X10_no (-8 : Int32) σ (fun r1 s2 => Q r1 s2)) ∧ (¬ (gI σ 0 5) = (80 : Int32) → (((gI σ 0 6) = (8 : Int32) → wp_X10_no (-8 : Int32) σ (fun r3 s4 => Q r3 s4)) ∧ (¬ (gI σ 0 6) = (8 : Int32) → ((x1 = 0 → (vp_in (gI σ 0 5) 80 ∧ ((x2 = 0 → wp_X10_adds (1 : Int32) ((2 : Int32) * (gI (sI (sI σ 4 ((gI σ 0 5)).toNatClampNeg (gI σ 0 6)) 0 6 ((gI (sI σ 4 ((gI σ 0 5)).toNatClampNeg (gI σ 0 6)) 0 6) + (1 : Int32))) 0 5)) (-1 : Int32) (sI (sI σ 4 ((gI σ 0 5)).toNatClampNeg (gI σ 0 6)) 0 6 ((gI (sI σ 4 ((gI σ 0 5)).toNatClampNeg (gI σ 0 6)) 0 6) + (1 : Int32))) (fun r5 s6 => Q r5 s6)) ∧ (¬ x2 = 0 → wp_X10_adds (2 : Int32) ((2 : Int32) * (gI (sI (sI σ 4 ((gI σ 0 5)).toNatClampNeg (gI σ 0 6)) 0 6 ((gI (sI σ 4 ((gI σ 0 5)).toNatClampNeg (gI σ 0 6)) 0 6) + (1 : Int32))) 0 5)) (-1 : Int32) (sI (sI σ 4 ((gI σ 0 5)).toNatClampNeg (gI σ 0 6)) 0 6 ((gI (sI σ 4 ((gI σ 0 5)).toNatClampNeg (gI σ 0 6)) 0 6) + (1 : Int32))) (fun r7 s8 => Q r7 s8))))) ∧ (¬ x1 = 0 → (vp_in (gI (sI σ 0 8 ((gI σ 0 8) ||| ((1 : Int32) <<< ((gI σ 0 6) &&& 31)))) 0 5) 80 ∧ ((x2 = 0 → wp_X10_adds (1 : Int32) ((2 : Int32) * (gI (sI (sI (sI σ 0 8 ((gI σ 0 8) ||| ((1 : Int32) <<< ((gI σ 0 6) &&& 31)))) 4 ((gI (sI σ 0 8 ((gI σ 0 8) ||| ((1 : Int32) <<< ((gI σ 0 6) &&& 31)))) 0 5)).toNatClampNeg (gI (sI σ 0 8 ((gI σ 0 8) ||| ((1 : Int32) <<< ((gI σ 0 6) &&& 31)))) 0 6)) 0 6 ((gI (sI (sI σ 0 8 ((gI σ 0 8) ||| ((1 : Int32) <<< ((gI σ 0 6) &&& 31)))) 4 ((gI (sI σ 0 8 ((gI σ 0 8) ||| ((1 : Int32) <<< ((gI σ 0 6) &&& 31)))) 0 5)).toNatClampNeg (gI (sI σ 0 8 ((gI σ 0 8) ||| ((1 : Int32) <<< ((gI σ 0 6) &&& 31)))) 0 6)) 0 6) + (1 : Int32))) 0 5)) (-1 : Int32) (sI (sI (sI σ 0 8 ((gI σ 0 8) ||| ((1 : Int32) <<< ((gI σ 0 6) &&& 31)))) 4 ((gI (sI σ 0 8 ((gI σ 0 8) ||| ((1 : Int32) <<< ((gI σ 0 6) &&& 31)))) 0 5)).toNatClampNeg (gI (sI σ 0 8 ((gI σ 0 8) ||| ((1 : Int32) <<< ((gI σ 0 6) &&& 31)))) 0 6)) 0 6 ((gI (sI (sI σ 0 8 ((gI σ 0 8) ||| ((1 : Int32) <<< ((gI σ 0 6) &&& 31)))) 4 ((gI (sI σ 0 8 ((gI σ 0 8) ||| ((1 : Int32) <<< ((gI σ 0 6) &&& 31)))) 0 5)).toNatClampNeg (gI (sI σ 0 8 ((gI σ 0 8) ||| ((1 : Int32) <<< ((gI σ 0 6) &&& 31)))) 0 6)) 0 6) + (1 : Int32))) (fun r9 s10 => Q r9 s10)) ∧ (¬ x2 = 0 → wp_X10_adds (2 : Int32) ((2 : Int32) * (gI (sI (sI (sI σ 0 8 ((gI σ 0 8) ||| ((1 : Int32) <<< ((gI σ 0 6) &&& 31)))) 4 ((gI (sI σ 0 8 ((gI σ 0 8) ||| ((1 : Int32) <<< ((gI σ 0 6) &&& 31)))) 0 5)).toNatClampNeg (gI (sI σ 0 8 ((gI σ 0 8) ||| ((1 : Int32) <<< ((gI σ 0 6) &&& 31)))) 0 6)) 0 6 ((gI (sI (sI σ 0 8 ((gI σ 0 8) ||| ((1 : Int32) <<< ((gI σ 0 6) &&& 31)))) 4 ((gI (sI σ 0 8 ((gI σ 0 8) ||| ((1 : Int32) <<< ((gI σ 0 6) &&& 31)))) 0 5)).toNatClampNeg (gI (sI σ 0 8 ((gI σ 0 8) ||| ((1 : Int32) <<< ((gI σ 0 6) &&& 31)))) 0 6)) 0 6) + (1 : Int32))) 0 5)) (-1 : Int32) (sI (sI (sI σ 0 8 ((gI σ 0 8) ||| ((1 : Int32) <<< ((gI σ 0 6) &&& 31)))) 4 ((gI (sI σ 0 8 ((gI σ 0 8) ||| ((1 : Int32) <<< ((gI σ 0 6) &&& 31)))) 0 5)).toNatClampNeg (gI (sI σ 0 8 ((gI σ 0 8) ||| ((1 : Int32) <<< ((gI σ 0 6) &&& 31)))) 0 6)) 0 6 ((gI (sI (sI σ 0 8 ((gI σ 0 8) ||| ((1 : Int32) <<< ((gI σ 0 6) &&& 31)))) 4 ((gI (sI σ 0 8 ((gI σ 0 8) ||| ((1 : Int32) <<< ((gI σ 0 6) &&& 31)))) 0 5)).toNatClampNeg (gI (sI σ 0 8 ((gI σ 0 8) ||| ((1 : Int32) <<< ((gI σ 0 6) &&& 31)))) 0 6)) 0 6) + (1 : Int32))) (fun r11 s12 => Q r11 s12))))))))))
def wl_X10_bit : WP := fun As σ Q => p1r As (fun z0 r0 => onB (Nat.beq z0 0) (p1i r0 (fun x1 r1 => p1i r1 (fun x2 r2 => onB r2.isEmpty (wp_X10_bit x1 x2 σ (fun x τ => Q (some (.int x)) τ))))))
def tb_X10_bit : List (Nat × Instr × Nat) := [(0, (.aload_n 0, 1)), (1, (.getfield 112, 3)), (4, (.bipush 80, 2)), (6, (.if_icmp .eq 18, 3)), (9, (.aload_n 0, 1)), (10, (.getfield 106, 3)), (13, (.bipush 8, 2)), (15, (.if_icmp .ne 25, 3)), (18, (.aload_n 0, 1)), (19, (.bipush (-8), 2)), (21, (.invokevirtual 118, 3)), (24, (.ireturn, 1)), (25, (.iload_n 1, 1)), (26, (.ifCond .eq 44, 3)), (29, (.aload_n 0, 1)), (30, (.dup, 1)), (31, (.getfield 122, 3)), (34, (.iconst 1, 1)), (35, (.aload_n 0, 1)), (36, (.getfield 106, 3)), (39, (.ishl, 1)), (40, (.ior, 1)), (41, (.putfield 122, 3)), (44, (.aload_n 0, 1)), (45, (.getfield 19, 3)), (48, (.aload_n 0, 1)), (49, (.getfield 112, 3)), (52, (.aload_n 0, 1)), (53, (.getfield 106, 3)), (56, (.iastore, 1)), (57, (.aload_n 0, 1)), (58, (.dup, 1)), (59, (.getfield 106, 3)), (62, (.iconst 1, 1)), (63, (.iadd, 1)), (64, (.putfield 106, 3)), (67, (.aload_n 0, 1)), (68, (.iload_n 2, 1)), (69, (.ifCond .eq 76, 3)), (72, (.iconst 2, 1)), (73, (.goto 77, 3)), (76, (.iconst 1, 1)), (77, (.iconst 2, 1)), (78, (.aload_n 0, 1)), (79, (.getfield 112, 3)), (82, (.imul, 1)), (83, (.iconst (-1), 1)), (84, (.invokevirtual 125, 3)), (87, (.ireturn, 1))]
def ce_X10_bit : List (Nat × (Nat × Option Nat × WP)) := [(118, (2, some 10, wl_X10_no)), (125, (4, some 10, wl_X10_adds))]
set_option maxRecDepth 100000 in
set_option maxHeartbeats 4000000 in
theorem ct_X10_bit (l : Launch) : Con l wM yX10_bit cX10_bit 3 (some .int) 2 wl_X10_bit := by
  refine sxm_ok l (ft := lkp ft_RX10) (c32 := lkp c32_RX10) (c64 := lkp c64_RX10) (ce := lkp ce_X10_bit) (sf := lkp sf_RX10) (lab := lkp []) (T := tb_X10_bit) (by decide +kernel) ft_RX10_ok c32_RX10_ok c64_RX10_ok (fun x q h => (show ∀ q ∈ ce_X10_bit, ceOK l wM RX10 2 q.1 q.2.1 q.2.2.1 q.2.2.2 from List.forall_mem_cons.mpr ⟨⟨yX10_no, cX10_no, 2, (some .int), 0, ct_X10_no l, by decide, by decide, mi_X10_no.1, mi_X10_no.2, ml_RX10_118, mv_X10_no.1, mv_X10_no.2, ⟨_, _, rfl⟩, by decide, by decide +kernel⟩, List.forall_mem_cons.mpr ⟨⟨yX10_adds, cX10_adds, 5, (some .int), 1, ct_X10_adds l, by decide, by decide, mi_X10_adds.1, mi_X10_adds.2, ml_RX10_125, mv_X10_adds.1, mv_X10_adds.2, ⟨_, _, rfl⟩, by decide, by decide +kernel⟩, fun _ h => absurd h List.not_mem_nil⟩⟩) (x, q) (lkp_mem h)) sf_RX10_ok (by decide +kernel) 400 (fun As σ Q h => ?_)
  replace h := p1r_e h
  obtain ⟨z0, q0, rfl, h⟩ := h
  replace h := onB_e h
  obtain ⟨e0, h⟩ := h
  have e0 := Nat.eq_of_beq_eq_true e0
  subst e0
  replace h := p1i_e h
  obtain ⟨x1, q1, rfl, h⟩ := h
  replace h := p1i_e h
  obtain ⟨x2, q2, rfl, h⟩ := h
  replace h := onB_e h
  obtain ⟨e9, h⟩ := h
  have e9 := List.isEmpty_iff.mp e9
  subst e9
  refine ⟨Nat.le_of_ble_eq_true rfl, fun P hP => ?_⟩
  exact h 
def wp_X10_input  (σ : Sg) (Q : Int32 → Sg → Prop) : Prop :=
  (((gI σ 0 5) = (80 : Int32) → wp_X10_no (-8 : Int32) σ (fun r1 s2 => Q r1 s2)) ∧ (¬ (gI σ 0 5) = (80 : Int32) → (((gI σ 0 7) = (4 : Int32) → wp_X10_no (-8 : Int32) σ (fun r3 s4 => Q r3 s4)) ∧ (¬ (gI σ 0 7) = (4 : Int32) → (vp_in (gI σ 0 5) 80 ∧ wp_X10_adds (3 : Int32) (-1 : Int32) (-1 : Int32) (sI (sI σ 4 ((gI σ 0 5)).toNatClampNeg (gI σ 0 7)) 0 7 ((gI (sI σ 4 ((gI σ 0 5)).toNatClampNeg (gI σ 0 7)) 0 7) + (1 : Int32))) (fun r5 s6 => Q r5 s6))))))
def wl_X10_input : WP := fun As σ Q => p1r As (fun z0 r0 => onB (Nat.beq z0 0) (onB r0.isEmpty (wp_X10_input  σ (fun x τ => Q (some (.int x)) τ))))
def tb_X10_input : List (Nat × Instr × Nat) := [(0, (.aload_n 0, 1)), (1, (.getfield 112, 3)), (4, (.bipush 80, 2)), (6, (.if_icmp .eq 17, 3)), (9, (.aload_n 0, 1)), (10, (.getfield 109, 3)), (13, (.iconst 4, 1)), (14, (.if_icmp .ne 24, 3)), (17, (.aload_n 0, 1)), (18, (.bipush (-8), 2)), (20, (.invokevirtual 118, 3)), (23, (.ireturn, 1)), (24, (.aload_n 0, 1)), (25, (.getfield 19, 3)), (28, (.aload_n 0, 1)), (29, (.getfield 112, 3)), (32, (.aload_n 0, 1)), (33, (.getfield 109, 3)), (36, (.iastore, 1)), (37, (.aload_n 0, 1)), (38, (.dup, 1)), (39, (.getfield 109, 3)), (42, (.iconst 1, 1)), (43, (.iadd, 1)), (44, (.putfield 109, 3)), (47, (.aload_n 0, 1)), (48, (.iconst 3, 1)), (49, (.iconst (-1), 1)), (50, (.iconst (-1), 1)), (51, (.invokevirtual 125, 3)), (54, (.ireturn, 1))]
def ce_X10_input : List (Nat × (Nat × Option Nat × WP)) := [(118, (2, some 10, wl_X10_no)), (125, (4, some 10, wl_X10_adds))]
set_option maxRecDepth 100000 in
set_option maxHeartbeats 4000000 in
theorem ct_X10_input (l : Launch) : Con l wM yX10_input cX10_input 1 (some .int) 2 wl_X10_input := by
  refine sxm_ok l (ft := lkp ft_RX10) (c32 := lkp c32_RX10) (c64 := lkp c64_RX10) (ce := lkp ce_X10_input) (sf := lkp sf_RX10) (lab := lkp []) (T := tb_X10_input) (by decide +kernel) ft_RX10_ok c32_RX10_ok c64_RX10_ok (fun x q h => (show ∀ q ∈ ce_X10_input, ceOK l wM RX10 2 q.1 q.2.1 q.2.2.1 q.2.2.2 from List.forall_mem_cons.mpr ⟨⟨yX10_no, cX10_no, 2, (some .int), 0, ct_X10_no l, by decide, by decide, mi_X10_no.1, mi_X10_no.2, ml_RX10_118, mv_X10_no.1, mv_X10_no.2, ⟨_, _, rfl⟩, by decide, by decide +kernel⟩, List.forall_mem_cons.mpr ⟨⟨yX10_adds, cX10_adds, 5, (some .int), 1, ct_X10_adds l, by decide, by decide, mi_X10_adds.1, mi_X10_adds.2, ml_RX10_125, mv_X10_adds.1, mv_X10_adds.2, ⟨_, _, rfl⟩, by decide, by decide +kernel⟩, fun _ h => absurd h List.not_mem_nil⟩⟩) (x, q) (lkp_mem h)) sf_RX10_ok (by decide +kernel) 400 (fun As σ Q h => ?_)
  replace h := p1r_e h
  obtain ⟨z0, q0, rfl, h⟩ := h
  replace h := onB_e h
  obtain ⟨e0, h⟩ := h
  have e0 := Nat.eq_of_beq_eq_true e0
  subst e0
  replace h := onB_e h
  obtain ⟨e9, h⟩ := h
  have e9 := List.isEmpty_iff.mp e9
  subst e9
  refine ⟨Nat.le_of_ble_eq_true rfl, fun P hP => ?_⟩
  exact h 
def wp_X10_gate (x1 : Int32) (x2 : Int32) (σ : Sg) (Q : Int32 → Sg → Prop) : Prop :=
  wp_X10_isSign x1 σ (fun r1 => ((r1 = 0 → wp_X10_no (-3 : Int32) σ (fun r2 s3 => Q r2 s3)) ∧ (¬ r1 = 0 → wp_X10_isSign x2 σ (fun r4 => ((r4 = 0 → wp_X10_no (-3 : Int32) σ (fun r5 s6 => Q r5 s6)) ∧ (¬ r4 = 0 → (((gI σ 0 5) = (80 : Int32) → wp_X10_no (-8 : Int32) σ (fun r7 s8 => Q r7 s8)) ∧ (¬ (gI σ 0 5) = (80 : Int32) → wp_X10_adds (0 : Int32) x1 x2 σ (fun r9 s10 => Q r9 s10)))))))))
def wl_X10_gate : WP := fun As σ Q => p1r As (fun z0 r0 => onB (Nat.beq z0 0) (p1i r0 (fun x1 r1 => p1i r1 (fun x2 r2 => onB r2.isEmpty (wp_X10_gate x1 x2 σ (fun x τ => Q (some (.int x)) τ))))))
def tb_X10_gate : List (Nat × Instr × Nat) := [(0, (.aload_n 0, 1)), (1, (.iload_n 1, 1)), (2, (.invokevirtual 129, 3)), (5, (.ifCond .eq 16, 3)), (8, (.aload_n 0, 1)), (9, (.iload_n 2, 1)), (10, (.invokevirtual 129, 3)), (13, (.ifCond .ne 23, 3)), (16, (.aload_n 0, 1)), (17, (.bipush (-3), 2)), (19, (.invokevirtual 118, 3)), (22, (.ireturn, 1)), (23, (.aload_n 0, 1)), (24, (.getfield 112, 3)), (27, (.bipush 80, 2)), (29, (.if_icmp .ne 41, 3)), (32, (.aload_n 0, 1)), (33, (.bipush (-8), 2)), (35, (.invokevirtual 118, 3)), (38, (.goto 48, 3)), (41, (.aload_n 0, 1)), (42, (.iconst 0, 1)), (43, (.iload_n 1, 1)), (44, (.iload_n 2, 1)), (45, (.invokevirtual 125, 3)), (48, (.ireturn, 1))]
def ce_X10_gate : List (Nat × (Nat × Option Nat × WP)) := [(129, (2, some 10, wl_X10_isSign)), (118, (2, some 10, wl_X10_no)), (125, (4, some 10, wl_X10_adds))]
set_option maxRecDepth 100000 in
set_option maxHeartbeats 4000000 in
theorem ct_X10_gate (l : Launch) : Con l wM yX10_gate cX10_gate 3 (some .int) 2 wl_X10_gate := by
  refine sxm_ok l (ft := lkp ft_RX10) (c32 := lkp c32_RX10) (c64 := lkp c64_RX10) (ce := lkp ce_X10_gate) (sf := lkp sf_RX10) (lab := lkp []) (T := tb_X10_gate) (by decide +kernel) ft_RX10_ok c32_RX10_ok c64_RX10_ok (fun x q h => (show ∀ q ∈ ce_X10_gate, ceOK l wM RX10 2 q.1 q.2.1 q.2.2.1 q.2.2.2 from List.forall_mem_cons.mpr ⟨⟨yX10_isSign, cX10_isSign, 2, (some .boolean), 0, ct_X10_isSign l, by decide, by decide, mi_X10_isSign.1, mi_X10_isSign.2, ml_RX10_129, mv_X10_isSign.1, mv_X10_isSign.2, ⟨_, _, rfl⟩, by decide, by decide +kernel⟩, List.forall_mem_cons.mpr ⟨⟨yX10_no, cX10_no, 2, (some .int), 0, ct_X10_no l, by decide, by decide, mi_X10_no.1, mi_X10_no.2, ml_RX10_118, mv_X10_no.1, mv_X10_no.2, ⟨_, _, rfl⟩, by decide, by decide +kernel⟩, List.forall_mem_cons.mpr ⟨⟨yX10_adds, cX10_adds, 5, (some .int), 1, ct_X10_adds l, by decide, by decide, mi_X10_adds.1, mi_X10_adds.2, ml_RX10_125, mv_X10_adds.1, mv_X10_adds.2, ⟨_, _, rfl⟩, by decide, by decide +kernel⟩, fun _ h => absurd h List.not_mem_nil⟩⟩⟩) (x, q) (lkp_mem h)) sf_RX10_ok (by decide +kernel) 400 (fun As σ Q h => ?_)
  replace h := p1r_e h
  obtain ⟨z0, q0, rfl, h⟩ := h
  replace h := onB_e h
  obtain ⟨e0, h⟩ := h
  have e0 := Nat.eq_of_beq_eq_true e0
  subst e0
  replace h := p1i_e h
  obtain ⟨x1, q1, rfl, h⟩ := h
  replace h := p1i_e h
  obtain ⟨x2, q2, rfl, h⟩ := h
  replace h := onB_e h
  obtain ⟨e9, h⟩ := h
  have e9 := List.isEmpty_iff.mp e9
  subst e9
  refine ⟨Nat.le_of_ble_eq_true rfl, fun P hP => ?_⟩
  exact h 
def wp_X10_table  (σ : Sg) (Q : Sg → Prop) : Prop :=
  ∀ L15 : Int32 → Sg → Prop,
  ∀ L25 : Int32 → Int32 → Sg → Prop,
  ∀ L115 : Int32 → Int32 → Int32 → Int32 → Sg → Prop,
  (∀ (x1 : Int32) (τ : Sg), wp_X10_states τ (fun r1 => ((x1 < r1 → L25 x1 (0 : Int32) τ) ∧ (¬ x1 < r1 → Q τ))) → L15 x1 τ) →
  (∀ (x1 : Int32) (x2 : Int32) (τ : Sg), wp_X10_ways τ (fun r2 => ((x2 < r2 → wp_X10_show x1 x2 τ (fun s3 => wp_X10_isRight s3 (fun r4 => ((r4 = 0 → (vp_in (((16 : Int32) * x1) + x2) 4096 ∧ (vp_in (((16 : Int32) * x1) + x2) 4096 ∧ (((gI (sI s3 9 ((((16 : Int32) * x1) + x2)).toNatClampNeg (-1 : Int32)) 9 ((((16 : Int32) * x1) + x2)).toNatClampNeg) < 0 → (vp_in (((16 : Int32) * x1) + x2) 4096 ∧ (vp_in (((16 : Int32) * x1) + x2) 4096 ∧ L115 x1 x2 (((16 : Int32) * x1) + x2) (0 : Int32) (sI (sI (sI s3 9 ((((16 : Int32) * x1) + x2)).toNatClampNeg (-1 : Int32)) 11 ((((16 : Int32) * x1) + x2)).toNatClampNeg (vp_nar .boolean (0 : Int32))) 10 ((((16 : Int32) * x1) + x2)).toNatClampNeg (0 : Int32))))) ∧ (¬ (gI (sI s3 9 ((((16 : Int32) * x1) + x2)).toNatClampNeg (-1 : Int32)) 9 ((((16 : Int32) * x1) + x2)).toNatClampNeg) < 0 → (((gI (sI s3 9 ((((16 : Int32) * x1) + x2)).toNatClampNeg (-1 : Int32)) 0 9) < 0 → (vp_in (((16 : Int32) * x1) + x2) 4096 ∧ (vp_in (((16 : Int32) * x1) + x2) 4096 ∧ L115 x1 x2 (((16 : Int32) * x1) + x2) (0 : Int32) (sI (sI (sI s3 9 ((((16 : Int32) * x1) + x2)).toNatClampNeg (-1 : Int32)) 11 ((((16 : Int32) * x1) + x2)).toNatClampNeg (vp_nar .boolean (0 : Int32))) 10 ((((16 : Int32) * x1) + x2)).toNatClampNeg (0 : Int32))))) ∧ (¬ (gI (sI s3 9 ((((16 : Int32) * x1) + x2)).toNatClampNeg (-1 : Int32)) 0 9) < 0 → wp_X10_is (gI (sI s3 9 ((((16 : Int32) * x1) + x2)).toNatClampNeg (-1 : Int32)) 0 9) (sI s3 9 ((((16 : Int32) * x1) + x2)).toNatClampNeg (-1 : Int32)) (fun r5 => ((r5 = 0 → (vp_in (((16 : Int32) * x1) + x2) 4096 ∧ (vp_in (((16 : Int32) * x1) + x2) 4096 ∧ L115 x1 x2 (((16 : Int32) * x1) + x2) (0 : Int32) (sI (sI (sI s3 9 ((((16 : Int32) * x1) + x2)).toNatClampNeg (-1 : Int32)) 11 ((((16 : Int32) * x1) + x2)).toNatClampNeg (vp_nar .boolean (0 : Int32))) 10 ((((16 : Int32) * x1) + x2)).toNatClampNeg (0 : Int32))))) ∧ (¬ r5 = 0 → (vp_in (((16 : Int32) * x1) + x2) 4096 ∧ (vp_in (((16 : Int32) * x1) + x2) 4096 ∧ L115 x1 x2 (((16 : Int32) * x1) + x2) (0 : Int32) (sI (sI (sI s3 9 ((((16 : Int32) * x1) + x2)).toNatClampNeg (-1 : Int32)) 11 ((((16 : Int32) * x1) + x2)).toNatClampNeg (vp_nar .boolean (1 : Int32))) 10 ((((16 : Int32) * x1) + x2)).toNatClampNeg (0 : Int32)))))))))))))) ∧ (¬ r4 = 0 → wp_X10_comes s3 (fun r6 => (vp_in (((16 : Int32) * x1) + x2) 4096 ∧ (vp_in (((16 : Int32) * x1) + x2) 4096 ∧ (((gI (sI s3 9 ((((16 : Int32) * x1) + x2)).toNatClampNeg r6) 9 ((((16 : Int32) * x1) + x2)).toNatClampNeg) < 0 → (vp_in (((16 : Int32) * x1) + x2) 4096 ∧ (vp_in (((16 : Int32) * x1) + x2) 4096 ∧ L115 x1 x2 (((16 : Int32) * x1) + x2) (0 : Int32) (sI (sI (sI s3 9 ((((16 : Int32) * x1) + x2)).toNatClampNeg r6) 11 ((((16 : Int32) * x1) + x2)).toNatClampNeg (vp_nar .boolean (0 : Int32))) 10 ((((16 : Int32) * x1) + x2)).toNatClampNeg (0 : Int32))))) ∧ (¬ (gI (sI s3 9 ((((16 : Int32) * x1) + x2)).toNatClampNeg r6) 9 ((((16 : Int32) * x1) + x2)).toNatClampNeg) < 0 → (((gI (sI s3 9 ((((16 : Int32) * x1) + x2)).toNatClampNeg r6) 0 9) < 0 → (vp_in (((16 : Int32) * x1) + x2) 4096 ∧ (vp_in (((16 : Int32) * x1) + x2) 4096 ∧ L115 x1 x2 (((16 : Int32) * x1) + x2) (0 : Int32) (sI (sI (sI s3 9 ((((16 : Int32) * x1) + x2)).toNatClampNeg r6) 11 ((((16 : Int32) * x1) + x2)).toNatClampNeg (vp_nar .boolean (0 : Int32))) 10 ((((16 : Int32) * x1) + x2)).toNatClampNeg (0 : Int32))))) ∧ (¬ (gI (sI s3 9 ((((16 : Int32) * x1) + x2)).toNatClampNeg r6) 0 9) < 0 → wp_X10_is (gI (sI s3 9 ((((16 : Int32) * x1) + x2)).toNatClampNeg r6) 0 9) (sI s3 9 ((((16 : Int32) * x1) + x2)).toNatClampNeg r6) (fun r7 => ((r7 = 0 → (vp_in (((16 : Int32) * x1) + x2) 4096 ∧ (vp_in (((16 : Int32) * x1) + x2) 4096 ∧ L115 x1 x2 (((16 : Int32) * x1) + x2) (0 : Int32) (sI (sI (sI s3 9 ((((16 : Int32) * x1) + x2)).toNatClampNeg r6) 11 ((((16 : Int32) * x1) + x2)).toNatClampNeg (vp_nar .boolean (0 : Int32))) 10 ((((16 : Int32) * x1) + x2)).toNatClampNeg (0 : Int32))))) ∧ (¬ r7 = 0 → (vp_in (((16 : Int32) * x1) + x2) 4096 ∧ (vp_in (((16 : Int32) * x1) + x2) 4096 ∧ L115 x1 x2 (((16 : Int32) * x1) + x2) (0 : Int32) (sI (sI (sI s3 9 ((((16 : Int32) * x1) + x2)).toNatClampNeg r6) 11 ((((16 : Int32) * x1) + x2)).toNatClampNeg (vp_nar .boolean (1 : Int32))) 10 ((((16 : Int32) * x1) + x2)).toNatClampNeg (0 : Int32))))))))))))))))))) ∧ (¬ x2 < r2 → L15 (x1 + (1 : Int32)) τ))) → L25 x1 x2 τ) →
  (∀ (x1 : Int32) (x2 : Int32) (x3 : Int32) (x4 : Int32) (τ : Sg), ((x4 < (gI τ 0 11) → (vp_in x3 4096 ∧ (vp_in x4 3 ∧ wp_X10_is (gI τ 7 (x4).toNatClampNeg) τ (fun r8 => ((r8 = 0 → (vp_in x3 4096 ∧ L115 x1 x2 x3 (x4 + (1 : Int32)) (sI τ 10 (x3).toNatClampNeg ((gI τ 10 (x3).toNatClampNeg) ||| (0 : Int32))))) ∧ (¬ r8 = 0 → (vp_in x3 4096 ∧ L115 x1 x2 x3 (x4 + (1 : Int32)) (sI τ 10 (x3).toNatClampNeg ((gI τ 10 (x3).toNatClampNeg) ||| ((1 : Int32) <<< (x4 &&& 31))))))))))) ∧ (¬ x4 < (gI τ 0 11) → L25 x1 (x2 + (1 : Int32)) τ)) → L115 x1 x2 x3 x4 τ) →
  (((gI σ 0 18) = 0 → (nz (1 : Int32) ∧ L15 (0 : Int32) (sI σ 0 18 (1 : Int32)))) ∧ (¬ (gI σ 0 18) = 0 → Q σ))
def wl_X10_table : WP := fun As σ Q => p1r As (fun z0 r0 => onB (Nat.beq z0 0) (onB r0.isEmpty (wp_X10_table  σ (fun τ => Q none τ))))
def tb_X10_table : List (Nat × Instr × Nat) := [(0, (.aload_n 0, 1)), (1, (.getfield 157, 3)), (4, (.ifCond .eq 8, 3)), (7, (.return_, 1)), (8, (.aload_n 0, 1)), (9, (.iconst 1, 1)), (10, (.putfield 157, 3)), (13, (.iconst 0, 1)), (14, (.istore_n 1, 1)), (15, (.iload_n 1, 1)), (16, (.aload_n 0, 1)), (17, (.invokevirtual 161, 3)), (20, (.if_icmp .ge 173, 3)), (23, (.iconst 0, 1)), (24, (.istore_n 2, 1)), (25, (.iload_n 2, 1)), (26, (.aload_n 0, 1)), (27, (.invokevirtual 165, 3)), (30, (.if_icmp .ge 167, 3)), (33, (.bipush 16, 2)), (35, (.iload_n 1, 1)), (36, (.imul, 1)), (37, (.iload_n 2, 1)), (38, (.iadd, 1)), (39, (.istore_n 3, 1)), (40, (.aload_n 0, 1)), (41, (.iload_n 1, 1)), (42, (.iload_n 2, 1)), (43, (.invokevirtual 168, 3)), (46, (.aload_n 0, 1)), (47, (.getfield 39, 3)), (50, (.iload_n 3, 1)), (51, (.aload_n 0, 1)), (52, (.invokevirtual 172, 3)), (55, (.ifCond .eq 65, 3)), (58, (.aload_n 0, 1)), (59, (.invokevirtual 176, 3)), (62, (.goto 66, 3)), (65, (.iconst (-1), 1)), (66, (.iastore, 1)), (67, (.aload_n 0, 1)), (68, (.getfield 45, 3)), (71, (.iload_n 3, 1)), (72, (.aload_n 0, 1)), (73, (.getfield 39, 3)), (76, (.iload_n 3, 1)), (77, (.iaload, 1)), (78, (.ifCond .lt 103, 3)), (81, (.aload_n 0, 1)), (82, (.getfield 26, 3)), (85, (.ifCond .lt 103, 3)), (88, (.aload_n 0, 1)), (89, (.aload_n 0, 1)), (90, (.getfield 26, 3)), (93, (.invokevirtual 154, 3)), (96, (.ifCond .eq 103, 3)), (99, (.iconst 1, 1)), (100, (.goto 104, 3)), (103, (.iconst 0, 1)), (104, (.bastore, 1)), (105, (.aload_n 0, 1)), (106, (.getfield 42, 3)), (109, (.iload_n 3, 1)), (110, (.iconst 0, 1)), (111, (.iastore, 1)), (112, (.iconst 0, 1)), (113, (.istore 4, 2)), (115, (.iload 4, 2)), (117, (.aload_n 0, 1)), (118, (.getfield 140, 3)), (121, (.if_icmp .ge 161, 3)), (124, (.aload_n 0, 1)), (125, (.getfield 42, 3)), (128, (.iload_n 3, 1)), (129, (.dup2, 1)), (130, (.iaload, 1)), (131, (.aload_n 0, 1)), (132, (.aload_n 0, 1)), (133, (.getfield 33, 3)), (136, (.iload 4, 2)), (138, (.iaload, 1)), (139, (.invokevirtual 154, 3)), (142, (.ifCond .eq 152, 3)), (145, (.iconst 1, 1)), (146, (.iload 4, 2)), (148, (.ishl, 1)), (149, (.goto 153, 3)), (152, (.iconst 0, 1)), (153, (.ior, 1)), (154, (.iastore, 1)), (155, (.iinc 4 1, 3)), (158, (.goto 115, 3)), (161, (.iinc 2 1, 3)), (164, (.goto 25, 3)), (167, (.iinc 1 1, 3)), (170, (.goto 15, 3)), (173, (.return_, 1))]
def ce_X10_table : List (Nat × (Nat × Option Nat × WP)) := [(161, (1, some 10, wl_X10_states)), (165, (1, some 10, wl_X10_ways)), (168, (3, some 10, wl_X10_show)), (172, (1, some 10, wl_X10_isRight)), (176, (1, some 10, wl_X10_comes)), (154, (2, some 10, wl_X10_is))]
set_option maxRecDepth 100000 in
set_option maxHeartbeats 4000000 in
theorem ct_X10_table (l : Launch) : Con l wM yX10_table cX10_table 5 none 2 wl_X10_table := by
  refine sxm_ok l (ft := lkp ft_RX10) (c32 := lkp c32_RX10) (c64 := lkp c64_RX10) (ce := lkp ce_X10_table) (sf := lkp sf_RX10) (lab := lkp [(15, [0, 1]), (25, [0, 1, 2]), (115, [0, 1, 2, 3, 4])]) (T := tb_X10_table) (by decide +kernel) ft_RX10_ok c32_RX10_ok c64_RX10_ok (fun x q h => (show ∀ q ∈ ce_X10_table, ceOK l wM RX10 2 q.1 q.2.1 q.2.2.1 q.2.2.2 from List.forall_mem_cons.mpr ⟨⟨yX10_states, cX10_states, 1, (some .int), 0, ct_X10_states l, by decide, by decide, mi_X10_states.1, mi_X10_states.2, ml_RX10_161, mv_X10_states.1, mv_X10_states.2, ⟨_, _, rfl⟩, by decide, by decide +kernel⟩, List.forall_mem_cons.mpr ⟨⟨yX10_ways, cX10_ways, 1, (some .int), 0, ct_X10_ways l, by decide, by decide, mi_X10_ways.1, mi_X10_ways.2, ml_RX10_165, mv_X10_ways.1, mv_X10_ways.2, ⟨_, _, rfl⟩, by decide, by decide +kernel⟩, List.forall_mem_cons.mpr ⟨⟨yX10_show, cX10_show, 4, none, 1, ct_X10_show l, by decide, by decide, mi_X10_show.1, mi_X10_show.2, ml_RX10_168, mv_X10_show.1, mv_X10_show.2, ⟨_, _, rfl⟩, by decide, by decide +kernel⟩, List.forall_mem_cons.mpr ⟨⟨yX10_isRight, cX10_isRight, 3, (some .boolean), 1, ct_X10_isRight l, by decide, by decide, mi_X10_isRight.1, mi_X10_isRight.2, ml_RX10_172, mv_X10_isRight.1, mv_X10_isRight.2, ⟨_, _, rfl⟩, by decide, by decide +kernel⟩, List.forall_mem_cons.mpr ⟨⟨yX10_comes, cX10_comes, 3, (some .int), 1, ct_X10_comes l, by decide, by decide, mi_X10_comes.1, mi_X10_comes.2, ml_RX10_176, mv_X10_comes.1, mv_X10_comes.2, ⟨_, _, rfl⟩, by decide, by decide +kernel⟩, List.forall_mem_cons.mpr ⟨⟨yX10_is, cX10_is, 2, (some .boolean), 0, ct_X10_is l, by decide, by decide, mi_X10_is.1, mi_X10_is.2, ml_RX10_154, mv_X10_is.1, mv_X10_is.2, ⟨_, _, rfl⟩, by decide, by decide +kernel⟩, fun _ h => absurd h List.not_mem_nil⟩⟩⟩⟩⟩⟩) (x, q) (lkp_mem h)) sf_RX10_ok (by decide +kernel) 400 (fun As σ Q h => ?_)
  replace h := p1r_e h
  obtain ⟨z0, q0, rfl, h⟩ := h
  replace h := onB_e h
  obtain ⟨e0, h⟩ := h
  have e0 := Nat.eq_of_beq_eq_true e0
  subst e0
  replace h := onB_e h
  obtain ⟨e9, h⟩ := h
  have e9 := List.isEmpty_iff.mp e9
  subst e9
  refine ⟨Nat.le_of_ble_eq_true rfl, fun P hP => ?_⟩
  exact h (fun x1 τ => P 15 [.ref 0, .int x1] τ) (fun x1 x2 τ => P 25 [.ref 0, .int x1, .int x2] τ) (fun x1 x2 x3 x4 τ => P 115 [.ref 0, .int x1, .int x2, .int x3, .int x4] τ) (fun x1 τ hb => hP 15 [.ref 0, .int x1] τ hb) (fun x1 x2 τ hb => hP 25 [.ref 0, .int x1, .int x2] τ hb) (fun x1 x2 x3 x4 τ hb => hP 115 [.ref 0, .int x1, .int x2, .int x3, .int x4] τ hb)
def wp_X10_value (x1 : Int32) (x2 : Int32) (σ : Sg) (Q : Int32 → Sg → Prop) : Prop :=
  wp_X10_isSign x1 σ (fun r1 => ((r1 = 0 → wp_X10_no (-3 : Int32) σ (fun r2 s3 => Q r2 s3)) ∧ (¬ r1 = 0 → wp_X10_ways σ (fun r4 => wp_X10_isIn (x2).toInt64 (0 : Int64) ((r4 - (1 : Int32))).toInt64 σ (fun r5 => ((r5 = 0 → wp_X10_no (-3 : Int32) σ (fun r6 s7 => Q r6 s7)) ∧ (¬ r5 = 0 → wp_X10_show (gI σ 0 19) x2 σ (fun s8 => wp_X10_is x1 s8 (fun r9 => ((r9 = 0 → Q (0 : Int32) s8) ∧ (¬ r9 = 0 → Q (1 : Int32) s8)))))))))))
def wl_X10_value : WP := fun As σ Q => p1r As (fun z0 r0 => onB (Nat.beq z0 0) (p1i r0 (fun x1 r1 => p1i r1 (fun x2 r2 => onB r2.isEmpty (wp_X10_value x1 x2 σ (fun x τ => Q (some (.int x)) τ))))))
def tb_X10_value : List (Nat × Instr × Nat) := [(0, (.aload_n 0, 1)), (1, (.iload_n 1, 1)), (2, (.invokevirtual 129, 3)), (5, (.ifCond .eq 24, 3)), (8, (.iload_n 2, 1)), (9, (.i2l, 1)), (10, (.lconst 0, 1)), (11, (.aload_n 0, 1)), (12, (.invokevirtual 165, 3)), (15, (.iconst 1, 1)), (16, (.isub, 1)), (17, (.i2l, 1)), (18, (.invokestatic 133, 3)), (21, (.ifCond .ne 31, 3)), (24, (.aload_n 0, 1)), (25, (.bipush (-3), 2)), (27, (.invokevirtual 118, 3)), (30, (.ireturn, 1)), (31, (.aload_n 0, 1)), (32, (.aload_n 0, 1)), (33, (.getfield 179, 3)), (36, (.iload_n 2, 1)), (37, (.invokevirtual 168, 3)), (40, (.aload_n 0, 1)), (41, (.iload_n 1, 1)), (42, (.invokevirtual 154, 3)), (45, (.ifCond .eq 52, 3)), (48, (.iconst 1, 1)), (49, (.goto 53, 3)), (52, (.iconst 0, 1)), (53, (.ireturn, 1))]
def ce_X10_value : List (Nat × (Nat × Option Nat × WP)) := [(129, (2, some 10, wl_X10_isSign)), (165, (1, some 10, wl_X10_ways)), (133, (3, none, wl_X10_isIn)), (118, (2, some 10, wl_X10_no)), (168, (3, some 10, wl_X10_show)), (154, (2, some 10, wl_X10_is))]
set_option maxRecDepth 100000 in
set_option maxHeartbeats 4000000 in
theorem ct_X10_value (l : Launch) : Con l wM yX10_value cX10_value 3 (some .int) 2 wl_X10_value := by
  refine sxm_ok l (ft := lkp ft_RX10) (c32 := lkp c32_RX10) (c64 := lkp c64_RX10) (ce := lkp ce_X10_value) (sf := lkp sf_RX10) (lab := lkp []) (T := tb_X10_value) (by decide +kernel) ft_RX10_ok c32_RX10_ok c64_RX10_ok (fun x q h => (show ∀ q ∈ ce_X10_value, ceOK l wM RX10 2 q.1 q.2.1 q.2.2.1 q.2.2.2 from List.forall_mem_cons.mpr ⟨⟨yX10_isSign, cX10_isSign, 2, (some .boolean), 0, ct_X10_isSign l, by decide, by decide, mi_X10_isSign.1, mi_X10_isSign.2, ml_RX10_129, mv_X10_isSign.1, mv_X10_isSign.2, ⟨_, _, rfl⟩, by decide, by decide +kernel⟩, List.forall_mem_cons.mpr ⟨⟨yX10_ways, cX10_ways, 1, (some .int), 0, ct_X10_ways l, by decide, by decide, mi_X10_ways.1, mi_X10_ways.2, ml_RX10_165, mv_X10_ways.1, mv_X10_ways.2, ⟨_, _, rfl⟩, by decide, by decide +kernel⟩, List.forall_mem_cons.mpr ⟨⟨yX10_isIn, cX10_isIn, 6, (some .boolean), 0, ct_X10_isIn l, by decide, by decide, mi_X10_isIn.1, mi_X10_isIn.2, Or.inl ml_RX10_133, ms_X10_isIn, by decide +kernel⟩, List.forall_mem_cons.mpr ⟨⟨yX10_no, cX10_no, 2, (some .int), 0, ct_X10_no l, by decide, by decide, mi_X10_no.1, mi_X10_no.2, ml_RX10_118, mv_X10_no.1, mv_X10_no.2, ⟨_, _, rfl⟩, by decide, by decide +kernel⟩, List.forall_mem_cons.mpr ⟨⟨yX10_show, cX10_show, 4, none, 1, ct_X10_show l, by decide, by decide, mi_X10_show.1, mi_X10_show.2, ml_RX10_168, mv_X10_show.1, mv_X10_show.2, ⟨_, _, rfl⟩, by decide, by decide +kernel⟩, List.forall_mem_cons.mpr ⟨⟨yX10_is, cX10_is, 2, (some .boolean), 0, ct_X10_is l, by decide, by decide, mi_X10_is.1, mi_X10_is.2, ml_RX10_154, mv_X10_is.1, mv_X10_is.2, ⟨_, _, rfl⟩, by decide, by decide +kernel⟩, fun _ h => absurd h List.not_mem_nil⟩⟩⟩⟩⟩⟩) (x, q) (lkp_mem h)) sf_RX10_ok (by decide +kernel) 400 (fun As σ Q h => ?_)
  replace h := p1r_e h
  obtain ⟨z0, q0, rfl, h⟩ := h
  replace h := onB_e h
  obtain ⟨e0, h⟩ := h
  have e0 := Nat.eq_of_beq_eq_true e0
  subst e0
  replace h := p1i_e h
  obtain ⟨x1, q1, rfl, h⟩ := h
  replace h := p1i_e h
  obtain ⟨x2, q2, rfl, h⟩ := h
  replace h := onB_e h
  obtain ⟨e9, h⟩ := h
  have e9 := List.isEmpty_iff.mp e9
  subst e9
  refine ⟨Nat.le_of_ble_eq_true rfl, fun P hP => ?_⟩
  exact h 
def wp_X10_asked (x1 : Int32) (x2 : Int32) (x3 : Int32) (σ : Sg) (Q : Int32 → Prop) : Prop :=
  ∀ L3 : Int32 → Prop,
  (∀ (x4 : Int32), wp_X10_states σ (fun r1 => ((x4 < r1 → wp_X10_isInCube x4 x2 x3 σ (fun r2 => ((r2 = 0 → wp_X10_isInFrame x4 x1 σ (fun r3 => ((r3 = 0 → L3 (x4 + (1 : Int32))) ∧ (¬ r3 = 0 → wp_X10_leadsInto x4 x2 x3 σ (fun r4 => ((r4 = 0 → L3 (x4 + (1 : Int32))) ∧ (¬ r4 = 0 → Q x4))))))) ∧ (¬ r2 = 0 → L3 (x4 + (1 : Int32)))))) ∧ (¬ x4 < r1 → Q (-1 : Int32)))) → L3 x4) →
  L3 (0 : Int32)
def wl_X10_asked : WP := fun As σ Q => p1r As (fun z0 r0 => onB (Nat.beq z0 0) (p1i r0 (fun x1 r1 => p1i r1 (fun x2 r2 => p1i r2 (fun x3 r3 => onB r3.isEmpty (wp_X10_asked x1 x2 x3 σ (fun x => Q (some (.int x)) σ)))))))
def tb_X10_asked : List (Nat × Instr × Nat) := [(0, (.iconst 0, 1)), (1, (.istore 4, 2)), (3, (.iload 4, 2)), (5, (.aload_n 0, 1)), (6, (.invokevirtual 161, 3)), (9, (.if_icmp .ge 52, 3)), (12, (.iload 4, 2)), (14, (.iload_n 2, 1)), (15, (.iload_n 3, 1)), (16, (.invokestatic 200, 3)), (19, (.ifCond .ne 46, 3)), (22, (.aload_n 0, 1)), (23, (.iload 4, 2)), (25, (.iload_n 1, 1)), (26, (.invokevirtual 204, 3)), (29, (.ifCond .eq 46, 3)), (32, (.aload_n 0, 1)), (33, (.iload 4, 2)), (35, (.iload_n 2, 1)), (36, (.iload_n 3, 1)), (37, (.invokevirtual 208, 3)), (40, (.ifCond .eq 46, 3)), (43, (.iload 4, 2)), (45, (.ireturn, 1)), (46, (.iinc 4 1, 3)), (49, (.goto 3, 3)), (52, (.iconst (-1), 1)), (53, (.ireturn, 1))]
def ce_X10_asked : List (Nat × (Nat × Option Nat × WP)) := [(161, (1, some 10, wl_X10_states)), (200, (3, none, wl_X10_isInCube)), (204, (3, some 10, wl_X10_isInFrame)), (208, (4, some 10, wl_X10_leadsInto))]
set_option maxRecDepth 100000 in
set_option maxHeartbeats 4000000 in
theorem ct_X10_asked (l : Launch) : Con l wM yX10_asked cX10_asked 5 (some .int) 2 wl_X10_asked := by
  refine sxm_ok l (ft := lkp ft_RX10) (c32 := lkp c32_RX10) (c64 := lkp c64_RX10) (ce := lkp ce_X10_asked) (sf := lkp sf_RX10) (lab := lkp [(3, [0, 1, 2, 3, 4])]) (T := tb_X10_asked) (by decide +kernel) ft_RX10_ok c32_RX10_ok c64_RX10_ok (fun x q h => (show ∀ q ∈ ce_X10_asked, ceOK l wM RX10 2 q.1 q.2.1 q.2.2.1 q.2.2.2 from List.forall_mem_cons.mpr ⟨⟨yX10_states, cX10_states, 1, (some .int), 0, ct_X10_states l, by decide, by decide, mi_X10_states.1, mi_X10_states.2, ml_RX10_161, mv_X10_states.1, mv_X10_states.2, ⟨_, _, rfl⟩, by decide, by decide +kernel⟩, List.forall_mem_cons.mpr ⟨⟨yX10_isInCube, cX10_isInCube, 3, (some .boolean), 0, ct_X10_isInCube l, by decide, by decide, mi_X10_isInCube.1, mi_X10_isInCube.2, Or.inl ml_RX10_200, ms_X10_isInCube, by decide +kernel⟩, List.forall_mem_cons.mpr ⟨⟨yX10_isInFrame, cX10_isInFrame, 4, (some .boolean), 1, ct_X10_isInFrame l, by decide, by decide, mi_X10_isInFrame.1, mi_X10_isInFrame.2, ml_RX10_204, mv_X10_isInFrame.1, mv_X10_isInFrame.2, ⟨_, _, rfl⟩, by decide, by decide +kernel⟩, List.forall_mem_cons.mpr ⟨⟨yX10_leadsInto, cX10_leadsInto, 6, (some .boolean), 1, ct_X10_leadsInto l, by decide, by decide, mi_X10_leadsInto.1, mi_X10_leadsInto.2, ml_RX10_208, mv_X10_leadsInto.1, mv_X10_leadsInto.2, ⟨_, _, rfl⟩, by decide, by decide +kernel⟩, fun _ h => absurd h List.not_mem_nil⟩⟩⟩⟩) (x, q) (lkp_mem h)) sf_RX10_ok (by decide +kernel) 400 (fun As σ Q h => ?_)
  replace h := p1r_e h
  obtain ⟨z0, q0, rfl, h⟩ := h
  replace h := onB_e h
  obtain ⟨e0, h⟩ := h
  have e0 := Nat.eq_of_beq_eq_true e0
  subst e0
  replace h := p1i_e h
  obtain ⟨x1, q1, rfl, h⟩ := h
  replace h := p1i_e h
  obtain ⟨x2, q2, rfl, h⟩ := h
  replace h := p1i_e h
  obtain ⟨x3, q3, rfl, h⟩ := h
  replace h := onB_e h
  obtain ⟨e9, h⟩ := h
  have e9 := List.isEmpty_iff.mp e9
  subst e9
  refine ⟨Nat.le_of_ble_eq_true rfl, fun P hP => ?_⟩
  exact h (fun x4 => P 3 [.ref 0, .int x1, .int x2, .int x3, .int x4] σ) (fun x4 hb => hP 3 [.ref 0, .int x1, .int x2, .int x3, .int x4] σ hb)
def wp_X10_forerunner (x1 : Int32) (x2 : Int32) (σ : Sg) (Q : Int32 → Prop) : Prop :=
  ∀ L2 : Int32 → Prop,
  (∀ (x3 : Int32), wp_X10_states σ (fun r1 => ((x3 < r1 → ((x3 = x1 → L2 (x3 + (1 : Int32))) ∧ (¬ x3 = x1 → wp_X10_isInFrame x3 x2 σ (fun r2 => ((r2 = 0 → L2 (x3 + (1 : Int32))) ∧ (¬ r2 = 0 → wp_X10_leads x3 x1 σ (fun r3 => ((r3 = 0 → L2 (x3 + (1 : Int32))) ∧ (¬ r3 = 0 → Q x3))))))))) ∧ (¬ x3 < r1 → Q (-1 : Int32)))) → L2 x3) →
  L2 (0 : Int32)
def wl_X10_forerunner : WP := fun As σ Q => p1r As (fun z0 r0 => onB (Nat.beq z0 0) (p1i r0 (fun x1 r1 => p1i r1 (fun x2 r2 => onB r2.isEmpty (wp_X10_forerunner x1 x2 σ (fun x => Q (some (.int x)) σ))))))
def tb_X10_forerunner : List (Nat × Instr × Nat) := [(0, (.iconst 0, 1)), (1, (.istore_n 3, 1)), (2, (.iload_n 3, 1)), (3, (.aload_n 0, 1)), (4, (.invokevirtual 161, 3)), (7, (.if_icmp .ge 41, 3)), (10, (.iload_n 3, 1)), (11, (.iload_n 1, 1)), (12, (.if_icmp .eq 35, 3)), (15, (.aload_n 0, 1)), (16, (.iload_n 3, 1)), (17, (.iload_n 2, 1)), (18, (.invokevirtual 204, 3)), (21, (.ifCond .eq 35, 3)), (24, (.aload_n 0, 1)), (25, (.iload_n 3, 1)), (26, (.iload_n 1, 1)), (27, (.invokevirtual 214, 3)), (30, (.ifCond .eq 35, 3)), (33, (.iload_n 3, 1)), (34, (.ireturn, 1)), (35, (.iinc 3 1, 3)), (38, (.goto 2, 3)), (41, (.iconst (-1), 1)), (42, (.ireturn, 1))]
def ce_X10_forerunner : List (Nat × (Nat × Option Nat × WP)) := [(161, (1, some 10, wl_X10_states)), (204, (3, some 10, wl_X10_isInFrame)), (214, (3, some 10, wl_X10_leads))]
set_option maxRecDepth 100000 in
set_option maxHeartbeats 4000000 in
theorem ct_X10_forerunner (l : Launch) : Con l wM yX10_forerunner cX10_forerunner 4 (some .int) 2 wl_X10_forerunner := by
  refine sxm_ok l (ft := lkp ft_RX10) (c32 := lkp c32_RX10) (c64 := lkp c64_RX10) (ce := lkp ce_X10_forerunner) (sf := lkp sf_RX10) (lab := lkp [(2, [0, 1, 2, 3])]) (T := tb_X10_forerunner) (by decide +kernel) ft_RX10_ok c32_RX10_ok c64_RX10_ok (fun x q h => (show ∀ q ∈ ce_X10_forerunner, ceOK l wM RX10 2 q.1 q.2.1 q.2.2.1 q.2.2.2 from List.forall_mem_cons.mpr ⟨⟨yX10_states, cX10_states, 1, (some .int), 0, ct_X10_states l, by decide, by decide, mi_X10_states.1, mi_X10_states.2, ml_RX10_161, mv_X10_states.1, mv_X10_states.2, ⟨_, _, rfl⟩, by decide, by decide +kernel⟩, List.forall_mem_cons.mpr ⟨⟨yX10_isInFrame, cX10_isInFrame, 4, (some .boolean), 1, ct_X10_isInFrame l, by decide, by decide, mi_X10_isInFrame.1, mi_X10_isInFrame.2, ml_RX10_204, mv_X10_isInFrame.1, mv_X10_isInFrame.2, ⟨_, _, rfl⟩, by decide, by decide +kernel⟩, List.forall_mem_cons.mpr ⟨⟨yX10_leads, cX10_leads, 5, (some .boolean), 1, ct_X10_leads l, by decide, by decide, mi_X10_leads.1, mi_X10_leads.2, ml_RX10_214, mv_X10_leads.1, mv_X10_leads.2, ⟨_, _, rfl⟩, by decide, by decide +kernel⟩, fun _ h => absurd h List.not_mem_nil⟩⟩⟩) (x, q) (lkp_mem h)) sf_RX10_ok (by decide +kernel) 400 (fun As σ Q h => ?_)
  replace h := p1r_e h
  obtain ⟨z0, q0, rfl, h⟩ := h
  replace h := onB_e h
  obtain ⟨e0, h⟩ := h
  have e0 := Nat.eq_of_beq_eq_true e0
  subst e0
  replace h := p1i_e h
  obtain ⟨x1, q1, rfl, h⟩ := h
  replace h := p1i_e h
  obtain ⟨x2, q2, rfl, h⟩ := h
  replace h := onB_e h
  obtain ⟨e9, h⟩ := h
  have e9 := List.isEmpty_iff.mp e9
  subst e9
  refine ⟨Nat.le_of_ble_eq_true rfl, fun P hP => ?_⟩
  exact h (fun x3 => P 2 [.ref 0, .int x1, .int x2, .int x3] σ) (fun x3 hb => hP 2 [.ref 0, .int x1, .int x2, .int x3] σ hb)
def wp_X10_isShut (x1 : Int32) (x2 : Int32) (x3 : Int32) (σ : Sg) (Q : Int32 → Prop) : Prop :=
  ∀ L3 : Int32 → Prop,
  (∀ (x4 : Int32), wp_X10_states σ (fun r1 => ((x4 < r1 → wp_X10_isInFrame x4 x1 σ (fun r2 => ((r2 = 0 → L3 (x4 + (1 : Int32))) ∧ (¬ r2 = 0 → wp_X10_leadsInto x4 x2 x3 σ (fun r3 => ((r3 = 0 → L3 (x4 + (1 : Int32))) ∧ (¬ r3 = 0 → (nz (0 : Int32) ∧ Q (0 : Int32))))))))) ∧ (¬ x4 < r1 → (nz (1 : Int32) ∧ Q (1 : Int32))))) → L3 x4) →
  L3 (0 : Int32)
def wl_X10_isShut : WP := fun As σ Q => p1r As (fun z0 r0 => onB (Nat.beq z0 0) (p1i r0 (fun x1 r1 => p1i r1 (fun x2 r2 => p1i r2 (fun x3 r3 => onB r3.isEmpty (wp_X10_isShut x1 x2 x3 σ (fun x => Q (some (.int x)) σ)))))))
def tb_X10_isShut : List (Nat × Instr × Nat) := [(0, (.iconst 0, 1)), (1, (.istore 4, 2)), (3, (.iload 4, 2)), (5, (.aload_n 0, 1)), (6, (.invokevirtual 161, 3)), (9, (.if_icmp .ge 41, 3)), (12, (.aload_n 0, 1)), (13, (.iload 4, 2)), (15, (.iload_n 1, 1)), (16, (.invokevirtual 204, 3)), (19, (.ifCond .eq 35, 3)), (22, (.aload_n 0, 1)), (23, (.iload 4, 2)), (25, (.iload_n 2, 1)), (26, (.iload_n 3, 1)), (27, (.invokevirtual 208, 3)), (30, (.ifCond .eq 35, 3)), (33, (.iconst 0, 1)), (34, (.ireturn, 1)), (35, (.iinc 4 1, 3)), (38, (.goto 3, 3)), (41, (.iconst 1, 1)), (42, (.ireturn, 1))]
def ce_X10_isShut : List (Nat × (Nat × Option Nat × WP)) := [(161, (1, some 10, wl_X10_states)), (204, (3, some 10, wl_X10_isInFrame)), (208, (4, some 10, wl_X10_leadsInto))]
set_option maxRecDepth 100000 in
set_option maxHeartbeats 4000000 in
theorem ct_X10_isShut (l : Launch) : Con l wM yX10_isShut cX10_isShut 5 (some .boolean) 2 wl_X10_isShut := by
  refine sxm_ok l (ft := lkp ft_RX10) (c32 := lkp c32_RX10) (c64 := lkp c64_RX10) (ce := lkp ce_X10_isShut) (sf := lkp sf_RX10) (lab := lkp [(3, [0, 1, 2, 3, 4])]) (T := tb_X10_isShut) (by decide +kernel) ft_RX10_ok c32_RX10_ok c64_RX10_ok (fun x q h => (show ∀ q ∈ ce_X10_isShut, ceOK l wM RX10 2 q.1 q.2.1 q.2.2.1 q.2.2.2 from List.forall_mem_cons.mpr ⟨⟨yX10_states, cX10_states, 1, (some .int), 0, ct_X10_states l, by decide, by decide, mi_X10_states.1, mi_X10_states.2, ml_RX10_161, mv_X10_states.1, mv_X10_states.2, ⟨_, _, rfl⟩, by decide, by decide +kernel⟩, List.forall_mem_cons.mpr ⟨⟨yX10_isInFrame, cX10_isInFrame, 4, (some .boolean), 1, ct_X10_isInFrame l, by decide, by decide, mi_X10_isInFrame.1, mi_X10_isInFrame.2, ml_RX10_204, mv_X10_isInFrame.1, mv_X10_isInFrame.2, ⟨_, _, rfl⟩, by decide, by decide +kernel⟩, List.forall_mem_cons.mpr ⟨⟨yX10_leadsInto, cX10_leadsInto, 6, (some .boolean), 1, ct_X10_leadsInto l, by decide, by decide, mi_X10_leadsInto.1, mi_X10_leadsInto.2, ml_RX10_208, mv_X10_leadsInto.1, mv_X10_leadsInto.2, ⟨_, _, rfl⟩, by decide, by decide +kernel⟩, fun _ h => absurd h List.not_mem_nil⟩⟩⟩) (x, q) (lkp_mem h)) sf_RX10_ok (by decide +kernel) 400 (fun As σ Q h => ?_)
  replace h := p1r_e h
  obtain ⟨z0, q0, rfl, h⟩ := h
  replace h := onB_e h
  obtain ⟨e0, h⟩ := h
  have e0 := Nat.eq_of_beq_eq_true e0
  subst e0
  replace h := p1i_e h
  obtain ⟨x1, q1, rfl, h⟩ := h
  replace h := p1i_e h
  obtain ⟨x2, q2, rfl, h⟩ := h
  replace h := p1i_e h
  obtain ⟨x3, q3, rfl, h⟩ := h
  replace h := onB_e h
  obtain ⟨e9, h⟩ := h
  have e9 := List.isEmpty_iff.mp e9
  subst e9
  refine ⟨Nat.le_of_ble_eq_true rfl, fun P hP => ?_⟩
  exact h (fun x4 => P 3 [.ref 0, .int x1, .int x2, .int x3, .int x4] σ) (fun x4 hb => hP 3 [.ref 0, .int x1, .int x2, .int x3, .int x4] σ hb)
def wp_X10_hasTrouble  (σ : Sg) (Q : Int32 → Sg → Prop) : Prop :=
  ∀ L2 : Int32 → Sg → Prop,
  (∀ (x1 : Int32) (τ : Sg), wp_X10_states τ (fun r1 => ((x1 < r1 → wp_X10_isInFrame x1 (gI τ 0 23) τ (fun r2 => ((r2 = 0 → L2 (x1 + (1 : Int32)) τ) ∧ (¬ r2 = 0 → wp_X10_isBadState x1 τ (fun r3 => ((r3 = 0 → L2 (x1 + (1 : Int32)) τ) ∧ (¬ r3 = 0 → wp_X10_meet x1 (gI τ 0 23) τ (fun s4 => (nz (1 : Int32) ∧ Q (1 : Int32) s4))))))))) ∧ (¬ x1 < r1 → (nz (0 : Int32) ∧ Q (0 : Int32) τ)))) → L2 x1 τ) →
  L2 (0 : Int32) σ
def wl_X10_hasTrouble : WP := fun As σ Q => p1r As (fun z0 r0 => onB (Nat.beq z0 0) (onB r0.isEmpty (wp_X10_hasTrouble  σ (fun x τ => Q (some (.int x)) τ))))
def tb_X10_hasTrouble : List (Nat × Instr × Nat) := [(0, (.iconst 0, 1)), (1, (.istore_n 1, 1)), (2, (.iload_n 1, 1)), (3, (.aload_n 0, 1)), (4, (.invokevirtual 161, 3)), (7, (.if_icmp .ge 50, 3)), (10, (.aload_n 0, 1)), (11, (.iload_n 1, 1)), (12, (.aload_n 0, 1)), (13, (.getfield 188, 3)), (16, (.invokevirtual 204, 3)), (19, (.ifCond .eq 44, 3)), (22, (.aload_n 0, 1)), (23, (.iload_n 1, 1)), (24, (.invokevirtual 247, 3)), (27, (.ifCond .ne 33, 3)), (30, (.goto 44, 3)), (33, (.aload_n 0, 1)), (34, (.iload_n 1, 1)), (35, (.aload_n 0, 1)), (36, (.getfield 188, 3)), (39, (.invokevirtual 224, 3)), (42, (.iconst 1, 1)), (43, (.ireturn, 1)), (44, (.iinc 1 1, 3)), (47, (.goto 2, 3)), (50, (.iconst 0, 1)), (51, (.ireturn, 1))]
def ce_X10_hasTrouble : List (Nat × (Nat × Option Nat × WP)) := [(161, (1, some 10, wl_X10_states)), (204, (3, some 10, wl_X10_isInFrame)), (247, (2, some 10, wl_X10_isBadState)), (224, (3, some 10, wl_X10_meet))]
set_option maxRecDepth 100000 in
set_option maxHeartbeats 4000000 in
theorem ct_X10_hasTrouble (l : Launch) : Con l wM yX10_hasTrouble cX10_hasTrouble 2 (some .boolean) 2 wl_X10_hasTrouble := by
  refine sxm_ok l (ft := lkp ft_RX10) (c32 := lkp c32_RX10) (c64 := lkp c64_RX10) (ce := lkp ce_X10_hasTrouble) (sf := lkp sf_RX10) (lab := lkp [(2, [0, 1])]) (T := tb_X10_hasTrouble) (by decide +kernel) ft_RX10_ok c32_RX10_ok c64_RX10_ok (fun x q h => (show ∀ q ∈ ce_X10_hasTrouble, ceOK l wM RX10 2 q.1 q.2.1 q.2.2.1 q.2.2.2 from List.forall_mem_cons.mpr ⟨⟨yX10_states, cX10_states, 1, (some .int), 0, ct_X10_states l, by decide, by decide, mi_X10_states.1, mi_X10_states.2, ml_RX10_161, mv_X10_states.1, mv_X10_states.2, ⟨_, _, rfl⟩, by decide, by decide +kernel⟩, List.forall_mem_cons.mpr ⟨⟨yX10_isInFrame, cX10_isInFrame, 4, (some .boolean), 1, ct_X10_isInFrame l, by decide, by decide, mi_X10_isInFrame.1, mi_X10_isInFrame.2, ml_RX10_204, mv_X10_isInFrame.1, mv_X10_isInFrame.2, ⟨_, _, rfl⟩, by decide, by decide +kernel⟩, List.forall_mem_cons.mpr ⟨⟨yX10_isBadState, cX10_isBadState, 4, (some .boolean), 1, ct_X10_isBadState l, by decide, by decide, mi_X10_isBadState.1, mi_X10_isBadState.2, ml_RX10_247, mv_X10_isBadState.1, mv_X10_isBadState.2, ⟨_, _, rfl⟩, by decide, by decide +kernel⟩, List.forall_mem_cons.mpr ⟨⟨yX10_meet, cX10_meet, 3, none, 0, ct_X10_meet l, by decide, by decide, mi_X10_meet.1, mi_X10_meet.2, ml_RX10_224, mv_X10_meet.1, mv_X10_meet.2, ⟨_, _, rfl⟩, by decide, by decide +kernel⟩, fun _ h => absurd h List.not_mem_nil⟩⟩⟩⟩) (x, q) (lkp_mem h)) sf_RX10_ok (by decide +kernel) 400 (fun As σ Q h => ?_)
  replace h := p1r_e h
  obtain ⟨z0, q0, rfl, h⟩ := h
  replace h := onB_e h
  obtain ⟨e0, h⟩ := h
  have e0 := Nat.eq_of_beq_eq_true e0
  subst e0
  replace h := onB_e h
  obtain ⟨e9, h⟩ := h
  have e9 := List.isEmpty_iff.mp e9
  subst e9
  refine ⟨Nat.le_of_ble_eq_true rfl, fun P hP => ?_⟩
  exact h (fun x1 τ => P 2 [.ref 0, .int x1] τ) (fun x1 τ hb => hP 2 [.ref 0, .int x1] τ hb)
def wp_X10_list (x1 : Int32) (x2 : Int32) (σ : Sg) (Q : Int32 → Sg → Prop) : Prop :=
  wp_X10_isCube x1 x2 σ (fun r1 => ((r1 = 0 → wp_X10_no (-7 : Int32) σ (fun r2 s3 => Q r2 s3)) ∧ (¬ r1 = 0 → (((gI σ 0 39) = (100 : Int32) → wp_X10_no (-8 : Int32) σ (fun r4 s5 => Q r4 s5)) ∧ (¬ (gI σ 0 39) = (100 : Int32) → (vp_in (gI σ 0 39) 100 ∧ (vp_in (gI (sI σ 23 ((gI σ 0 39)).toNatClampNeg x1) 0 39) 100 ∧ Q (gI (sI (sI (sI σ 23 ((gI σ 0 39)).toNatClampNeg x1) 24 ((gI (sI σ 23 ((gI σ 0 39)).toNatClampNeg x1) 0 39)).toNatClampNeg x2) 0 39 ((gI (sI (sI σ 23 ((gI σ 0 39)).toNatClampNeg x1) 24 ((gI (sI σ 23 ((gI σ 0 39)).toNatClampNeg x1) 0 39)).toNatClampNeg x2) 0 39) + (1 : Int32))) 0 39) (sI (sI (sI σ 23 ((gI σ 0 39)).toNatClampNeg x1) 24 ((gI (sI σ 23 ((gI σ 0 39)).toNatClampNeg x1) 0 39)).toNatClampNeg x2) 0 39 ((gI (sI (sI σ 23 ((gI σ 0 39)).toNatClampNeg x1) 24 ((gI (sI σ 23 ((gI σ 0 39)).toNatClampNeg x1) 0 39)).toNatClampNeg x2) 0 39) + (1 : Int32))))))))))
def wl_X10_list : WP := fun As σ Q => p1r As (fun z0 r0 => onB (Nat.beq z0 0) (p1i r0 (fun x1 r1 => p1i r1 (fun x2 r2 => onB r2.isEmpty (wp_X10_list x1 x2 σ (fun x τ => Q (some (.int x)) τ))))))
def tb_X10_list : List (Nat × Instr × Nat) := [(0, (.aload_n 0, 1)), (1, (.iload_n 1, 1)), (2, (.iload_n 2, 1)), (3, (.invokevirtual 266, 3)), (6, (.ifCond .ne 16, 3)), (9, (.aload_n 0, 1)), (10, (.bipush (-7), 2)), (12, (.invokevirtual 118, 3)), (15, (.ireturn, 1)), (16, (.aload_n 0, 1)), (17, (.getfield 151, 3)), (20, (.bipush 100, 2)), (22, (.if_icmp .ne 32, 3)), (25, (.aload_n 0, 1)), (26, (.bipush (-8), 2)), (28, (.invokevirtual 118, 3)), (31, (.ireturn, 1)), (32, (.aload_n 0, 1)), (33, (.getfield 85, 3)), (36, (.aload_n 0, 1)), (37, (.getfield 151, 3)), (40, (.iload_n 1, 1)), (41, (.iastore, 1)), (42, (.aload_n 0, 1)), (43, (.getfield 88, 3)), (46, (.aload_n 0, 1)), (47, (.getfield 151, 3)), (50, (.iload_n 2, 1)), (51, (.iastore, 1)), (52, (.aload_n 0, 1)), (53, (.dup, 1)), (54, (.getfield 151, 3)), (57, (.iconst 1, 1)), (58, (.iadd, 1)), (59, (.putfield 151, 3)), (62, (.aload_n 0, 1)), (63, (.getfield 151, 3)), (66, (.ireturn, 1))]
def ce_X10_list : List (Nat × (Nat × Option Nat × WP)) := [(266, (3, some 10, wl_X10_isCube)), (118, (2, some 10, wl_X10_no))]
set_option maxRecDepth 100000 in
set_option maxHeartbeats 4000000 in
theorem ct_X10_list (l : Launch) : Con l wM yX10_list cX10_list 3 (some .int) 2 wl_X10_list := by
  refine sxm_ok l (ft := lkp ft_RX10) (c32 := lkp c32_RX10) (c64 := lkp c64_RX10) (ce := lkp ce_X10_list) (sf := lkp sf_RX10) (lab := lkp []) (T := tb_X10_list) (by decide +kernel) ft_RX10_ok c32_RX10_ok c64_RX10_ok (fun x q h => (show ∀ q ∈ ce_X10_list, ceOK l wM RX10 2 q.1 q.2.1 q.2.2.1 q.2.2.2 from List.forall_mem_cons.mpr ⟨⟨yX10_isCube, cX10_isCube, 3, (some .boolean), 1, ct_X10_isCube l, by decide, by decide, mi_X10_isCube.1, mi_X10_isCube.2, ml_RX10_266, mv_X10_isCube.1, mv_X10_isCube.2, ⟨_, _, rfl⟩, by decide, by decide +kernel⟩, List.forall_mem_cons.mpr ⟨⟨yX10_no, cX10_no, 2, (some .int), 0, ct_X10_no l, by decide, by decide, mi_X10_no.1, mi_X10_no.2, ml_RX10_118, mv_X10_no.1, mv_X10_no.2, ⟨_, _, rfl⟩, by decide, by decide +kernel⟩, fun _ h => absurd h List.not_mem_nil⟩⟩) (x, q) (lkp_mem h)) sf_RX10_ok (by decide +kernel) 400 (fun As σ Q h => ?_)
  replace h := p1r_e h
  obtain ⟨z0, q0, rfl, h⟩ := h
  replace h := onB_e h
  obtain ⟨e0, h⟩ := h
  have e0 := Nat.eq_of_beq_eq_true e0
  subst e0
  replace h := p1i_e h
  obtain ⟨x1, q1, rfl, h⟩ := h
  replace h := p1i_e h
  obtain ⟨x2, q2, rfl, h⟩ := h
  replace h := onB_e h
  obtain ⟨e9, h⟩ := h
  have e9 := List.isEmpty_iff.mp e9
  subst e9
  refine ⟨Nat.le_of_ble_eq_true rfl, fun P hP => ?_⟩
  exact h 
def wp_X10_lay (x1 : Int32) (x2 : Int32) (σ : Sg) (Q : Int32 → Sg → Prop) : Prop :=
  ∀ L47 : Int32 → Sg → Prop,
  (∀ (x3 : Int32) (τ : Sg), ((x3 < (gI τ 0 5) → (vp_in x3 80 ∧ (((gI τ 5 (x3).toNatClampNeg) = 0 → (vp_in x3 80 ∧ L47 (x3 + (1 : Int32)) (sI τ 25 (x3).toNatClampNeg (0 : Int32)))) ∧ (¬ (gI τ 5 (x3).toNatClampNeg) = 0 → (vp_in x3 80 ∧ L47 (x3 + (1 : Int32)) (sI τ 25 (x3).toNatClampNeg (1 : Int32))))))) ∧ (¬ x3 < (gI τ 0 5) → Q (gI τ 0 5) τ)) → L47 x3 τ) →
  wp_X10_isState x1 σ (fun r1 => ((r1 = 0 → wp_X10_no (-3 : Int32) σ (fun r2 s3 => Q r2 s3)) ∧ (¬ r1 = 0 → wp_X10_ways σ (fun r4 => wp_X10_isIn (x2).toInt64 (0 : Int64) ((r4 - (1 : Int32))).toInt64 σ (fun r5 => ((r5 = 0 → wp_X10_no (-3 : Int32) σ (fun r6 s7 => Q r6 s7)) ∧ (¬ r5 = 0 → wp_X10_show x1 x2 σ (fun s8 => L47 (0 : Int32) (sI s8 0 46 (gI s8 0 5))))))))))
def wl_X10_lay : WP := fun As σ Q => p1r As (fun z0 r0 => onB (Nat.beq z0 0) (p1i r0 (fun x1 r1 => p1i r1 (fun x2 r2 => onB r2.isEmpty (wp_X10_lay x1 x2 σ (fun x τ => Q (some (.int x)) τ))))))
def tb_X10_lay : List (Nat × Instr × Nat) := [(0, (.aload_n 0, 1)), (1, (.iload_n 1, 1)), (2, (.invokevirtual 185, 3)), (5, (.ifCond .eq 24, 3)), (8, (.iload_n 2, 1)), (9, (.i2l, 1)), (10, (.lconst 0, 1)), (11, (.aload_n 0, 1)), (12, (.invokevirtual 165, 3)), (15, (.iconst 1, 1)), (16, (.isub, 1)), (17, (.i2l, 1)), (18, (.invokestatic 133, 3)), (21, (.ifCond .ne 31, 3)), (24, (.aload_n 0, 1)), (25, (.bipush (-3), 2)), (27, (.invokevirtual 118, 3)), (30, (.ireturn, 1)), (31, (.aload_n 0, 1)), (32, (.iload_n 1, 1)), (33, (.iload_n 2, 1)), (34, (.invokevirtual 168, 3)), (37, (.aload_n 0, 1)), (38, (.aload_n 0, 1)), (39, (.getfield 112, 3)), (42, (.putfield 103, 3)), (45, (.iconst 0, 1)), (46, (.istore_n 3, 1)), (47, (.iload_n 3, 1)), (48, (.aload_n 0, 1)), (49, (.getfield 112, 3)), (52, (.if_icmp .ge 81, 3)), (55, (.aload_n 0, 1)), (56, (.getfield 97, 3)), (59, (.iload_n 3, 1)), (60, (.aload_n 0, 1)), (61, (.getfield 22, 3)), (64, (.iload_n 3, 1)), (65, (.baload, 1)), (66, (.ifCond .eq 73, 3)), (69, (.iconst 1, 1)), (70, (.goto 74, 3)), (73, (.iconst 0, 1)), (74, (.iastore, 1)), (75, (.iinc 3 1, 3)), (78, (.goto 47, 3)), (81, (.aload_n 0, 1)), (82, (.getfield 112, 3)), (85, (.ireturn, 1))]
def ce_X10_lay : List (Nat × (Nat × Option Nat × WP)) := [(185, (2, some 10, wl_X10_isState)), (165, (1, some 10, wl_X10_ways)), (133, (3, none, wl_X10_isIn)), (118, (2, some 10, wl_X10_no)), (168, (3, some 10, wl_X10_show))]
set_option maxRecDepth 100000 in
set_option maxHeartbeats 4000000 in
theorem ct_X10_lay (l : Launch) : Con l wM yX10_lay cX10_lay 4 (some .int) 2 wl_X10_lay := by
  refine sxm_ok l (ft := lkp ft_RX10) (c32 := lkp c32_RX10) (c64 := lkp c64_RX10) (ce := lkp ce_X10_lay) (sf := lkp sf_RX10) (lab := lkp [(47, [0, 3])]) (T := tb_X10_lay) (by decide +kernel) ft_RX10_ok c32_RX10_ok c64_RX10_ok (fun x q h => (show ∀ q ∈ ce_X10_lay, ceOK l wM RX10 2 q.1 q.2.1 q.2.2.1 q.2.2.2 from List.forall_mem_cons.mpr ⟨⟨yX10_isState, cX10_isState, 2, (some .boolean), 1, ct_X10_isState l, by decide, by decide, mi_X10_isState.1, mi_X10_isState.2, ml_RX10_185, mv_X10_isState.1, mv_X10_isState.2, ⟨_, _, rfl⟩, by decide, by decide +kernel⟩, List.forall_mem_cons.mpr ⟨⟨yX10_ways, cX10_ways, 1, (some .int), 0, ct_X10_ways l, by decide, by decide, mi_X10_ways.1, mi_X10_ways.2, ml_RX10_165, mv_X10_ways.1, mv_X10_ways.2, ⟨_, _, rfl⟩, by decide, by decide +kernel⟩, List.forall_mem_cons.mpr ⟨⟨yX10_isIn, cX10_isIn, 6, (some .boolean), 0, ct_X10_isIn l, by decide, by decide, mi_X10_isIn.1, mi_X10_isIn.2, Or.inl ml_RX10_133, ms_X10_isIn, by decide +kernel⟩, List.forall_mem_cons.mpr ⟨⟨yX10_no, cX10_no, 2, (some .int), 0, ct_X10_no l, by decide, by decide, mi_X10_no.1, mi_X10_no.2, ml_RX10_118, mv_X10_no.1, mv_X10_no.2, ⟨_, _, rfl⟩, by decide, by decide +kernel⟩, List.forall_mem_cons.mpr ⟨⟨yX10_show, cX10_show, 4, none, 1, ct_X10_show l, by decide, by decide, mi_X10_show.1, mi_X10_show.2, ml_RX10_168, mv_X10_show.1, mv_X10_show.2, ⟨_, _, rfl⟩, by decide, by decide +kernel⟩, fun _ h => absurd h List.not_mem_nil⟩⟩⟩⟩⟩) (x, q) (lkp_mem h)) sf_RX10_ok (by decide +kernel) 400 (fun As σ Q h => ?_)
  replace h := p1r_e h
  obtain ⟨z0, q0, rfl, h⟩ := h
  replace h := onB_e h
  obtain ⟨e0, h⟩ := h
  have e0 := Nat.eq_of_beq_eq_true e0
  subst e0
  replace h := p1i_e h
  obtain ⟨x1, q1, rfl, h⟩ := h
  replace h := p1i_e h
  obtain ⟨x2, q2, rfl, h⟩ := h
  replace h := onB_e h
  obtain ⟨e9, h⟩ := h
  have e9 := List.isEmpty_iff.mp e9
  subst e9
  refine ⟨Nat.le_of_ble_eq_true rfl, fun P hP => ?_⟩
  exact h (fun x3 τ => P 47 [.ref 0, .int x3] τ) (fun x3 τ hb => hP 47 [.ref 0, .int x3] τ hb)
def wp_X10_step (x1 : Int32) (σ : Sg) (Q : Int32 → Sg → Prop) : Prop :=
  wp_X10_ways σ (fun r1 => wp_X10_isIn (x1).toInt64 (0 : Int64) ((r1 - (1 : Int32))).toInt64 σ (fun r2 => ((r2 = 0 → wp_X10_no (-3 : Int32) σ (fun r3 s4 => Q r3 s4)) ∧ (¬ r2 = 0 → wp_X10_table σ (fun s5 => (vp_in (((16 : Int32) * (gI s5 0 19)) + x1) 4096 ∧ (((gI s5 9 ((((16 : Int32) * (gI s5 0 19)) + x1)).toNatClampNeg) < 0 → wp_X10_no (-7 : Int32) s5 (fun r6 s7 => Q r6 s7)) ∧ (¬ (gI s5 9 ((((16 : Int32) * (gI s5 0 19)) + x1)).toNatClampNeg) < 0 → Q (gI s5 9 ((((16 : Int32) * (gI s5 0 19)) + x1)).toNatClampNeg) (sI s5 0 19 (gI s5 9 ((((16 : Int32) * (gI s5 0 19)) + x1)).toNatClampNeg))))))))))
def wl_X10_step : WP := fun As σ Q => p1r As (fun z0 r0 => onB (Nat.beq z0 0) (p1i r0 (fun x1 r1 => onB r1.isEmpty (wp_X10_step x1 σ (fun x τ => Q (some (.int x)) τ)))))
def tb_X10_step : List (Nat × Instr × Nat) := [(0, (.iload_n 1, 1)), (1, (.i2l, 1)), (2, (.lconst 0, 1)), (3, (.aload_n 0, 1)), (4, (.invokevirtual 165, 3)), (7, (.iconst 1, 1)), (8, (.isub, 1)), (9, (.i2l, 1)), (10, (.invokestatic 133, 3)), (13, (.ifCond .ne 23, 3)), (16, (.aload_n 0, 1)), (17, (.bipush (-3), 2)), (19, (.invokevirtual 118, 3)), (22, (.ireturn, 1)), (23, (.aload_n 0, 1)), (24, (.invokevirtual 182, 3)), (27, (.aload_n 0, 1)), (28, (.getfield 39, 3)), (31, (.bipush 16, 2)), (33, (.aload_n 0, 1)), (34, (.getfield 179, 3)), (37, (.imul, 1)), (38, (.iload_n 1, 1)), (39, (.iadd, 1)), (40, (.iaload, 1)), (41, (.istore_n 2, 1)), (42, (.iload_n 2, 1)), (43, (.ifCond .ge 53, 3)), (46, (.aload_n 0, 1)), (47, (.bipush (-7), 2)), (49, (.invokevirtual 118, 3)), (52, (.ireturn, 1)), (53, (.aload_n 0, 1)), (54, (.iload_n 2, 1)), (55, (.putfield 179, 3)), (58, (.iload_n 2, 1)), (59, (.ireturn, 1))]
def ce_X10_step : List (Nat × (Nat × Option Nat × WP)) := [(165, (1, some 10, wl_X10_ways)), (133, (3, none, wl_X10_isIn)), (118, (2, some 10, wl_X10_no)), (182, (1, some 10, wl_X10_table))]
set_option maxRecDepth 100000 in
set_option maxHeartbeats 4000000 in
theorem ct_X10_step (l : Launch) : Con l wM yX10_step cX10_step 3 (some .int) 3 wl_X10_step := by
  refine sxm_ok l (ft := lkp ft_RX10) (c32 := lkp c32_RX10) (c64 := lkp c64_RX10) (ce := lkp ce_X10_step) (sf := lkp sf_RX10) (lab := lkp []) (T := tb_X10_step) (by decide +kernel) ft_RX10_ok c32_RX10_ok c64_RX10_ok (fun x q h => (show ∀ q ∈ ce_X10_step, ceOK l wM RX10 3 q.1 q.2.1 q.2.2.1 q.2.2.2 from List.forall_mem_cons.mpr ⟨⟨yX10_ways, cX10_ways, 1, (some .int), 0, ct_X10_ways l, by decide, by decide, mi_X10_ways.1, mi_X10_ways.2, ml_RX10_165, mv_X10_ways.1, mv_X10_ways.2, ⟨_, _, rfl⟩, by decide, by decide +kernel⟩, List.forall_mem_cons.mpr ⟨⟨yX10_isIn, cX10_isIn, 6, (some .boolean), 0, ct_X10_isIn l, by decide, by decide, mi_X10_isIn.1, mi_X10_isIn.2, Or.inl ml_RX10_133, ms_X10_isIn, by decide +kernel⟩, List.forall_mem_cons.mpr ⟨⟨yX10_no, cX10_no, 2, (some .int), 0, ct_X10_no l, by decide, by decide, mi_X10_no.1, mi_X10_no.2, ml_RX10_118, mv_X10_no.1, mv_X10_no.2, ⟨_, _, rfl⟩, by decide, by decide +kernel⟩, List.forall_mem_cons.mpr ⟨⟨yX10_table, cX10_table, 5, none, 2, ct_X10_table l, by decide, by decide, mi_X10_table.1, mi_X10_table.2, ml_RX10_182, mv_X10_table.1, mv_X10_table.2, ⟨_, _, rfl⟩, by decide, by decide +kernel⟩, fun _ h => absurd h List.not_mem_nil⟩⟩⟩⟩) (x, q) (lkp_mem h)) sf_RX10_ok (by decide +kernel) 400 (fun As σ Q h => ?_)
  replace h := p1r_e h
  obtain ⟨z0, q0, rfl, h⟩ := h
  replace h := onB_e h
  obtain ⟨e0, h⟩ := h
  have e0 := Nat.eq_of_beq_eq_true e0
  subst e0
  replace h := p1i_e h
  obtain ⟨x1, q1, rfl, h⟩ := h
  replace h := onB_e h
  obtain ⟨e9, h⟩ := h
  have e9 := List.isEmpty_iff.mp e9
  subst e9
  refine ⟨Nat.le_of_ble_eq_true rfl, fun P hP => ?_⟩
  exact h 
def wp_X10_at (x1 : Int32) (x2 : Int32) (x3 : Int32) (σ : Sg) (Q : Int32 → Sg → Prop) : Prop :=
  wp_X10_isState x1 σ (fun r1 => ((r1 = 0 → wp_X10_no (-3 : Int32) σ (fun r2 s3 => Q r2 s3)) ∧ (¬ r1 = 0 → wp_X10_ways σ (fun r4 => wp_X10_isIn (x2).toInt64 (0 : Int64) ((r4 - (1 : Int32))).toInt64 σ (fun r5 => ((r5 = 0 → wp_X10_no (-3 : Int32) σ (fun r6 s7 => Q r6 s7)) ∧ (¬ r5 = 0 → wp_X10_isIn (x3).toInt64 (0 : Int64) (2 : Int64) σ (fun r8 => ((r8 = 0 → wp_X10_no (-7 : Int32) σ (fun r9 s10 => Q r9 s10)) ∧ (¬ r8 = 0 → wp_X10_table σ (fun s11 => ((x3 = 0 → (vp_in (((16 : Int32) * x1) + x2) 4096 ∧ Q (gI s11 9 ((((16 : Int32) * x1) + x2)).toNatClampNeg) s11)) ∧ (¬ x3 = 0 → ((x3 = (1 : Int32) → (vp_in (((16 : Int32) * x1) + x2) 4096 ∧ (((gI s11 9 ((((16 : Int32) * x1) + x2)).toNatClampNeg) < 0 → Q (0 : Int32) s11) ∧ (¬ (gI s11 9 ((((16 : Int32) * x1) + x2)).toNatClampNeg) < 0 → Q (1 : Int32) s11)))) ∧ (¬ x3 = (1 : Int32) → (vp_in (((16 : Int32) * x1) + x2) 4096 ∧ (((gI s11 11 ((((16 : Int32) * x1) + x2)).toNatClampNeg) = 0 → Q (0 : Int32) s11) ∧ (¬ (gI s11 11 ((((16 : Int32) * x1) + x2)).toNatClampNeg) = 0 → Q (1 : Int32) s11))))))))))))))))))
def wl_X10_at : WP := fun As σ Q => p1r As (fun z0 r0 => onB (Nat.beq z0 0) (p1i r0 (fun x1 r1 => p1i r1 (fun x2 r2 => p1i r2 (fun x3 r3 => onB r3.isEmpty (wp_X10_at x1 x2 x3 σ (fun x τ => Q (some (.int x)) τ)))))))
def tb_X10_at : List (Nat × Instr × Nat) := [(0, (.aload_n 0, 1)), (1, (.iload_n 1, 1)), (2, (.invokevirtual 185, 3)), (5, (.ifCond .eq 24, 3)), (8, (.iload_n 2, 1)), (9, (.i2l, 1)), (10, (.lconst 0, 1)), (11, (.aload_n 0, 1)), (12, (.invokevirtual 165, 3)), (15, (.iconst 1, 1)), (16, (.isub, 1)), (17, (.i2l, 1)), (18, (.invokestatic 133, 3)), (21, (.ifCond .ne 31, 3)), (24, (.aload_n 0, 1)), (25, (.bipush (-3), 2)), (27, (.invokevirtual 118, 3)), (30, (.ireturn, 1)), (31, (.iload_n 3, 1)), (32, (.i2l, 1)), (33, (.lconst 0, 1)), (34, (.ldc2_w 143, 3)), (37, (.invokestatic 133, 3)), (40, (.ifCond .ne 50, 3)), (43, (.aload_n 0, 1)), (44, (.bipush (-7), 2)), (46, (.invokevirtual 118, 3)), (49, (.ireturn, 1)), (50, (.aload_n 0, 1)), (51, (.invokevirtual 182, 3)), (54, (.bipush 16, 2)), (56, (.iload_n 1, 1)), (57, (.imul, 1)), (58, (.iload_n 2, 1)), (59, (.iadd, 1)), (60, (.istore 4, 2)), (62, (.iload_n 3, 1)), (63, (.ifCond .ne 76, 3)), (66, (.aload_n 0, 1)), (67, (.getfield 39, 3)), (70, (.iload 4, 2)), (72, (.iaload, 1)), (73, (.goto 114, 3)), (76, (.iload_n 3, 1)), (77, (.iconst 1, 1)), (78, (.if_icmp .ne 99, 3)), (81, (.aload_n 0, 1)), (82, (.getfield 39, 3)), (85, (.iload 4, 2)), (87, (.iaload, 1)), (88, (.ifCond .lt 95, 3)), (91, (.iconst 1, 1)), (92, (.goto 114, 3)), (95, (.iconst 0, 1)), (96, (.goto 114, 3)), (99, (.aload_n 0, 1)), (100, (.getfield 45, 3)), (103, (.iload 4, 2)), (105, (.baload, 1)), (106, (.ifCond .eq 113, 3)), (109, (.iconst 1, 1)), (110, (.goto 114, 3)), (113, (.iconst 0, 1)), (114, (.ireturn, 1))]
def ce_X10_at : List (Nat × (Nat × Option Nat × WP)) := [(185, (2, some 10, wl_X10_isState)), (165, (1, some 10, wl_X10_ways)), (133, (3, none, wl_X10_isIn)), (118, (2, some 10, wl_X10_no)), (182, (1, some 10, wl_X10_table))]
set_option maxRecDepth 100000 in
set_option maxHeartbeats 4000000 in
theorem ct_X10_at (l : Launch) : Con l wM yX10_at cX10_at 5 (some .int) 3 wl_X10_at := by
  refine sxm_ok l (ft := lkp ft_RX10) (c32 := lkp c32_RX10) (c64 := lkp c64_RX10) (ce := lkp ce_X10_at) (sf := lkp sf_RX10) (lab := lkp []) (T := tb_X10_at) (by decide +kernel) ft_RX10_ok c32_RX10_ok c64_RX10_ok (fun x q h => (show ∀ q ∈ ce_X10_at, ceOK l wM RX10 3 q.1 q.2.1 q.2.2.1 q.2.2.2 from List.forall_mem_cons.mpr ⟨⟨yX10_isState, cX10_isState, 2, (some .boolean), 1, ct_X10_isState l, by decide, by decide, mi_X10_isState.1, mi_X10_isState.2, ml_RX10_185, mv_X10_isState.1, mv_X10_isState.2, ⟨_, _, rfl⟩, by decide, by decide +kernel⟩, List.forall_mem_cons.mpr ⟨⟨yX10_ways, cX10_ways, 1, (some .int), 0, ct_X10_ways l, by decide, by decide, mi_X10_ways.1, mi_X10_ways.2, ml_RX10_165, mv_X10_ways.1, mv_X10_ways.2, ⟨_, _, rfl⟩, by decide, by decide +kernel⟩, List.forall_mem_cons.mpr ⟨⟨yX10_isIn, cX10_isIn, 6, (some .boolean), 0, ct_X10_isIn l, by decide, by decide, mi_X10_isIn.1, mi_X10_isIn.2, Or.inl ml_RX10_133, ms_X10_isIn, by decide +kernel⟩, List.forall_mem_cons.mpr ⟨⟨yX10_no, cX10_no, 2, (some .int), 0, ct_X10_no l, by decide, by decide, mi_X10_no.1, mi_X10_no.2, ml_RX10_118, mv_X10_no.1, mv_X10_no.2, ⟨_, _, rfl⟩, by decide, by decide +kernel⟩, List.forall_mem_cons.mpr ⟨⟨yX10_table, cX10_table, 5, none, 2, ct_X10_table l, by decide, by decide, mi_X10_table.1, mi_X10_table.2, ml_RX10_182, mv_X10_table.1, mv_X10_table.2, ⟨_, _, rfl⟩, by decide, by decide +kernel⟩, fun _ h => absurd h List.not_mem_nil⟩⟩⟩⟩⟩) (x, q) (lkp_mem h)) sf_RX10_ok (by decide +kernel) 400 (fun As σ Q h => ?_)
  replace h := p1r_e h
  obtain ⟨z0, q0, rfl, h⟩ := h
  replace h := onB_e h
  obtain ⟨e0, h⟩ := h
  have e0 := Nat.eq_of_beq_eq_true e0
  subst e0
  replace h := p1i_e h
  obtain ⟨x1, q1, rfl, h⟩ := h
  replace h := p1i_e h
  obtain ⟨x2, q2, rfl, h⟩ := h
  replace h := p1i_e h
  obtain ⟨x3, q3, rfl, h⟩ := h
  replace h := onB_e h
  obtain ⟨e9, h⟩ := h
  have e9 := List.isEmpty_iff.mp e9
  subst e9
  refine ⟨Nat.le_of_ble_eq_true rfl, fun P hP => ?_⟩
  exact h 
def wp_X10_widened (x1 : Int32) (x2 : Int32) (x3 : Int32) (σ : Sg) (Q : Int32 → Prop) : Prop :=
  ∀ L6 : Int32 → Int32 → Prop,
  (∀ (x4 : Int32) (x5 : Int32), ((x5 < (gI σ 0 6) → (((x4 &&& (((1 : Int32) <<< (x5 &&& 31)) ^^^ (-1 : Int32))) = x4 → L6 x4 (x5 + (1 : Int32))) ∧ (¬ (x4 &&& (((1 : Int32) <<< (x5 &&& 31)) ^^^ (-1 : Int32))) = x4 → wp_X10_isInCube (gI σ 0 8) (x4 &&& (((1 : Int32) <<< (x5 &&& 31)) ^^^ (-1 : Int32))) (x3 &&& (x4 &&& (((1 : Int32) <<< (x5 &&& 31)) ^^^ (-1 : Int32)))) σ (fun r1 => ((r1 = 0 → wp_X10_asked (x1 - (1 : Int32)) (x4 &&& (((1 : Int32) <<< (x5 &&& 31)) ^^^ (-1 : Int32))) (x3 &&& (x4 &&& (((1 : Int32) <<< (x5 &&& 31)) ^^^ (-1 : Int32)))) σ (fun r2 => ((r2 < 0 → L6 (x4 &&& (((1 : Int32) <<< (x5 &&& 31)) ^^^ (-1 : Int32))) (x5 + (1 : Int32))) ∧ (¬ r2 < 0 → L6 x4 (x5 + (1 : Int32)))))) ∧ (¬ r1 = 0 → L6 x4 (x5 + (1 : Int32)))))))) ∧ (¬ x5 < (gI σ 0 6) → Q x4)) → L6 x4 x5) →
  L6 x2 (0 : Int32)
def wl_X10_widened : WP := fun As σ Q => p1r As (fun z0 r0 => onB (Nat.beq z0 0) (p1i r0 (fun x1 r1 => p1i r1 (fun x2 r2 => p1i r2 (fun x3 r3 => onB r3.isEmpty (wp_X10_widened x1 x2 x3 σ (fun x => Q (some (.int x)) σ)))))))
def tb_X10_widened : List (Nat × Instr × Nat) := [(0, (.iload_n 2, 1)), (1, (.istore 4, 2)), (3, (.iconst 0, 1)), (4, (.istore 5, 2)), (6, (.iload 5, 2)), (8, (.aload_n 0, 1)), (9, (.getfield 106, 3)), (12, (.if_icmp .ge 75, 3)), (15, (.iload 4, 2)), (17, (.iconst 1, 1)), (18, (.iload 5, 2)), (20, (.ishl, 1)), (21, (.iconst (-1), 1)), (22, (.ixor, 1)), (23, (.iand, 1)), (24, (.istore 6, 2)), (26, (.iload 6, 2)), (28, (.iload 4, 2)), (30, (.if_icmp .eq 69, 3)), (33, (.aload_n 0, 1)), (34, (.getfield 122, 3)), (37, (.iload 6, 2)), (39, (.iload_n 3, 1)), (40, (.iload 6, 2)), (42, (.iand, 1)), (43, (.invokestatic 200, 3)), (46, (.ifCond .ne 69, 3)), (49, (.aload_n 0, 1)), (50, (.iload_n 1, 1)), (51, (.iconst 1, 1)), (52, (.isub, 1)), (53, (.iload 6, 2)), (55, (.iload_n 3, 1)), (56, (.iload 6, 2)), (58, (.iand, 1)), (59, (.invokevirtual 211, 3)), (62, (.ifCond .ge 69, 3)), (65, (.iload 6, 2)), (67, (.istore 4, 2)), (69, (.iinc 5 1, 3)), (72, (.goto 6, 3)), (75, (.iload 4, 2)), (77, (.ireturn, 1))]
def ce_X10_widened : List (Nat × (Nat × Option Nat × WP)) := [(200, (3, none, wl_X10_isInCube)), (211, (4, some 10, wl_X10_asked))]
set_option maxRecDepth 100000 in
set_option maxHeartbeats 4000000 in
theorem ct_X10_widened (l : Launch) : Con l wM yX10_widened cX10_widened 7 (some .int) 3 wl_X10_widened := by
  refine sxm_ok l (ft := lkp ft_RX10) (c32 := lkp c32_RX10) (c64 := lkp c64_RX10) (ce := lkp ce_X10_widened) (sf := lkp sf_RX10) (lab := lkp [(6, [0, 1, 3, 4, 5])]) (T := tb_X10_widened) (by decide +kernel) ft_RX10_ok c32_RX10_ok c64_RX10_ok (fun x q h => (show ∀ q ∈ ce_X10_widened, ceOK l wM RX10 3 q.1 q.2.1 q.2.2.1 q.2.2.2 from List.forall_mem_cons.mpr ⟨⟨yX10_isInCube, cX10_isInCube, 3, (some .boolean), 0, ct_X10_isInCube l, by decide, by decide, mi_X10_isInCube.1, mi_X10_isInCube.2, Or.inl ml_RX10_200, ms_X10_isInCube, by decide +kernel⟩, List.forall_mem_cons.mpr ⟨⟨yX10_asked, cX10_asked, 5, (some .int), 2, ct_X10_asked l, by decide, by decide, mi_X10_asked.1, mi_X10_asked.2, ml_RX10_211, mv_X10_asked.1, mv_X10_asked.2, ⟨_, _, rfl⟩, by decide, by decide +kernel⟩, fun _ h => absurd h List.not_mem_nil⟩⟩) (x, q) (lkp_mem h)) sf_RX10_ok (by decide +kernel) 400 (fun As σ Q h => ?_)
  replace h := p1r_e h
  obtain ⟨z0, q0, rfl, h⟩ := h
  replace h := onB_e h
  obtain ⟨e0, h⟩ := h
  have e0 := Nat.eq_of_beq_eq_true e0
  subst e0
  replace h := p1i_e h
  obtain ⟨x1, q1, rfl, h⟩ := h
  replace h := p1i_e h
  obtain ⟨x2, q2, rfl, h⟩ := h
  replace h := p1i_e h
  obtain ⟨x3, q3, rfl, h⟩ := h
  replace h := onB_e h
  obtain ⟨e9, h⟩ := h
  have e9 := List.isEmpty_iff.mp e9
  subst e9
  refine ⟨Nat.le_of_ble_eq_true rfl, fun P hP => ?_⟩
  exact h (fun x4 x5 => P 6 [.ref 0, .int x1, .int x3, .int x4, .int x5] σ) (fun x4 x5 hb => hP 6 [.ref 0, .int x1, .int x3, .int x4, .int x5] σ hb)
def wp_X10_push (x1 : Int32) (σ : Sg) (Q : Sg → Prop) : Prop :=
  ∀ L2 : Int32 → Sg → Prop,
  (∀ (x2 : Int32) (τ : Sg), (vp_in x1 25 ∧ ((x2 < (gI τ 14 (x1).toNatClampNeg) → (((gI τ 0 24) = 0 → (vp_in (((200 : Int32) * x1) + x2) 5000 ∧ (vp_in (((200 : Int32) * x1) + x2) 5000 ∧ wp_X10_has (x1 + (1 : Int32)) (gI τ 12 ((((200 : Int32) * x1) + x2)).toNatClampNeg) (gI τ 13 ((((200 : Int32) * x1) + x2)).toNatClampNeg) τ (fun r1 => ((r1 = 0 → (vp_in (((200 : Int32) * x1) + x2) 5000 ∧ (vp_in (((200 : Int32) * x1) + x2) 5000 ∧ wp_X10_isShut x1 (gI τ 12 ((((200 : Int32) * x1) + x2)).toNatClampNeg) (gI τ 13 ((((200 : Int32) * x1) + x2)).toNatClampNeg) τ (fun r2 => ((r2 = 0 → L2 (x2 + (1 : Int32)) τ) ∧ (¬ r2 = 0 → (vp_in (x1 + (1 : Int32)) 25 ∧ (((gI τ 14 ((x1 + (1 : Int32))).toNatClampNeg) = (200 : Int32) → L2 (x2 + (1 : Int32)) (sI τ 0 24 (3 : Int32))) ∧ (¬ (gI τ 14 ((x1 + (1 : Int32))).toNatClampNeg) = (200 : Int32) → (vp_in (((200 : Int32) * x1) + x2) 5000 ∧ (vp_in (((200 : Int32) * x1) + x2) 5000 ∧ wp_X10_keep (x1 + (1 : Int32)) (gI τ 12 ((((200 : Int32) * x1) + x2)).toNatClampNeg) (gI τ 13 ((((200 : Int32) * x1) + x2)).toNatClampNeg) τ (fun s3 => L2 (x2 + (1 : Int32)) s3)))))))))))) ∧ (¬ r1 = 0 → L2 (x2 + (1 : Int32)) τ)))))) ∧ (¬ (gI τ 0 24) = 0 → Q τ))) ∧ (¬ x2 < (gI τ 14 (x1).toNatClampNeg) → Q τ))) → L2 x2 τ) →
  L2 (0 : Int32) σ
def wl_X10_push : WP := fun As σ Q => p1r As (fun z0 r0 => onB (Nat.beq z0 0) (p1i r0 (fun x1 r1 => onB r1.isEmpty (wp_X10_push x1 σ (fun τ => Q none τ)))))
def tb_X10_push : List (Nat × Instr × Nat) := [(0, (.iconst 0, 1)), (1, (.istore_n 2, 1)), (2, (.iload_n 2, 1)), (3, (.aload_n 0, 1)), (4, (.getfield 54, 3)), (7, (.iload_n 1, 1)), (8, (.iaload, 1)), (9, (.if_icmp .ge 119, 3)), (12, (.aload_n 0, 1)), (13, (.getfield 191, 3)), (16, (.ifCond .ne 119, 3)), (19, (.sipush 200, 3)), (22, (.iload_n 1, 1)), (23, (.imul, 1)), (24, (.iload_n 2, 1)), (25, (.iadd, 1)), (26, (.istore_n 3, 1)), (27, (.aload_n 0, 1)), (28, (.iload_n 1, 1)), (29, (.iconst 1, 1)), (30, (.iadd, 1)), (31, (.aload_n 0, 1)), (32, (.getfield 48, 3)), (35, (.iload_n 3, 1)), (36, (.iaload, 1)), (37, (.aload_n 0, 1)), (38, (.getfield 51, 3)), (41, (.iload_n 3, 1)), (42, (.iaload, 1)), (43, (.invokevirtual 234, 3)), (46, (.ifCond .ne 113, 3)), (49, (.aload_n 0, 1)), (50, (.iload_n 1, 1)), (51, (.aload_n 0, 1)), (52, (.getfield 48, 3)), (55, (.iload_n 3, 1)), (56, (.iaload, 1)), (57, (.aload_n 0, 1)), (58, (.getfield 51, 3)), (61, (.iload_n 3, 1)), (62, (.iaload, 1)), (63, (.invokevirtual 237, 3)), (66, (.ifCond .ne 72, 3)), (69, (.goto 113, 3)), (72, (.aload_n 0, 1)), (73, (.getfield 54, 3)), (76, (.iload_n 1, 1)), (77, (.iconst 1, 1)), (78, (.iadd, 1)), (79, (.iaload, 1)), (80, (.sipush 200, 3)), (83, (.if_icmp .ne 94, 3)), (86, (.aload_n 0, 1)), (87, (.iconst 3, 1)), (88, (.putfield 191, 3)), (91, (.goto 113, 3)), (94, (.aload_n 0, 1)), (95, (.iload_n 1, 1)), (96, (.iconst 1, 1)), (97, (.iadd, 1)), (98, (.aload_n 0, 1)), (99, (.getfield 48, 3)), (102, (.iload_n 3, 1)), (103, (.iaload, 1)), (104, (.aload_n 0, 1)), (105, (.getfield 51, 3)), (108, (.iload_n 3, 1)), (109, (.iaload, 1)), (110, (.invokevirtual 230, 3)), (113, (.iinc 2 1, 3)), (116, (.goto 2, 3)), (119, (.return_, 1))]
def ce_X10_push : List (Nat × (Nat × Option Nat × WP)) := [(234, (4, some 10, wl_X10_has)), (237, (4, some 10, wl_X10_isShut)), (230, (4, some 10, wl_X10_keep))]
set_option maxRecDepth 100000 in
set_option maxHeartbeats 4000000 in
theorem ct_X10_push (l : Launch) : Con l wM yX10_push cX10_push 4 none 3 wl_X10_push := by
  refine sxm_ok l (ft := lkp ft_RX10) (c32 := lkp c32_RX10) (c64 := lkp c64_RX10) (ce := lkp ce_X10_push) (sf := lkp sf_RX10) (lab := lkp [(2, [0, 1, 2])]) (T := tb_X10_push) (by decide +kernel) ft_RX10_ok c32_RX10_ok c64_RX10_ok (fun x q h => (show ∀ q ∈ ce_X10_push, ceOK l wM RX10 3 q.1 q.2.1 q.2.2.1 q.2.2.2 from List.forall_mem_cons.mpr ⟨⟨yX10_has, cX10_has, 6, (some .boolean), 0, ct_X10_has l, by decide, by decide, mi_X10_has.1, mi_X10_has.2, ml_RX10_234, mv_X10_has.1, mv_X10_has.2, ⟨_, _, rfl⟩, by decide, by decide +kernel⟩, List.forall_mem_cons.mpr ⟨⟨yX10_isShut, cX10_isShut, 5, (some .boolean), 2, ct_X10_isShut l, by decide, by decide, mi_X10_isShut.1, mi_X10_isShut.2, ml_RX10_237, mv_X10_isShut.1, mv_X10_isShut.2, ⟨_, _, rfl⟩, by decide, by decide +kernel⟩, List.forall_mem_cons.mpr ⟨⟨yX10_keep, cX10_keep, 5, none, 0, ct_X10_keep l, by decide, by decide, mi_X10_keep.1, mi_X10_keep.2, ml_RX10_230, mv_X10_keep.1, mv_X10_keep.2, ⟨_, _, rfl⟩, by decide, by decide +kernel⟩, fun _ h => absurd h List.not_mem_nil⟩⟩⟩) (x, q) (lkp_mem h)) sf_RX10_ok (by decide +kernel) 400 (fun As σ Q h => ?_)
  replace h := p1r_e h
  obtain ⟨z0, q0, rfl, h⟩ := h
  replace h := onB_e h
  obtain ⟨e0, h⟩ := h
  have e0 := Nat.eq_of_beq_eq_true e0
  subst e0
  replace h := p1i_e h
  obtain ⟨x1, q1, rfl, h⟩ := h
  replace h := onB_e h
  obtain ⟨e9, h⟩ := h
  have e9 := List.isEmpty_iff.mp e9
  subst e9
  refine ⟨Nat.le_of_ble_eq_true rfl, fun P hP => ?_⟩
  exact h (fun x2 τ => P 2 [.ref 0, .int x1, .int x2] τ) (fun x2 τ hb => hP 2 [.ref 0, .int x1, .int x2] τ hb)
def wp_X10_wayChoice (x1 : Int32) (σ : Sg) (Q : Int32 → Sg → Prop) : Prop :=
  ∀ L43 : Int32 → Sg → Prop,
  (∀ (x2 : Int32) (τ : Sg), wp_X10_ways τ (fun r1 => ((x2 < r1 → (vp_in x1 40 ∧ ((x1 = ((gI τ 0 33) - (1 : Int32)) → (vp_in (((16 : Int32) * (gI τ 19 (x1).toNatClampNeg)) + x2) 4096 ∧ (((gI τ 11 ((((16 : Int32) * (gI τ 19 (x1).toNatClampNeg)) + x2)).toNatClampNeg) = 0 → L43 (x2 + (1 : Int32)) τ) ∧ (¬ (gI τ 11 ((((16 : Int32) * (gI τ 19 (x1).toNatClampNeg)) + x2)).toNatClampNeg) = 0 → Q x2 τ)))) ∧ (¬ x1 = ((gI τ 0 33) - (1 : Int32)) → (vp_in (((16 : Int32) * (gI τ 19 (x1).toNatClampNeg)) + x2) 4096 ∧ (vp_in (x1 + (1 : Int32)) 40 ∧ (((gI τ 9 ((((16 : Int32) * (gI τ 19 (x1).toNatClampNeg)) + x2)).toNatClampNeg) = (gI τ 19 ((x1 + (1 : Int32))).toNatClampNeg) → Q x2 τ) ∧ (¬ (gI τ 9 ((((16 : Int32) * (gI τ 19 (x1).toNatClampNeg)) + x2)).toNatClampNeg) = (gI τ 19 ((x1 + (1 : Int32))).toNatClampNeg) → L43 (x2 + (1 : Int32)) τ)))))))) ∧ (¬ x2 < r1 → Q (-1 : Int32) τ))) → L43 x2 τ) →
  (((gI σ 0 33) = 0 → wp_X10_no (-2 : Int32) σ (fun r2 s3 => Q r2 s3)) ∧ (¬ (gI σ 0 33) = 0 → wp_X10_isIn (x1).toInt64 (0 : Int64) (((gI σ 0 33) - (1 : Int32))).toInt64 σ (fun r4 => ((r4 = 0 → wp_X10_no (-3 : Int32) σ (fun r5 s6 => Q r5 s6)) ∧ (¬ r4 = 0 → wp_X10_table σ (fun s7 => L43 (0 : Int32) s7))))))
def wl_X10_wayChoice : WP := fun As σ Q => p1r As (fun z0 r0 => onB (Nat.beq z0 0) (p1i r0 (fun x1 r1 => onB r1.isEmpty (wp_X10_wayChoice x1 σ (fun x τ => Q (some (.int x)) τ)))))
def tb_X10_wayChoice : List (Nat × Instr × Nat) := [(0, (.aload_n 0, 1)), (1, (.getfield 197, 3)), (4, (.ifCond .ne 14, 3)), (7, (.aload_n 0, 1)), (8, (.bipush (-2), 2)), (10, (.invokevirtual 118, 3)), (13, (.ireturn, 1)), (14, (.iload_n 1, 1)), (15, (.i2l, 1)), (16, (.lconst 0, 1)), (17, (.aload_n 0, 1)), (18, (.getfield 197, 3)), (21, (.iconst 1, 1)), (22, (.isub, 1)), (23, (.i2l, 1)), (24, (.invokestatic 133, 3)), (27, (.ifCond .ne 37, 3)), (30, (.aload_n 0, 1)), (31, (.bipush (-3), 2)), (33, (.invokevirtual 118, 3)), (36, (.ireturn, 1)), (37, (.aload_n 0, 1)), (38, (.invokevirtual 182, 3)), (41, (.iconst 0, 1)), (42, (.istore_n 2, 1)), (43, (.iload_n 2, 1)), (44, (.aload_n 0, 1)), (45, (.invokevirtual 165, 3)), (48, (.if_icmp .ge 110, 3)), (51, (.bipush 16, 2)), (53, (.aload_n 0, 1)), (54, (.getfield 72, 3)), (57, (.iload_n 1, 1)), (58, (.iaload, 1)), (59, (.imul, 1)), (60, (.iload_n 2, 1)), (61, (.iadd, 1)), (62, (.istore_n 3, 1)), (63, (.iload_n 1, 1)), (64, (.aload_n 0, 1)), (65, (.getfield 197, 3)), (68, (.iconst 1, 1)), (69, (.isub, 1)), (70, (.if_icmp .ne 85, 3)), (73, (.aload_n 0, 1)), (74, (.getfield 45, 3)), (77, (.iload_n 3, 1)), (78, (.baload, 1)), (79, (.ifCond .eq 104, 3)), (82, (.goto 102, 3)), (85, (.aload_n 0, 1)), (86, (.getfield 39, 3)), (89, (.iload_n 3, 1)), (90, (.iaload, 1)), (91, (.aload_n 0, 1)), (92, (.getfield 72, 3)), (95, (.iload_n 1, 1)), (96, (.iconst 1, 1)), (97, (.iadd, 1)), (98, (.iaload, 1)), (99, (.if_icmp .ne 104, 3)), (102, (.iload_n 2, 1)), (103, (.ireturn, 1)), (104, (.iinc 2 1, 3)), (107, (.goto 43, 3)), (110, (.iconst (-1), 1)), (111, (.ireturn, 1))]
def ce_X10_wayChoice : List (Nat × (Nat × Option Nat × WP)) := [(118, (2, some 10, wl_X10_no)), (133, (3, none, wl_X10_isIn)), (182, (1, some 10, wl_X10_table)), (165, (1, some 10, wl_X10_ways))]
set_option maxRecDepth 100000 in
set_option maxHeartbeats 4000000 in
theorem ct_X10_wayChoice (l : Launch) : Con l wM yX10_wayChoice cX10_wayChoice 4 (some .int) 3 wl_X10_wayChoice := by
  refine sxm_ok l (ft := lkp ft_RX10) (c32 := lkp c32_RX10) (c64 := lkp c64_RX10) (ce := lkp ce_X10_wayChoice) (sf := lkp sf_RX10) (lab := lkp [(43, [0, 1, 2])]) (T := tb_X10_wayChoice) (by decide +kernel) ft_RX10_ok c32_RX10_ok c64_RX10_ok (fun x q h => (show ∀ q ∈ ce_X10_wayChoice, ceOK l wM RX10 3 q.1 q.2.1 q.2.2.1 q.2.2.2 from List.forall_mem_cons.mpr ⟨⟨yX10_no, cX10_no, 2, (some .int), 0, ct_X10_no l, by decide, by decide, mi_X10_no.1, mi_X10_no.2, ml_RX10_118, mv_X10_no.1, mv_X10_no.2, ⟨_, _, rfl⟩, by decide, by decide +kernel⟩, List.forall_mem_cons.mpr ⟨⟨yX10_isIn, cX10_isIn, 6, (some .boolean), 0, ct_X10_isIn l, by decide, by decide, mi_X10_isIn.1, mi_X10_isIn.2, Or.inl ml_RX10_133, ms_X10_isIn, by decide +kernel⟩, List.forall_mem_cons.mpr ⟨⟨yX10_table, cX10_table, 5, none, 2, ct_X10_table l, by decide, by decide, mi_X10_table.1, mi_X10_table.2, ml_RX10_182, mv_X10_table.1, mv_X10_table.2, ⟨_, _, rfl⟩, by decide, by decide +kernel⟩, List.forall_mem_cons.mpr ⟨⟨yX10_ways, cX10_ways, 1, (some .int), 0, ct_X10_ways l, by decide, by decide, mi_X10_ways.1, mi_X10_ways.2, ml_RX10_165, mv_X10_ways.1, mv_X10_ways.2, ⟨_, _, rfl⟩, by decide, by decide +kernel⟩, fun _ h => absurd h List.not_mem_nil⟩⟩⟩⟩) (x, q) (lkp_mem h)) sf_RX10_ok (by decide +kernel) 400 (fun As σ Q h => ?_)
  replace h := p1r_e h
  obtain ⟨z0, q0, rfl, h⟩ := h
  replace h := onB_e h
  obtain ⟨e0, h⟩ := h
  have e0 := Nat.eq_of_beq_eq_true e0
  subst e0
  replace h := p1i_e h
  obtain ⟨x1, q1, rfl, h⟩ := h
  replace h := onB_e h
  obtain ⟨e9, h⟩ := h
  have e9 := List.isEmpty_iff.mp e9
  subst e9
  refine ⟨Nat.le_of_ble_eq_true rfl, fun P hP => ?_⟩
  exact h (fun x2 τ => P 43 [.ref 0, .int x1, .int x2] τ) (fun x2 τ hb => hP 43 [.ref 0, .int x1, .int x2] τ hb)
def wp_X10_ask (x1 : Int32) (x2 : Int32) (x3 : Int32) (σ : Sg) (Q : Int32 → Sg → Prop) : Prop :=
  wp_X10_isIn (x1).toInt64 (0 : Int64) (24 : Int64) σ (fun r1 => ((r1 = 0 → wp_X10_no (-3 : Int32) σ (fun r2 s3 => Q r2 s3)) ∧ (¬ r1 = 0 → wp_X10_isCube x2 x3 σ (fun r4 => ((r4 = 0 → wp_X10_no (-7 : Int32) σ (fun r5 s6 => Q r5 s6)) ∧ (¬ r4 = 0 → wp_X10_table σ (fun s7 => wp_X10_asked x1 x2 x3 s7 (fun r8 => Q r8 s7))))))))
def wl_X10_ask : WP := fun As σ Q => p1r As (fun z0 r0 => onB (Nat.beq z0 0) (p1i r0 (fun x1 r1 => p1i r1 (fun x2 r2 => p1i r2 (fun x3 r3 => onB r3.isEmpty (wp_X10_ask x1 x2 x3 σ (fun x τ => Q (some (.int x)) τ)))))))
def tb_X10_ask : List (Nat × Instr × Nat) := [(0, (.iload_n 1, 1)), (1, (.i2l, 1)), (2, (.lconst 0, 1)), (3, (.ldc2_w 264, 3)), (6, (.invokestatic 133, 3)), (9, (.ifCond .ne 19, 3)), (12, (.aload_n 0, 1)), (13, (.bipush (-3), 2)), (15, (.invokevirtual 118, 3)), (18, (.ireturn, 1)), (19, (.aload_n 0, 1)), (20, (.iload_n 2, 1)), (21, (.iload_n 3, 1)), (22, (.invokevirtual 266, 3)), (25, (.ifCond .ne 35, 3)), (28, (.aload_n 0, 1)), (29, (.bipush (-7), 2)), (31, (.invokevirtual 118, 3)), (34, (.ireturn, 1)), (35, (.aload_n 0, 1)), (36, (.invokevirtual 182, 3)), (39, (.aload_n 0, 1)), (40, (.iload_n 1, 1)), (41, (.iload_n 2, 1)), (42, (.iload_n 3, 1)), (43, (.invokevirtual 211, 3)), (46, (.ireturn, 1))]
def ce_X10_ask : List (Nat × (Nat × Option Nat × WP)) := [(133, (3, none, wl_X10_isIn)), (118, (2, some 10, wl_X10_no)), (266, (3, some 10, wl_X10_isCube)), (182, (1, some 10, wl_X10_table)), (211, (4, some 10, wl_X10_asked))]
set_option maxRecDepth 100000 in
set_option maxHeartbeats 4000000 in
theorem ct_X10_ask (l : Launch) : Con l wM yX10_ask cX10_ask 4 (some .int) 3 wl_X10_ask := by
  refine sxm_ok l (ft := lkp ft_RX10) (c32 := lkp c32_RX10) (c64 := lkp c64_RX10) (ce := lkp ce_X10_ask) (sf := lkp sf_RX10) (lab := lkp []) (T := tb_X10_ask) (by decide +kernel) ft_RX10_ok c32_RX10_ok c64_RX10_ok (fun x q h => (show ∀ q ∈ ce_X10_ask, ceOK l wM RX10 3 q.1 q.2.1 q.2.2.1 q.2.2.2 from List.forall_mem_cons.mpr ⟨⟨yX10_isIn, cX10_isIn, 6, (some .boolean), 0, ct_X10_isIn l, by decide, by decide, mi_X10_isIn.1, mi_X10_isIn.2, Or.inl ml_RX10_133, ms_X10_isIn, by decide +kernel⟩, List.forall_mem_cons.mpr ⟨⟨yX10_no, cX10_no, 2, (some .int), 0, ct_X10_no l, by decide, by decide, mi_X10_no.1, mi_X10_no.2, ml_RX10_118, mv_X10_no.1, mv_X10_no.2, ⟨_, _, rfl⟩, by decide, by decide +kernel⟩, List.forall_mem_cons.mpr ⟨⟨yX10_isCube, cX10_isCube, 3, (some .boolean), 1, ct_X10_isCube l, by decide, by decide, mi_X10_isCube.1, mi_X10_isCube.2, ml_RX10_266, mv_X10_isCube.1, mv_X10_isCube.2, ⟨_, _, rfl⟩, by decide, by decide +kernel⟩, List.forall_mem_cons.mpr ⟨⟨yX10_table, cX10_table, 5, none, 2, ct_X10_table l, by decide, by decide, mi_X10_table.1, mi_X10_table.2, ml_RX10_182, mv_X10_table.1, mv_X10_table.2, ⟨_, _, rfl⟩, by decide, by decide +kernel⟩, List.forall_mem_cons.mpr ⟨⟨yX10_asked, cX10_asked, 5, (some .int), 2, ct_X10_asked l, by decide, by decide, mi_X10_asked.1, mi_X10_asked.2, ml_RX10_211, mv_X10_asked.1, mv_X10_asked.2, ⟨_, _, rfl⟩, by decide, by decide +kernel⟩, fun _ h => absurd h List.not_mem_nil⟩⟩⟩⟩⟩) (x, q) (lkp_mem h)) sf_RX10_ok (by decide +kernel) 400 (fun As σ Q h => ?_)
  replace h := p1r_e h
  obtain ⟨z0, q0, rfl, h⟩ := h
  replace h := onB_e h
  obtain ⟨e0, h⟩ := h
  have e0 := Nat.eq_of_beq_eq_true e0
  subst e0
  replace h := p1i_e h
  obtain ⟨x1, q1, rfl, h⟩ := h
  replace h := p1i_e h
  obtain ⟨x2, q2, rfl, h⟩ := h
  replace h := p1i_e h
  obtain ⟨x3, q3, rfl, h⟩ := h
  replace h := onB_e h
  obtain ⟨e9, h⟩ := h
  have e9 := List.isEmpty_iff.mp e9
  subst e9
  refine ⟨Nat.le_of_ble_eq_true rfl, fun P hP => ?_⟩
  exact h 
def wp_X10_findFar (x1 : Int32) (σ : Sg) (Q : Sg → Prop) : Prop :=
  ∀ L6 : Int32 → Sg → Prop,
  ∀ L36 : Int32 → Sg → Prop,
  ∀ L46 : Int32 → Int32 → Sg → Prop,
  ∀ L57 : Int32 → Int32 → Int32 → Sg → Prop,
  (∀ (x2 : Int32) (τ : Sg), wp_X10_states τ (fun r1 => ((x2 < r1 → (vp_in x2 256 ∧ L6 (x2 + (1 : Int32)) (sI τ 20 (x2).toNatClampNeg (-1 : Int32)))) ∧ (¬ x2 < r1 → (vp_in x1 256 ∧ L36 (0 : Int32) (sI τ 20 (x1).toNatClampNeg (0 : Int32)))))) → L6 x2 τ) →
  (∀ (x2 : Int32) (τ : Sg), wp_X10_states τ (fun r2 => ((x2 < r2 → L46 x2 (0 : Int32) τ) ∧ (¬ x2 < r2 → Q τ))) → L36 x2 τ) →
  (∀ (x2 : Int32) (x3 : Int32) (τ : Sg), wp_X10_states τ (fun r3 => ((x3 < r3 → L57 x2 x3 (0 : Int32) τ) ∧ (¬ x3 < r3 → L36 (x2 + (1 : Int32)) τ))) → L46 x2 x3 τ) →
  (∀ (x2 : Int32) (x3 : Int32) (x4 : Int32) (τ : Sg), wp_X10_ways τ (fun r4 => ((x4 < r4 → (vp_in x3 256 ∧ (((gI τ 20 (x3).toNatClampNeg) = x2 → (vp_in (((16 : Int32) * x3) + x4) 4096 ∧ (((gI τ 9 ((((16 : Int32) * x3) + x4)).toNatClampNeg) < 0 → L57 x2 x3 (x4 + (1 : Int32)) τ) ∧ (¬ (gI τ 9 ((((16 : Int32) * x3) + x4)).toNatClampNeg) < 0 → (vp_in (gI τ 9 ((((16 : Int32) * x3) + x4)).toNatClampNeg) 256 ∧ (((gI τ 20 ((gI τ 9 ((((16 : Int32) * x3) + x4)).toNatClampNeg)).toNatClampNeg) < 0 → (vp_in (gI τ 9 ((((16 : Int32) * x3) + x4)).toNatClampNeg) 256 ∧ L57 x2 x3 (x4 + (1 : Int32)) (sI τ 20 ((gI τ 9 ((((16 : Int32) * x3) + x4)).toNatClampNeg)).toNatClampNeg (x2 + (1 : Int32))))) ∧ (¬ (gI τ 20 ((gI τ 9 ((((16 : Int32) * x3) + x4)).toNatClampNeg)).toNatClampNeg) < 0 → L57 x2 x3 (x4 + (1 : Int32)) τ))))))) ∧ (¬ (gI τ 20 (x3).toNatClampNeg) = x2 → L46 x2 (x3 + (1 : Int32)) τ)))) ∧ (¬ x4 < r4 → L46 x2 (x3 + (1 : Int32)) τ))) → L57 x2 x3 x4 τ) →
  wp_X10_table σ (fun s5 => L6 (0 : Int32) s5)
def wl_X10_findFar : WP := fun As σ Q => p1r As (fun z0 r0 => onB (Nat.beq z0 0) (p1i r0 (fun x1 r1 => onB r1.isEmpty (wp_X10_findFar x1 σ (fun τ => Q none τ)))))
def tb_X10_findFar : List (Nat × Instr × Nat) := [(0, (.aload_n 0, 1)), (1, (.invokevirtual 182, 3)), (4, (.iconst 0, 1)), (5, (.istore_n 2, 1)), (6, (.iload_n 2, 1)), (7, (.aload_n 0, 1)), (8, (.invokevirtual 161, 3)), (11, (.if_icmp .ge 27, 3)), (14, (.aload_n 0, 1)), (15, (.getfield 75, 3)), (18, (.iload_n 2, 1)), (19, (.iconst (-1), 1)), (20, (.iastore, 1)), (21, (.iinc 2 1, 3)), (24, (.goto 6, 3)), (27, (.aload_n 0, 1)), (28, (.getfield 75, 3)), (31, (.iload_n 1, 1)), (32, (.iconst 0, 1)), (33, (.iastore, 1)), (34, (.iconst 0, 1)), (35, (.istore_n 2, 1)), (36, (.iload_n 2, 1)), (37, (.aload_n 0, 1)), (38, (.invokevirtual 161, 3)), (41, (.if_icmp .ge 133, 3)), (44, (.iconst 0, 1)), (45, (.istore_n 3, 1)), (46, (.iload_n 3, 1)), (47, (.aload_n 0, 1)), (48, (.invokevirtual 161, 3)), (51, (.if_icmp .ge 127, 3)), (54, (.iconst 0, 1)), (55, (.istore 4, 2)), (57, (.iload 4, 2)), (59, (.aload_n 0, 1)), (60, (.invokevirtual 165, 3)), (63, (.if_icmp .ge 121, 3)), (66, (.aload_n 0, 1)), (67, (.getfield 75, 3)), (70, (.iload_n 3, 1)), (71, (.iaload, 1)), (72, (.iload_n 2, 1)), (73, (.if_icmp .ne 121, 3)), (76, (.aload_n 0, 1)), (77, (.getfield 39, 3)), (80, (.bipush 16, 2)), (82, (.iload_n 3, 1)), (83, (.imul, 1)), (84, (.iload 4, 2)), (86, (.iadd, 1)), (87, (.iaload, 1)), (88, (.istore 5, 2)), (90, (.iload 5, 2)), (92, (.ifCond .lt 115, 3)), (95, (.aload_n 0, 1)), (96, (.getfield 75, 3)), (99, (.iload 5, 2)), (101, (.iaload, 1)), (102, (.ifCond .ge 115, 3)), (105, (.aload_n 0, 1)), (106, (.getfield 75, 3)), (109, (.iload 5, 2)), (111, (.iload_n 2, 1)), (112, (.iconst 1, 1)), (113, (.iadd, 1)), (114, (.iastore, 1)), (115, (.iinc 4 1, 3)), (118, (.goto 57, 3)), (121, (.iinc 3 1, 3)), (124, (.goto 46, 3)), (127, (.iinc 2 1, 3)), (130, (.goto 36, 3)), (133, (.return_, 1))]
def ce_X10_findFar : List (Nat × (Nat × Option Nat × WP)) := [(182, (1, some 10, wl_X10_table)), (161, (1, some 10, wl_X10_states)), (165, (1, some 10, wl_X10_ways))]
set_option maxRecDepth 100000 in
set_option maxHeartbeats 4000000 in
theorem ct_X10_findFar (l : Launch) : Con l wM yX10_findFar cX10_findFar 6 none 3 wl_X10_findFar := by
  refine sxm_ok l (ft := lkp ft_RX10) (c32 := lkp c32_RX10) (c64 := lkp c64_RX10) (ce := lkp ce_X10_findFar) (sf := lkp sf_RX10) (lab := lkp [(6, [0, 1, 2]), (36, [0, 2]), (46, [0, 2, 3]), (57, [0, 2, 3, 4])]) (T := tb_X10_findFar) (by decide +kernel) ft_RX10_ok c32_RX10_ok c64_RX10_ok (fun x q h => (show ∀ q ∈ ce_X10_findFar, ceOK l wM RX10 3 q.1 q.2.1 q.2.2.1 q.2.2.2 from List.forall_mem_cons.mpr ⟨⟨yX10_table, cX10_table, 5, none, 2, ct_X10_table l, by decide, by decide, mi_X10_table.1, mi_X10_table.2, ml_RX10_182, mv_X10_table.1, mv_X10_table.2, ⟨_, _, rfl⟩, by decide, by decide +kernel⟩, List.forall_mem_cons.mpr ⟨⟨yX10_states, cX10_states, 1, (some .int), 0, ct_X10_states l, by decide, by decide, mi_X10_states.1, mi_X10_states.2, ml_RX10_161, mv_X10_states.1, mv_X10_states.2, ⟨_, _, rfl⟩, by decide, by decide +kernel⟩, List.forall_mem_cons.mpr ⟨⟨yX10_ways, cX10_ways, 1, (some .int), 0, ct_X10_ways l, by decide, by decide, mi_X10_ways.1, mi_X10_ways.2, ml_RX10_165, mv_X10_ways.1, mv_X10_ways.2, ⟨_, _, rfl⟩, by decide, by decide +kernel⟩, fun _ h => absurd h List.not_mem_nil⟩⟩⟩) (x, q) (lkp_mem h)) sf_RX10_ok (by decide +kernel) 400 (fun As σ Q h => ?_)
  replace h := p1r_e h
  obtain ⟨z0, q0, rfl, h⟩ := h
  replace h := onB_e h
  obtain ⟨e0, h⟩ := h
  have e0 := Nat.eq_of_beq_eq_true e0
  subst e0
  replace h := p1i_e h
  obtain ⟨x1, q1, rfl, h⟩ := h
  replace h := onB_e h
  obtain ⟨e9, h⟩ := h
  have e9 := List.isEmpty_iff.mp e9
  subst e9
  refine ⟨Nat.le_of_ble_eq_true rfl, fun P hP => ?_⟩
  exact h (fun x2 τ => P 6 [.ref 0, .int x1, .int x2] τ) (fun x2 τ => P 36 [.ref 0, .int x2] τ) (fun x2 x3 τ => P 46 [.ref 0, .int x2, .int x3] τ) (fun x2 x3 x4 τ => P 57 [.ref 0, .int x2, .int x3, .int x4] τ) (fun x2 τ hb => hP 6 [.ref 0, .int x1, .int x2] τ hb) (fun x2 τ hb => hP 36 [.ref 0, .int x2] τ hb) (fun x2 x3 τ hb => hP 46 [.ref 0, .int x2, .int x3] τ hb) (fun x2 x3 x4 τ hb => hP 57 [.ref 0, .int x2, .int x3, .int x4] τ hb)
def wp_X10_findComes  (σ : Sg) (Q : Sg → Prop) : Prop :=
  ∀ L6 : Int32 → Sg → Prop,
  ∀ L27 : Int32 → Sg → Prop,
  ∀ L37 : Int32 → Int32 → Sg → Prop,
  ∀ L96 : Int32 → Sg → Prop,
  ∀ L106 : Int32 → Int32 → Sg → Prop,
  ∀ L116 : Int32 → Int32 → Int32 → Sg → Prop,
  (∀ (x1 : Int32) (τ : Sg), ((x1 < (65536 : Int32) → (vp_in x1 65536 ∧ L6 (x1 + (1 : Int32)) (sI τ 22 (x1).toNatClampNeg (vp_nar .boolean (0 : Int32))))) ∧ (¬ x1 < (65536 : Int32) → L27 (0 : Int32) τ)) → L6 x1 τ) →
  (∀ (x1 : Int32) (τ : Sg), wp_X10_states τ (fun r1 => ((x1 < r1 → L37 x1 (0 : Int32) τ) ∧ (¬ x1 < r1 → L96 (0 : Int32) τ))) → L27 x1 τ) →
  (∀ (x1 : Int32) (x2 : Int32) (τ : Sg), wp_X10_ways τ (fun r2 => ((x2 < r2 → (vp_in (((16 : Int32) * x1) + x2) 4096 ∧ (((gI τ 9 ((((16 : Int32) * x1) + x2)).toNatClampNeg) < 0 → L37 x1 (x2 + (1 : Int32)) τ) ∧ (¬ (gI τ 9 ((((16 : Int32) * x1) + x2)).toNatClampNeg) < 0 → (vp_in (((16 : Int32) * x1) + x2) 4096 ∧ (vp_in (((256 : Int32) * x1) + (gI τ 9 ((((16 : Int32) * x1) + x2)).toNatClampNeg)) 65536 ∧ L37 x1 (x2 + (1 : Int32)) (sI τ 22 ((((256 : Int32) * x1) + (gI τ 9 ((((16 : Int32) * x1) + x2)).toNatClampNeg))).toNatClampNeg (vp_nar .boolean (1 : Int32))))))))) ∧ (¬ x2 < r2 → L27 (x1 + (1 : Int32)) τ))) → L37 x1 x2 τ) →
  (∀ (x1 : Int32) (τ : Sg), wp_X10_states τ (fun r3 => ((x1 < r3 → L106 x1 (0 : Int32) τ) ∧ (¬ x1 < r3 → Q τ))) → L96 x1 τ) →
  (∀ (x1 : Int32) (x2 : Int32) (τ : Sg), wp_X10_states τ (fun r4 => ((x2 < r4 → L116 x1 x2 (0 : Int32) τ) ∧ (¬ x2 < r4 → L96 (x1 + (1 : Int32)) τ))) → L106 x1 x2 τ) →
  (∀ (x1 : Int32) (x2 : Int32) (x3 : Int32) (τ : Sg), wp_X10_states τ (fun r5 => ((x3 < r5 → (vp_in (((256 : Int32) * x2) + x1) 65536 ∧ (((gI τ 22 ((((256 : Int32) * x2) + x1)).toNatClampNeg) = 0 → L106 x1 (x2 + (1 : Int32)) τ) ∧ (¬ (gI τ 22 ((((256 : Int32) * x2) + x1)).toNatClampNeg) = 0 → (vp_in (((256 : Int32) * x2) + x3) 65536 ∧ (((gI τ 22 ((((256 : Int32) * x2) + x3)).toNatClampNeg) = 0 → (vp_in (((256 : Int32) * x1) + x3) 65536 ∧ (((gI τ 22 ((((256 : Int32) * x1) + x3)).toNatClampNeg) = 0 → (vp_in (((256 : Int32) * x2) + x3) 65536 ∧ L116 x1 x2 (x3 + (1 : Int32)) (sI τ 22 ((((256 : Int32) * x2) + x3)).toNatClampNeg (vp_nar .boolean (0 : Int32))))) ∧ (¬ (gI τ 22 ((((256 : Int32) * x1) + x3)).toNatClampNeg) = 0 → (vp_in (((256 : Int32) * x2) + x3) 65536 ∧ L116 x1 x2 (x3 + (1 : Int32)) (sI τ 22 ((((256 : Int32) * x2) + x3)).toNatClampNeg (vp_nar .boolean (1 : Int32)))))))) ∧ (¬ (gI τ 22 ((((256 : Int32) * x2) + x3)).toNatClampNeg) = 0 → (vp_in (((256 : Int32) * x2) + x3) 65536 ∧ L116 x1 x2 (x3 + (1 : Int32)) (sI τ 22 ((((256 : Int32) * x2) + x3)).toNatClampNeg (vp_nar .boolean (1 : Int32))))))))))) ∧ (¬ x3 < r5 → L106 x1 (x2 + (1 : Int32)) τ))) → L116 x1 x2 x3 τ) →
  wp_X10_table σ (fun s6 => L6 (0 : Int32) s6)
def wl_X10_findComes : WP := fun As σ Q => p1r As (fun z0 r0 => onB (Nat.beq z0 0) (onB r0.isEmpty (wp_X10_findComes  σ (fun τ => Q none τ))))
def tb_X10_findComes : List (Nat × Instr × Nat) := [(0, (.aload_n 0, 1)), (1, (.invokevirtual 182, 3)), (4, (.iconst 0, 1)), (5, (.istore_n 1, 1)), (6, (.iload_n 1, 1)), (7, (.ldc 81, 2)), (9, (.if_icmp .ge 25, 3)), (12, (.aload_n 0, 1)), (13, (.getfield 82, 3)), (16, (.iload_n 1, 1)), (17, (.iconst 0, 1)), (18, (.bastore, 1)), (19, (.iinc 1 1, 3)), (22, (.goto 6, 3)), (25, (.iconst 0, 1)), (26, (.istore_n 1, 1)), (27, (.iload_n 1, 1)), (28, (.aload_n 0, 1)), (29, (.invokevirtual 161, 3)), (32, (.if_icmp .ge 94, 3)), (35, (.iconst 0, 1)), (36, (.istore_n 2, 1)), (37, (.iload_n 2, 1)), (38, (.aload_n 0, 1)), (39, (.invokevirtual 165, 3)), (42, (.if_icmp .ge 88, 3)), (45, (.aload_n 0, 1)), (46, (.getfield 39, 3)), (49, (.bipush 16, 2)), (51, (.iload_n 1, 1)), (52, (.imul, 1)), (53, (.iload_n 2, 1)), (54, (.iadd, 1)), (55, (.iaload, 1)), (56, (.ifCond .lt 82, 3)), (59, (.aload_n 0, 1)), (60, (.getfield 82, 3)), (63, (.sipush 256, 3)), (66, (.iload_n 1, 1)), (67, (.imul, 1)), (68, (.aload_n 0, 1)), (69, (.getfield 39, 3)), (72, (.bipush 16, 2)), (74, (.iload_n 1, 1)), (75, (.imul, 1)), (76, (.iload_n 2, 1)), (77, (.iadd, 1)), (78, (.iaload, 1)), (79, (.iadd, 1)), (80, (.iconst 1, 1)), (81, (.bastore, 1)), (82, (.iinc 2 1, 3)), (85, (.goto 37, 3)), (88, (.iinc 1 1, 3)), (91, (.goto 27, 3)), (94, (.iconst 0, 1)), (95, (.istore_n 1, 1)), (96, (.iload_n 1, 1)), (97, (.aload_n 0, 1)), (98, (.invokevirtual 161, 3)), (101, (.if_icmp .ge 204, 3)), (104, (.iconst 0, 1)), (105, (.istore_n 2, 1)), (106, (.iload_n 2, 1)), (107, (.aload_n 0, 1)), (108, (.invokevirtual 161, 3)), (111, (.if_icmp .ge 198, 3)), (114, (.iconst 0, 1)), (115, (.istore_n 3, 1)), (116, (.iload_n 3, 1)), (117, (.aload_n 0, 1)), (118, (.invokevirtual 161, 3)), (121, (.if_icmp .ge 192, 3)), (124, (.aload_n 0, 1)), (125, (.getfield 82, 3)), (128, (.sipush 256, 3)), (131, (.iload_n 2, 1)), (132, (.imul, 1)), (133, (.iload_n 1, 1)), (134, (.iadd, 1)), (135, (.baload, 1)), (136, (.ifCond .eq 192, 3)), (139, (.aload_n 0, 1)), (140, (.getfield 82, 3)), (143, (.sipush 256, 3)), (146, (.iload_n 2, 1)), (147, (.imul, 1)), (148, (.iload_n 3, 1)), (149, (.iadd, 1)), (150, (.aload_n 0, 1)), (151, (.getfield 82, 3)), (154, (.sipush 256, 3)), (157, (.iload_n 2, 1)), (158, (.imul, 1)), (159, (.iload_n 3, 1)), (160, (.iadd, 1)), (161, (.baload, 1)), (162, (.ifCond .ne 180, 3)), (165, (.aload_n 0, 1)), (166, (.getfield 82, 3)), (169, (.sipush 256, 3)), (172, (.iload_n 1, 1)), (173, (.imul, 1)), (174, (.iload_n 3, 1)), (175, (.iadd, 1)), (176, (.baload, 1)), (177, (.ifCond .eq 184, 3)), (180, (.iconst 1, 1)), (181, (.goto 185, 3)), (184, (.iconst 0, 1)), (185, (.bastore, 1)), (186, (.iinc 3 1, 3)), (189, (.goto 116, 3)), (192, (.iinc 2 1, 3)), (195, (.goto 106, 3)), (198, (.iinc 1 1, 3)), (201, (.goto 96, 3)), (204, (.return_, 1))]
def ce_X10_findComes : List (Nat × (Nat × Option Nat × WP)) := [(182, (1, some 10, wl_X10_table)), (161, (1, some 10, wl_X10_states)), (165, (1, some 10, wl_X10_ways))]
set_option maxRecDepth 100000 in
set_option maxHeartbeats 4000000 in
theorem ct_X10_findComes (l : Launch) : Con l wM yX10_findComes cX10_findComes 4 none 3 wl_X10_findComes := by
  refine sxm_ok l (ft := lkp ft_RX10) (c32 := lkp c32_RX10) (c64 := lkp c64_RX10) (ce := lkp ce_X10_findComes) (sf := lkp sf_RX10) (lab := lkp [(6, [0, 1]), (27, [0, 1]), (37, [0, 1, 2]), (96, [0, 1]), (106, [0, 1, 2]), (116, [0, 1, 2, 3])]) (T := tb_X10_findComes) (by decide +kernel) ft_RX10_ok c32_RX10_ok c64_RX10_ok (fun x q h => (show ∀ q ∈ ce_X10_findComes, ceOK l wM RX10 3 q.1 q.2.1 q.2.2.1 q.2.2.2 from List.forall_mem_cons.mpr ⟨⟨yX10_table, cX10_table, 5, none, 2, ct_X10_table l, by decide, by decide, mi_X10_table.1, mi_X10_table.2, ml_RX10_182, mv_X10_table.1, mv_X10_table.2, ⟨_, _, rfl⟩, by decide, by decide +kernel⟩, List.forall_mem_cons.mpr ⟨⟨yX10_states, cX10_states, 1, (some .int), 0, ct_X10_states l, by decide, by decide, mi_X10_states.1, mi_X10_states.2, ml_RX10_161, mv_X10_states.1, mv_X10_states.2, ⟨_, _, rfl⟩, by decide, by decide +kernel⟩, List.forall_mem_cons.mpr ⟨⟨yX10_ways, cX10_ways, 1, (some .int), 0, ct_X10_ways l, by decide, by decide, mi_X10_ways.1, mi_X10_ways.2, ml_RX10_165, mv_X10_ways.1, mv_X10_ways.2, ⟨_, _, rfl⟩, by decide, by decide +kernel⟩, fun _ h => absurd h List.not_mem_nil⟩⟩⟩) (x, q) (lkp_mem h)) sf_RX10_ok (by decide +kernel) 400 (fun As σ Q h => ?_)
  replace h := p1r_e h
  obtain ⟨z0, q0, rfl, h⟩ := h
  replace h := onB_e h
  obtain ⟨e0, h⟩ := h
  have e0 := Nat.eq_of_beq_eq_true e0
  subst e0
  replace h := onB_e h
  obtain ⟨e9, h⟩ := h
  have e9 := List.isEmpty_iff.mp e9
  subst e9
  refine ⟨Nat.le_of_ble_eq_true rfl, fun P hP => ?_⟩
  exact h (fun x1 τ => P 6 [.ref 0, .int x1] τ) (fun x1 τ => P 27 [.ref 0, .int x1] τ) (fun x1 x2 τ => P 37 [.ref 0, .int x1, .int x2] τ) (fun x1 τ => P 96 [.ref 0, .int x1] τ) (fun x1 x2 τ => P 106 [.ref 0, .int x1, .int x2] τ) (fun x1 x2 x3 τ => P 116 [.ref 0, .int x1, .int x2, .int x3] τ) (fun x1 τ hb => hP 6 [.ref 0, .int x1] τ hb) (fun x1 τ hb => hP 27 [.ref 0, .int x1] τ hb) (fun x1 x2 τ hb => hP 37 [.ref 0, .int x1, .int x2] τ hb) (fun x1 τ hb => hP 96 [.ref 0, .int x1] τ hb) (fun x1 x2 τ hb => hP 106 [.ref 0, .int x1, .int x2] τ hb) (fun x1 x2 x3 τ hb => hP 116 [.ref 0, .int x1, .int x2, .int x3] τ hb)
def wp_X10_judged (x1 : Int32) (σ : Sg) (Q : Int32 → Sg → Prop) : Prop :=
  ∀ L33 : Int32 → Sg → Prop,
  ∀ L73 : Int32 → Sg → Prop,
  ∀ L88 : Int32 → Int32 → Sg → Prop,
  (∀ (x2 : Int32) (τ : Sg), wp_X10_states τ (fun r1 => ((x2 < r1 → wp_X10_isLeft x2 x1 (sI τ 0 42 x2) (fun r2 => ((r2 = 0 → L33 (x2 + (1 : Int32)) (sI τ 0 42 x2)) ∧ (¬ r2 = 0 → wp_X10_isBadState x2 (sI τ 0 42 x2) (fun r3 => ((r3 = 0 → L33 (x2 + (1 : Int32)) (sI τ 0 42 x2)) ∧ (¬ r3 = 0 → Q (3 : Int32) (sI τ 0 42 x2)))))))) ∧ (¬ x2 < r1 → L73 (0 : Int32) τ))) → L33 x2 τ) →
  (∀ (x2 : Int32) (τ : Sg), wp_X10_states τ (fun r4 => ((x2 < r4 → L88 x2 (0 : Int32) (sI τ 0 42 x2)) ∧ (¬ x2 < r4 → Q (0 : Int32) τ))) → L73 x2 τ) →
  (∀ (x2 : Int32) (x3 : Int32) (τ : Sg), wp_X10_states τ (fun r5 => ((x3 < r5 → wp_X10_isLeft x2 x1 τ (fun r6 => ((r6 = 0 → L73 (x2 + (1 : Int32)) τ) ∧ (¬ r6 = 0 → wp_X10_isLeft x3 x1 (sI τ 0 43 x3) (fun r7 => ((r7 = 0 → wp_X10_leads x2 x3 (sI τ 0 43 x3) (fun r8 => ((r8 = 0 → L88 x2 (x3 + (1 : Int32)) (sI τ 0 43 x3)) ∧ (¬ r8 = 0 → Q (2 : Int32) (sI τ 0 43 x3))))) ∧ (¬ r7 = 0 → L88 x2 (x3 + (1 : Int32)) (sI τ 0 43 x3)))))))) ∧ (¬ x3 < r5 → L73 (x2 + (1 : Int32)) τ))) → L88 x2 x3 τ) →
  wp_X10_table σ (fun s9 => wp_X10_isLeft (gI (sI (sI s9 0 42 (gI s9 0 8)) 0 43 (-1 : Int32)) 0 8) x1 (sI (sI s9 0 42 (gI s9 0 8)) 0 43 (-1 : Int32)) (fun r10 => ((r10 = 0 → Q (1 : Int32) (sI (sI s9 0 42 (gI s9 0 8)) 0 43 (-1 : Int32))) ∧ (¬ r10 = 0 → L33 (0 : Int32) (sI (sI s9 0 42 (gI s9 0 8)) 0 43 (-1 : Int32))))))
def wl_X10_judged : WP := fun As σ Q => p1r As (fun z0 r0 => onB (Nat.beq z0 0) (p1i r0 (fun x1 r1 => onB r1.isEmpty (wp_X10_judged x1 σ (fun x τ => Q (some (.int x)) τ)))))
def tb_X10_judged : List (Nat × Instr × Nat) := [(0, (.aload_n 0, 1)), (1, (.invokevirtual 182, 3)), (4, (.aload_n 0, 1)), (5, (.aload_n 0, 1)), (6, (.getfield 122, 3)), (9, (.putfield 278, 3)), (12, (.aload_n 0, 1)), (13, (.iconst (-1), 1)), (14, (.putfield 281, 3)), (17, (.aload_n 0, 1)), (18, (.aload_n 0, 1)), (19, (.getfield 122, 3)), (22, (.iload_n 1, 1)), (23, (.invokevirtual 284, 3)), (26, (.ifCond .ne 31, 3)), (29, (.iconst 1, 1)), (30, (.ireturn, 1)), (31, (.iconst 0, 1)), (32, (.istore_n 2, 1)), (33, (.iload_n 2, 1)), (34, (.aload_n 0, 1)), (35, (.invokevirtual 161, 3)), (38, (.if_icmp .ge 71, 3)), (41, (.aload_n 0, 1)), (42, (.iload_n 2, 1)), (43, (.putfield 278, 3)), (46, (.aload_n 0, 1)), (47, (.iload_n 2, 1)), (48, (.iload_n 1, 1)), (49, (.invokevirtual 284, 3)), (52, (.ifCond .eq 65, 3)), (55, (.aload_n 0, 1)), (56, (.iload_n 2, 1)), (57, (.invokevirtual 247, 3)), (60, (.ifCond .eq 65, 3)), (63, (.iconst 3, 1)), (64, (.ireturn, 1)), (65, (.iinc 2 1, 3)), (68, (.goto 33, 3)), (71, (.iconst 0, 1)), (72, (.istore_n 2, 1)), (73, (.iload_n 2, 1)), (74, (.aload_n 0, 1)), (75, (.invokevirtual 161, 3)), (78, (.if_icmp .ge 142, 3)), (81, (.aload_n 0, 1)), (82, (.iload_n 2, 1)), (83, (.putfield 278, 3)), (86, (.iconst 0, 1)), (87, (.istore_n 3, 1)), (88, (.iload_n 3, 1)), (89, (.aload_n 0, 1)), (90, (.invokevirtual 161, 3)), (93, (.if_icmp .ge 136, 3)), (96, (.aload_n 0, 1)), (97, (.iload_n 2, 1)), (98, (.iload_n 1, 1)), (99, (.invokevirtual 284, 3)), (102, (.ifCond .eq 136, 3)), (105, (.aload_n 0, 1)), (106, (.iload_n 3, 1)), (107, (.putfield 281, 3)), (110, (.aload_n 0, 1)), (111, (.iload_n 3, 1)), (112, (.iload_n 1, 1)), (113, (.invokevirtual 284, 3)), (116, (.ifCond .ne 130, 3)), (119, (.aload_n 0, 1)), (120, (.iload_n 2, 1)), (121, (.iload_n 3, 1)), (122, (.invokevirtual 214, 3)), (125, (.ifCond .eq 130, 3)), (128, (.iconst 2, 1)), (129, (.ireturn, 1)), (130, (.iinc 3 1, 3)), (133, (.goto 88, 3)), (136, (.iinc 2 1, 3)), (139, (.goto 73, 3)), (142, (.iconst 0, 1)), (143, (.ireturn, 1))]
def ce_X10_judged : List (Nat × (Nat × Option Nat × WP)) := [(182, (1, some 10, wl_X10_table)), (284, (3, some 10, wl_X10_isLeft)), (161, (1, some 10, wl_X10_states)), (247, (2, some 10, wl_X10_isBadState)), (214, (3, some 10, wl_X10_leads))]
set_option maxRecDepth 100000 in
set_option maxHeartbeats 4000000 in
theorem ct_X10_judged (l : Launch) : Con l wM yX10_judged cX10_judged 4 (some .int) 3 wl_X10_judged := by
  refine sxm_ok l (ft := lkp ft_RX10) (c32 := lkp c32_RX10) (c64 := lkp c64_RX10) (ce := lkp ce_X10_judged) (sf := lkp sf_RX10) (lab := lkp [(33, [0, 1, 2]), (73, [0, 1, 2]), (88, [0, 1, 2, 3])]) (T := tb_X10_judged) (by decide +kernel) ft_RX10_ok c32_RX10_ok c64_RX10_ok (fun x q h => (show ∀ q ∈ ce_X10_judged, ceOK l wM RX10 3 q.1 q.2.1 q.2.2.1 q.2.2.2 from List.forall_mem_cons.mpr ⟨⟨yX10_table, cX10_table, 5, none, 2, ct_X10_table l, by decide, by decide, mi_X10_table.1, mi_X10_table.2, ml_RX10_182, mv_X10_table.1, mv_X10_table.2, ⟨_, _, rfl⟩, by decide, by decide +kernel⟩, List.forall_mem_cons.mpr ⟨⟨yX10_isLeft, cX10_isLeft, 4, (some .boolean), 1, ct_X10_isLeft l, by decide, by decide, mi_X10_isLeft.1, mi_X10_isLeft.2, ml_RX10_284, mv_X10_isLeft.1, mv_X10_isLeft.2, ⟨_, _, rfl⟩, by decide, by decide +kernel⟩, List.forall_mem_cons.mpr ⟨⟨yX10_states, cX10_states, 1, (some .int), 0, ct_X10_states l, by decide, by decide, mi_X10_states.1, mi_X10_states.2, ml_RX10_161, mv_X10_states.1, mv_X10_states.2, ⟨_, _, rfl⟩, by decide, by decide +kernel⟩, List.forall_mem_cons.mpr ⟨⟨yX10_isBadState, cX10_isBadState, 4, (some .boolean), 1, ct_X10_isBadState l, by decide, by decide, mi_X10_isBadState.1, mi_X10_isBadState.2, ml_RX10_247, mv_X10_isBadState.1, mv_X10_isBadState.2, ⟨_, _, rfl⟩, by decide, by decide +kernel⟩, List.forall_mem_cons.mpr ⟨⟨yX10_leads, cX10_leads, 5, (some .boolean), 1, ct_X10_leads l, by decide, by decide, mi_X10_leads.1, mi_X10_leads.2, ml_RX10_214, mv_X10_leads.1, mv_X10_leads.2, ⟨_, _, rfl⟩, by decide, by decide +kernel⟩, fun _ h => absurd h List.not_mem_nil⟩⟩⟩⟩⟩) (x, q) (lkp_mem h)) sf_RX10_ok (by decide +kernel) 400 (fun As σ Q h => ?_)
  replace h := p1r_e h
  obtain ⟨z0, q0, rfl, h⟩ := h
  replace h := onB_e h
  obtain ⟨e0, h⟩ := h
  have e0 := Nat.eq_of_beq_eq_true e0
  subst e0
  replace h := p1i_e h
  obtain ⟨x1, q1, rfl, h⟩ := h
  replace h := onB_e h
  obtain ⟨e9, h⟩ := h
  have e9 := List.isEmpty_iff.mp e9
  subst e9
  refine ⟨Nat.le_of_ble_eq_true rfl, fun P hP => ?_⟩
  exact h (fun x2 τ => P 33 [.ref 0, .int x1, .int x2] τ) (fun x2 τ => P 73 [.ref 0, .int x1, .int x2] τ) (fun x2 x3 τ => P 88 [.ref 0, .int x1, .int x2, .int x3] τ) (fun x2 τ hb => hP 33 [.ref 0, .int x1, .int x2] τ hb) (fun x2 τ hb => hP 73 [.ref 0, .int x1, .int x2] τ hb) (fun x2 x3 τ hb => hP 88 [.ref 0, .int x1, .int x2, .int x3] τ hb)
def wp_X10_lookAt  (σ : Sg) (Q : Sg → Prop) : Prop :=
  ∀ L109 : Int32 → Int32 → Int32 → Int32 → Int32 → Sg → Prop,
  ∀ L160 : Int32 → Int32 → Int32 → Int32 → Sg → Prop,
  (∀ (x1 : Int32) (x2 : Int32) (x4 : Int32) (x5 : Int32) (x6 : Int32) (τ : Sg), ((x2 < x6 → ((x5 = 0 → Q (sI τ 0 24 (3 : Int32))) ∧ (¬ x5 = 0 → L160 x1 x2 x4 (1 : Int32) τ))) ∧ (¬ x2 < x6 → ((x5 = 0 → L109 x1 x2 x4 (0 : Int32) (x6 + (1 : Int32)) τ) ∧ (¬ x5 = 0 → (vp_in x6 25 ∧ (((gI τ 14 (x6).toNatClampNeg) < (200 : Int32) → L109 x1 x2 x4 (1 : Int32) (x6 + (1 : Int32)) τ) ∧ (¬ (gI τ 14 (x6).toNatClampNeg) < (200 : Int32) → L109 x1 x2 x4 (0 : Int32) (x6 + (1 : Int32)) τ))))))) → L109 x1 x2 x4 x5 x6 τ) →
  (∀ (x1 : Int32) (x2 : Int32) (x4 : Int32) (x6 : Int32) (τ : Sg), ((x2 < x6 → Q (sI τ 0 26 ((gI τ 0 26) - (1 : Int32)))) ∧ (¬ x2 < x6 → wp_X10_keep x6 x4 (x1 &&& x4) τ (fun s1 => L160 x1 x2 x4 (x6 + (1 : Int32)) s1))) → L160 x1 x2 x4 x6 τ) →
  (vp_in ((gI (sI σ 0 25 ((gI σ 0 25) + (1 : Int32))) 0 26) - (1 : Int32)) 40 ∧ (vp_in ((gI (sI σ 0 25 ((gI σ 0 25) + (1 : Int32))) 0 26) - (1 : Int32)) 40 ∧ (((gI (sI σ 0 25 ((gI σ 0 25) + (1 : Int32))) 15 (((gI (sI σ 0 25 ((gI σ 0 25) + (1 : Int32))) 0 26) - (1 : Int32))).toNatClampNeg) = (gI (sI σ 0 25 ((gI σ 0 25) + (1 : Int32))) 0 8) → wp_X10_tellWay (sI σ 0 25 ((gI σ 0 25) + (1 : Int32))) (fun s2 => Q s2)) ∧ (¬ (gI (sI σ 0 25 ((gI σ 0 25) + (1 : Int32))) 15 (((gI (sI σ 0 25 ((gI σ 0 25) + (1 : Int32))) 0 26) - (1 : Int32))).toNatClampNeg) = (gI (sI σ 0 25 ((gI σ 0 25) + (1 : Int32))) 0 8) → wp_X10_isInFrame (gI (sI σ 0 25 ((gI σ 0 25) + (1 : Int32))) 15 (((gI (sI σ 0 25 ((gI σ 0 25) + (1 : Int32))) 0 26) - (1 : Int32))).toNatClampNeg) (gI (sI σ 0 25 ((gI σ 0 25) + (1 : Int32))) 16 (((gI (sI σ 0 25 ((gI σ 0 25) + (1 : Int32))) 0 26) - (1 : Int32))).toNatClampNeg) (sI σ 0 25 ((gI σ 0 25) + (1 : Int32))) (fun r3 => ((r3 = 0 → Q (sI (sI σ 0 25 ((gI σ 0 25) + (1 : Int32))) 0 26 ((gI (sI σ 0 25 ((gI σ 0 25) + (1 : Int32))) 0 26) - (1 : Int32)))) ∧ (¬ r3 = 0 → wp_X10_forerunner (gI (sI σ 0 25 ((gI σ 0 25) + (1 : Int32))) 15 (((gI (sI σ 0 25 ((gI σ 0 25) + (1 : Int32))) 0 26) - (1 : Int32))).toNatClampNeg) ((gI (sI σ 0 25 ((gI σ 0 25) + (1 : Int32))) 16 (((gI (sI σ 0 25 ((gI σ 0 25) + (1 : Int32))) 0 26) - (1 : Int32))).toNatClampNeg) - (1 : Int32)) (sI σ 0 25 ((gI σ 0 25) + (1 : Int32))) (fun r4 => ((r4 < 0 → wp_X10_states (sI σ 0 25 ((gI σ 0 25) + (1 : Int32))) (fun r5 => wp_X10_widened (gI (sI σ 0 25 ((gI σ 0 25) + (1 : Int32))) 16 (((gI (sI σ 0 25 ((gI σ 0 25) + (1 : Int32))) 0 26) - (1 : Int32))).toNatClampNeg) (r5 - (1 : Int32)) (gI (sI σ 0 25 ((gI σ 0 25) + (1 : Int32))) 15 (((gI (sI σ 0 25 ((gI σ 0 25) + (1 : Int32))) 0 26) - (1 : Int32))).toNatClampNeg) (sI σ 0 25 ((gI σ 0 25) + (1 : Int32))) (fun r6 => L109 (gI (sI σ 0 25 ((gI σ 0 25) + (1 : Int32))) 15 (((gI (sI σ 0 25 ((gI σ 0 25) + (1 : Int32))) 0 26) - (1 : Int32))).toNatClampNeg) (gI (sI σ 0 25 ((gI σ 0 25) + (1 : Int32))) 16 (((gI (sI σ 0 25 ((gI σ 0 25) + (1 : Int32))) 0 26) - (1 : Int32))).toNatClampNeg) r6 (1 : Int32) (1 : Int32) (sI σ 0 25 ((gI σ 0 25) + (1 : Int32)))))) ∧ (¬ r4 < 0 → wp_X10_meet r4 ((gI (sI σ 0 25 ((gI σ 0 25) + (1 : Int32))) 16 (((gI (sI σ 0 25 ((gI σ 0 25) + (1 : Int32))) 0 26) - (1 : Int32))).toNatClampNeg) - (1 : Int32)) (sI σ 0 25 ((gI σ 0 25) + (1 : Int32))) (fun s7 => Q s7)))))))))))
def wl_X10_lookAt : WP := fun As σ Q => p1r As (fun z0 r0 => onB (Nat.beq z0 0) (onB r0.isEmpty (wp_X10_lookAt  σ (fun τ => Q none τ))))
def tb_X10_lookAt : List (Nat × Instr × Nat) := [(0, (.aload_n 0, 1)), (1, (.dup, 1)), (2, (.getfield 148, 3)), (5, (.iconst 1, 1)), (6, (.iadd, 1)), (7, (.putfield 148, 3)), (10, (.aload_n 0, 1)), (11, (.getfield 57, 3)), (14, (.aload_n 0, 1)), (15, (.getfield 194, 3)), (18, (.iconst 1, 1)), (19, (.isub, 1)), (20, (.iaload, 1)), (21, (.istore_n 1, 1)), (22, (.aload_n 0, 1)), (23, (.getfield 60, 3)), (26, (.aload_n 0, 1)), (27, (.getfield 194, 3)), (30, (.iconst 1, 1)), (31, (.isub, 1)), (32, (.iaload, 1)), (33, (.istore_n 2, 1)), (34, (.iload_n 1, 1)), (35, (.aload_n 0, 1)), (36, (.getfield 122, 3)), (39, (.if_icmp .ne 47, 3)), (42, (.aload_n 0, 1)), (43, (.invokevirtual 217, 3)), (46, (.return_, 1)), (47, (.aload_n 0, 1)), (48, (.iload_n 1, 1)), (49, (.iload_n 2, 1)), (50, (.invokevirtual 204, 3)), (53, (.ifCond .ne 67, 3)), (56, (.aload_n 0, 1)), (57, (.dup, 1)), (58, (.getfield 194, 3)), (61, (.iconst 1, 1)), (62, (.isub, 1)), (63, (.putfield 194, 3)), (66, (.return_, 1)), (67, (.aload_n 0, 1)), (68, (.iload_n 1, 1)), (69, (.iload_n 2, 1)), (70, (.iconst 1, 1)), (71, (.isub, 1)), (72, (.invokevirtual 220, 3)), (75, (.istore_n 3, 1)), (76, (.iload_n 3, 1)), (77, (.ifCond .lt 89, 3)), (80, (.aload_n 0, 1)), (81, (.iload_n 3, 1)), (82, (.iload_n 2, 1)), (83, (.iconst 1, 1)), (84, (.isub, 1)), (85, (.invokevirtual 224, 3)), (88, (.return_, 1)), (89, (.aload_n 0, 1)), (90, (.iload_n 2, 1)), (91, (.aload_n 0, 1)), (92, (.invokevirtual 161, 3)), (95, (.iconst 1, 1)), (96, (.isub, 1)), (97, (.iload_n 1, 1)), (98, (.invokevirtual 227, 3)), (101, (.istore 4, 2)), (103, (.iconst 1, 1)), (104, (.istore 5, 2)), (106, (.iconst 1, 1)), (107, (.istore 6, 2)), (109, (.iload 6, 2)), (111, (.iload_n 2, 1)), (112, (.if_icmp .gt 146, 3)), (115, (.iload 5, 2)), (117, (.ifCond .eq 137, 3)), (120, (.aload_n 0, 1)), (121, (.getfield 54, 3)), (124, (.iload 6, 2)), (126, (.iaload, 1)), (127, (.sipush 200, 3)), (130, (.if_icmp .ge 137, 3)), (133, (.iconst 1, 1)), (134, (.goto 138, 3)), (137, (.iconst 0, 1)), (138, (.istore 5, 2)), (140, (.iinc 6 1, 3)), (143, (.goto 109, 3)), (146, (.iload 5, 2)), (148, (.ifCond .ne 157, 3)), (151, (.aload_n 0, 1)), (152, (.iconst 3, 1)), (153, (.putfield 191, 3)), (156, (.return_, 1)), (157, (.iconst 1, 1)), (158, (.istore 6, 2)), (160, (.iload 6, 2)), (162, (.iload_n 2, 1)), (163, (.if_icmp .gt 184, 3)), (166, (.aload_n 0, 1)), (167, (.iload 6, 2)), (169, (.iload 4, 2)), (171, (.iload_n 1, 1)), (172, (.iload 4, 2)), (174, (.iand, 1)), (175, (.invokevirtual 230, 3)), (178, (.iinc 6 1, 3)), (181, (.goto 160, 3)), (184, (.aload_n 0, 1)), (185, (.dup, 1)), (186, (.getfield 194, 3)), (189, (.iconst 1, 1)), (190, (.isub, 1)), (191, (.putfield 194, 3)), (194, (.return_, 1))]
def ce_X10_lookAt : List (Nat × (Nat × Option Nat × WP)) := [(217, (1, some 10, wl_X10_tellWay)), (204, (3, some 10, wl_X10_isInFrame)), (220, (3, some 10, wl_X10_forerunner)), (224, (3, some 10, wl_X10_meet)), (161, (1, some 10, wl_X10_states)), (227, (4, some 10, wl_X10_widened)), (230, (4, some 10, wl_X10_keep))]
set_option maxRecDepth 100000 in
set_option maxHeartbeats 4000000 in
theorem ct_X10_lookAt (l : Launch) : Con l wM yX10_lookAt cX10_lookAt 7 none 4 wl_X10_lookAt := by
  refine sxm_ok l (ft := lkp ft_RX10) (c32 := lkp c32_RX10) (c64 := lkp c64_RX10) (ce := lkp ce_X10_lookAt) (sf := lkp sf_RX10) (lab := lkp [(109, [0, 1, 2, 4, 5, 6]), (160, [0, 1, 2, 4, 6])]) (T := tb_X10_lookAt) (by decide +kernel) ft_RX10_ok c32_RX10_ok c64_RX10_ok (fun x q h => (show ∀ q ∈ ce_X10_lookAt, ceOK l wM RX10 4 q.1 q.2.1 q.2.2.1 q.2.2.2 from List.forall_mem_cons.mpr ⟨⟨yX10_tellWay, cX10_tellWay, 2, none, 0, ct_X10_tellWay l, by decide, by decide, mi_X10_tellWay.1, mi_X10_tellWay.2, ml_RX10_217, mv_X10_tellWay.1, mv_X10_tellWay.2, ⟨_, _, rfl⟩, by decide, by decide +kernel⟩, List.forall_mem_cons.mpr ⟨⟨yX10_isInFrame, cX10_isInFrame, 4, (some .boolean), 1, ct_X10_isInFrame l, by decide, by decide, mi_X10_isInFrame.1, mi_X10_isInFrame.2, ml_RX10_204, mv_X10_isInFrame.1, mv_X10_isInFrame.2, ⟨_, _, rfl⟩, by decide, by decide +kernel⟩, List.forall_mem_cons.mpr ⟨⟨yX10_forerunner, cX10_forerunner, 4, (some .int), 2, ct_X10_forerunner l, by decide, by decide, mi_X10_forerunner.1, mi_X10_forerunner.2, ml_RX10_220, mv_X10_forerunner.1, mv_X10_forerunner.2, ⟨_, _, rfl⟩, by decide, by decide +kernel⟩, List.forall_mem_cons.mpr ⟨⟨yX10_meet, cX10_meet, 3, none, 0, ct_X10_meet l, by decide, by decide, mi_X10_meet.1, mi_X10_meet.2, ml_RX10_224, mv_X10_meet.1, mv_X10_meet.2, ⟨_, _, rfl⟩, by decide, by decide +kernel⟩, List.forall_mem_cons.mpr ⟨⟨yX10_states, cX10_states, 1, (some .int), 0, ct_X10_states l, by decide, by decide, mi_X10_states.1, mi_X10_states.2, ml_RX10_161, mv_X10_states.1, mv_X10_states.2, ⟨_, _, rfl⟩, by decide, by decide +kernel⟩, List.forall_mem_cons.mpr ⟨⟨yX10_widened, cX10_widened, 7, (some .int), 3, ct_X10_widened l, by decide, by decide, mi_X10_widened.1, mi_X10_widened.2, ml_RX10_227, mv_X10_widened.1, mv_X10_widened.2, ⟨_, _, rfl⟩, by decide, by decide +kernel⟩, List.forall_mem_cons.mpr ⟨⟨yX10_keep, cX10_keep, 5, none, 0, ct_X10_keep l, by decide, by decide, mi_X10_keep.1, mi_X10_keep.2, ml_RX10_230, mv_X10_keep.1, mv_X10_keep.2, ⟨_, _, rfl⟩, by decide, by decide +kernel⟩, fun _ h => absurd h List.not_mem_nil⟩⟩⟩⟩⟩⟩⟩) (x, q) (lkp_mem h)) sf_RX10_ok (by decide +kernel) 400 (fun As σ Q h => ?_)
  replace h := p1r_e h
  obtain ⟨z0, q0, rfl, h⟩ := h
  replace h := onB_e h
  obtain ⟨e0, h⟩ := h
  have e0 := Nat.eq_of_beq_eq_true e0
  subst e0
  replace h := onB_e h
  obtain ⟨e9, h⟩ := h
  have e9 := List.isEmpty_iff.mp e9
  subst e9
  refine ⟨Nat.le_of_ble_eq_true rfl, fun P hP => ?_⟩
  exact h (fun x1 x2 x4 x5 x6 τ => P 109 [.ref 0, .int x1, .int x2, .int x4, .int x5, .int x6] τ) (fun x1 x2 x4 x6 τ => P 160 [.ref 0, .int x1, .int x2, .int x4, .int x6] τ) (fun x1 x2 x4 x5 x6 τ hb => hP 109 [.ref 0, .int x1, .int x2, .int x4, .int x5, .int x6] τ hb) (fun x1 x2 x4 x6 τ hb => hP 160 [.ref 0, .int x1, .int x2, .int x4, .int x6] τ hb)
def wp_X10_pushAll  (σ : Sg) (Q : Sg → Prop) : Prop :=
  ∀ L2 : Int32 → Sg → Prop,
  ∀ L30 : Int32 → Sg → Prop,
  ∀ L68 : Int32 → Int32 → Sg → Prop,
  (∀ (x1 : Int32) (τ : Sg), (((gI τ 0 23) < x1 → L30 (1 : Int32) τ) ∧ (¬ (gI τ 0 23) < x1 → (((gI τ 0 24) = 0 → wp_X10_push x1 τ (fun s1 => L2 (x1 + (1 : Int32)) s1)) ∧ (¬ (gI τ 0 24) = 0 → L30 (1 : Int32) τ)))) → L2 x1 τ) →
  (∀ (x1 : Int32) (τ : Sg), (((gI τ 0 23) < x1 → (((gI τ 0 24) = 0 → ((((gI τ 0 23) + (1 : Int32)) = (24 : Int32) → (((gI (sI τ 0 24 (3 : Int32)) 0 24) = 0 → Q (sI (sI τ 0 24 (3 : Int32)) 0 23 ((gI (sI τ 0 24 (3 : Int32)) 0 23) + (1 : Int32)))) ∧ (¬ (gI (sI τ 0 24 (3 : Int32)) 0 24) = 0 → Q (sI τ 0 24 (3 : Int32))))) ∧ (¬ ((gI τ 0 23) + (1 : Int32)) = (24 : Int32) → (((gI τ 0 24) = 0 → Q (sI τ 0 23 ((gI τ 0 23) + (1 : Int32)))) ∧ (¬ (gI τ 0 24) = 0 → Q τ))))) ∧ (¬ (gI τ 0 24) = 0 → (((gI τ 0 24) = 0 → Q (sI τ 0 23 ((gI τ 0 23) + (1 : Int32)))) ∧ (¬ (gI τ 0 24) = 0 → Q τ))))) ∧ (¬ (gI τ 0 23) < x1 → (((gI τ 0 24) = 0 → wp_X10_hasAll x1 τ (fun r2 => ((r2 = 0 → L30 (x1 + (1 : Int32)) τ) ∧ (¬ r2 = 0 → (vp_in x1 25 ∧ L68 x1 (0 : Int32) (sI τ 0 31 (gI τ 14 (x1).toNatClampNeg))))))) ∧ (¬ (gI τ 0 24) = 0 → (((gI τ 0 24) = 0 → ((((gI τ 0 23) + (1 : Int32)) = (24 : Int32) → (((gI (sI τ 0 24 (3 : Int32)) 0 24) = 0 → Q (sI (sI τ 0 24 (3 : Int32)) 0 23 ((gI (sI τ 0 24 (3 : Int32)) 0 23) + (1 : Int32)))) ∧ (¬ (gI (sI τ 0 24 (3 : Int32)) 0 24) = 0 → Q (sI τ 0 24 (3 : Int32))))) ∧ (¬ ((gI τ 0 23) + (1 : Int32)) = (24 : Int32) → (((gI τ 0 24) = 0 → Q (sI τ 0 23 ((gI τ 0 23) + (1 : Int32)))) ∧ (¬ (gI τ 0 24) = 0 → Q τ))))) ∧ (¬ (gI τ 0 24) = 0 → (((gI τ 0 24) = 0 → Q (sI τ 0 23 ((gI τ 0 23) + (1 : Int32)))) ∧ (¬ (gI τ 0 24) = 0 → Q τ)))))))) → L30 x1 τ) →
  (∀ (x1 : Int32) (x2 : Int32) (τ : Sg), ((x2 < (gI τ 0 31) → (vp_in (((200 : Int32) * x1) + x2) 5000 ∧ (vp_in x2 200 ∧ (vp_in (((200 : Int32) * x1) + x2) 5000 ∧ (vp_in x2 200 ∧ L68 x1 (x2 + (1 : Int32)) (sI (sI τ 17 (x2).toNatClampNeg (gI τ 12 ((((200 : Int32) * x1) + x2)).toNatClampNeg)) 18 (x2).toNatClampNeg (gI (sI τ 17 (x2).toNatClampNeg (gI τ 12 ((((200 : Int32) * x1) + x2)).toNatClampNeg)) 13 ((((200 : Int32) * x1) + x2)).toNatClampNeg))))))) ∧ (¬ x2 < (gI τ 0 31) → L30 (x1 + (1 : Int32)) (sI τ 0 24 (1 : Int32)))) → L68 x1 x2 τ) →
  L2 (1 : Int32) σ
def wl_X10_pushAll : WP := fun As σ Q => p1r As (fun z0 r0 => onB (Nat.beq z0 0) (onB r0.isEmpty (wp_X10_pushAll  σ (fun τ => Q none τ))))
def tb_X10_pushAll : List (Nat × Instr × Nat) := [(0, (.iconst 1, 1)), (1, (.istore_n 1, 1)), (2, (.iload_n 1, 1)), (3, (.aload_n 0, 1)), (4, (.getfield 188, 3)), (7, (.if_icmp .gt 28, 3)), (10, (.aload_n 0, 1)), (11, (.getfield 191, 3)), (14, (.ifCond .ne 28, 3)), (17, (.aload_n 0, 1)), (18, (.iload_n 1, 1)), (19, (.invokevirtual 240, 3)), (22, (.iinc 1 1, 3)), (25, (.goto 2, 3)), (28, (.iconst 1, 1)), (29, (.istore_n 1, 1)), (30, (.iload_n 1, 1)), (31, (.aload_n 0, 1)), (32, (.getfield 188, 3)), (35, (.if_icmp .gt 129, 3)), (38, (.aload_n 0, 1)), (39, (.getfield 191, 3)), (42, (.ifCond .ne 129, 3)), (45, (.aload_n 0, 1)), (46, (.iload_n 1, 1)), (47, (.invokevirtual 244, 3)), (50, (.ifCond .ne 56, 3)), (53, (.goto 123, 3)), (56, (.aload_n 0, 1)), (57, (.aload_n 0, 1)), (58, (.getfield 54, 3)), (61, (.iload_n 1, 1)), (62, (.iaload, 1)), (63, (.putfield 69, 3)), (66, (.iconst 0, 1)), (67, (.istore_n 2, 1)), (68, (.iload_n 2, 1)), (69, (.aload_n 0, 1)), (70, (.getfield 69, 3)), (73, (.if_icmp .ge 118, 3)), (76, (.aload_n 0, 1)), (77, (.getfield 63, 3)), (80, (.iload_n 2, 1)), (81, (.aload_n 0, 1)), (82, (.getfield 48, 3)), (85, (.sipush 200, 3)), (88, (.iload_n 1, 1)), (89, (.imul, 1)), (90, (.iload_n 2, 1)), (91, (.iadd, 1)), (92, (.iaload, 1)), (93, (.iastore, 1)), (94, (.aload_n 0, 1)), (95, (.getfield 66, 3)), (98, (.iload_n 2, 1)), (99, (.aload_n 0, 1)), (100, (.getfield 51, 3)), (103, (.sipush 200, 3)), (106, (.iload_n 1, 1)), (107, (.imul, 1)), (108, (.iload_n 2, 1)), (109, (.iadd, 1)), (110, (.iaload, 1)), (111, (.iastore, 1)), (112, (.iinc 2 1, 3)), (115, (.goto 68, 3)), (118, (.aload_n 0, 1)), (119, (.iconst 1, 1)), (120, (.putfield 191, 3)), (123, (.iinc 1 1, 3)), (126, (.goto 30, 3)), (129, (.aload_n 0, 1)), (130, (.getfield 191, 3)), (133, (.ifCond .ne 152, 3)), (136, (.aload_n 0, 1)), (137, (.getfield 188, 3)), (140, (.iconst 1, 1)), (141, (.iadd, 1)), (142, (.bipush 24, 2)), (144, (.if_icmp .ne 152, 3)), (147, (.aload_n 0, 1)), (148, (.iconst 3, 1)), (149, (.putfield 191, 3)), (152, (.aload_n 0, 1)), (153, (.getfield 191, 3)), (156, (.ifCond .ne 169, 3)), (159, (.aload_n 0, 1)), (160, (.dup, 1)), (161, (.getfield 188, 3)), (164, (.iconst 1, 1)), (165, (.iadd, 1)), (166, (.putfield 188, 3)), (169, (.return_, 1))]
def ce_X10_pushAll : List (Nat × (Nat × Option Nat × WP)) := [(240, (2, some 10, wl_X10_push)), (244, (2, some 10, wl_X10_hasAll))]
set_option maxRecDepth 100000 in
set_option maxHeartbeats 4000000 in
theorem ct_X10_pushAll (l : Launch) : Con l wM yX10_pushAll cX10_pushAll 3 none 4 wl_X10_pushAll := by
  refine sxm_ok l (ft := lkp ft_RX10) (c32 := lkp c32_RX10) (c64 := lkp c64_RX10) (ce := lkp ce_X10_pushAll) (sf := lkp sf_RX10) (lab := lkp [(2, [0, 1]), (30, [0, 1]), (68, [0, 1, 2])]) (T := tb_X10_pushAll) (by decide +kernel) ft_RX10_ok c32_RX10_ok c64_RX10_ok (fun x q h => (show ∀ q ∈ ce_X10_pushAll, ceOK l wM RX10 4 q.1 q.2.1 q.2.2.1 q.2.2.2 from List.forall_mem_cons.mpr ⟨⟨yX10_push, cX10_push, 4, none, 3, ct_X10_push l, by decide, by decide, mi_X10_push.1, mi_X10_push.2, ml_RX10_240, mv_X10_push.1, mv_X10_push.2, ⟨_, _, rfl⟩, by decide, by decide +kernel⟩, List.forall_mem_cons.mpr ⟨⟨yX10_hasAll, cX10_hasAll, 4, (some .boolean), 1, ct_X10_hasAll l, by decide, by decide, mi_X10_hasAll.1, mi_X10_hasAll.2, ml_RX10_244, mv_X10_hasAll.1, mv_X10_hasAll.2, ⟨_, _, rfl⟩, by decide, by decide +kernel⟩, fun _ h => absurd h List.not_mem_nil⟩⟩) (x, q) (lkp_mem h)) sf_RX10_ok (by decide +kernel) 400 (fun As σ Q h => ?_)
  replace h := p1r_e h
  obtain ⟨z0, q0, rfl, h⟩ := h
  replace h := onB_e h
  obtain ⟨e0, h⟩ := h
  have e0 := Nat.eq_of_beq_eq_true e0
  subst e0
  replace h := onB_e h
  obtain ⟨e9, h⟩ := h
  have e9 := List.isEmpty_iff.mp e9
  subst e9
  refine ⟨Nat.le_of_ble_eq_true rfl, fun P hP => ?_⟩
  exact h (fun x1 τ => P 2 [.ref 0, .int x1] τ) (fun x1 τ => P 30 [.ref 0, .int x1] τ) (fun x1 x2 τ => P 68 [.ref 0, .int x1, .int x2] τ) (fun x1 τ hb => hP 2 [.ref 0, .int x1] τ hb) (fun x1 τ hb => hP 30 [.ref 0, .int x1] τ hb) (fun x1 x2 τ hb => hP 68 [.ref 0, .int x1, .int x2] τ hb)
def wp_X10_widen (x1 : Int32) (x2 : Int32) (x3 : Int32) (σ : Sg) (Q : Int32 → Sg → Prop) : Prop :=
  wp_X10_isFrame x1 σ (fun r1 => ((r1 = 0 → wp_X10_no (-3 : Int32) σ (fun r2 s3 => Q r2 s3)) ∧ (¬ r1 = 0 → wp_X10_isCube x2 x3 σ (fun r4 => ((r4 = 0 → wp_X10_no (-7 : Int32) σ (fun r5 s6 => Q r5 s6)) ∧ (¬ r4 = 0 → wp_X10_isInCube (gI σ 0 8) x2 x3 σ (fun r7 => ((r7 = 0 → wp_X10_table σ (fun s8 => wp_X10_asked (x1 - (1 : Int32)) x2 x3 s8 (fun r9 => ((r9 < 0 → wp_X10_widened x1 x2 x3 s8 (fun r10 => Q r10 s8)) ∧ (¬ r9 < 0 → wp_X10_no (-7 : Int32) s8 (fun r11 s12 => Q r11 s12)))))) ∧ (¬ r7 = 0 → wp_X10_no (-7 : Int32) σ (fun r13 s14 => Q r13 s14))))))))))
def wl_X10_widen : WP := fun As σ Q => p1r As (fun z0 r0 => onB (Nat.beq z0 0) (p1i r0 (fun x1 r1 => p1i r1 (fun x2 r2 => p1i r2 (fun x3 r3 => onB r3.isEmpty (wp_X10_widen x1 x2 x3 σ (fun x τ => Q (some (.int x)) τ)))))))
def tb_X10_widen : List (Nat × Instr × Nat) := [(0, (.iload_n 1, 1)), (1, (.invokestatic 261, 3)), (4, (.ifCond .ne 14, 3)), (7, (.aload_n 0, 1)), (8, (.bipush (-3), 2)), (10, (.invokevirtual 118, 3)), (13, (.ireturn, 1)), (14, (.aload_n 0, 1)), (15, (.iload_n 2, 1)), (16, (.iload_n 3, 1)), (17, (.invokevirtual 266, 3)), (20, (.ifCond .eq 35, 3)), (23, (.aload_n 0, 1)), (24, (.getfield 122, 3)), (27, (.iload_n 2, 1)), (28, (.iload_n 3, 1)), (29, (.invokestatic 200, 3)), (32, (.ifCond .eq 42, 3)), (35, (.aload_n 0, 1)), (36, (.bipush (-7), 2)), (38, (.invokevirtual 118, 3)), (41, (.ireturn, 1)), (42, (.aload_n 0, 1)), (43, (.invokevirtual 182, 3)), (46, (.aload_n 0, 1)), (47, (.iload_n 1, 1)), (48, (.iconst 1, 1)), (49, (.isub, 1)), (50, (.iload_n 2, 1)), (51, (.iload_n 3, 1)), (52, (.invokevirtual 211, 3)), (55, (.ifCond .lt 67, 3)), (58, (.aload_n 0, 1)), (59, (.bipush (-7), 2)), (61, (.invokevirtual 118, 3)), (64, (.goto 74, 3)), (67, (.aload_n 0, 1)), (68, (.iload_n 1, 1)), (69, (.iload_n 2, 1)), (70, (.iload_n 3, 1)), (71, (.invokevirtual 227, 3)), (74, (.ireturn, 1))]
def ce_X10_widen : List (Nat × (Nat × Option Nat × WP)) := [(261, (1, none, wl_X10_isFrame)), (118, (2, some 10, wl_X10_no)), (266, (3, some 10, wl_X10_isCube)), (200, (3, none, wl_X10_isInCube)), (182, (1, some 10, wl_X10_table)), (211, (4, some 10, wl_X10_asked)), (227, (4, some 10, wl_X10_widened))]
set_option maxRecDepth 100000 in
set_option maxHeartbeats 4000000 in
theorem ct_X10_widen (l : Launch) : Con l wM yX10_widen cX10_widen 4 (some .int) 4 wl_X10_widen := by
  refine sxm_ok l (ft := lkp ft_RX10) (c32 := lkp c32_RX10) (c64 := lkp c64_RX10) (ce := lkp ce_X10_widen) (sf := lkp sf_RX10) (lab := lkp []) (T := tb_X10_widen) (by decide +kernel) ft_RX10_ok c32_RX10_ok c64_RX10_ok (fun x q h => (show ∀ q ∈ ce_X10_widen, ceOK l wM RX10 4 q.1 q.2.1 q.2.2.1 q.2.2.2 from List.forall_mem_cons.mpr ⟨⟨yX10_isFrame, cX10_isFrame, 1, (some .boolean), 0, ct_X10_isFrame l, by decide, by decide, mi_X10_isFrame.1, mi_X10_isFrame.2, Or.inl ml_RX10_261, ms_X10_isFrame, by decide +kernel⟩, List.forall_mem_cons.mpr ⟨⟨yX10_no, cX10_no, 2, (some .int), 0, ct_X10_no l, by decide, by decide, mi_X10_no.1, mi_X10_no.2, ml_RX10_118, mv_X10_no.1, mv_X10_no.2, ⟨_, _, rfl⟩, by decide, by decide +kernel⟩, List.forall_mem_cons.mpr ⟨⟨yX10_isCube, cX10_isCube, 3, (some .boolean), 1, ct_X10_isCube l, by decide, by decide, mi_X10_isCube.1, mi_X10_isCube.2, ml_RX10_266, mv_X10_isCube.1, mv_X10_isCube.2, ⟨_, _, rfl⟩, by decide, by decide +kernel⟩, List.forall_mem_cons.mpr ⟨⟨yX10_isInCube, cX10_isInCube, 3, (some .boolean), 0, ct_X10_isInCube l, by decide, by decide, mi_X10_isInCube.1, mi_X10_isInCube.2, Or.inl ml_RX10_200, ms_X10_isInCube, by decide +kernel⟩, List.forall_mem_cons.mpr ⟨⟨yX10_table, cX10_table, 5, none, 2, ct_X10_table l, by decide, by decide, mi_X10_table.1, mi_X10_table.2, ml_RX10_182, mv_X10_table.1, mv_X10_table.2, ⟨_, _, rfl⟩, by decide, by decide +kernel⟩, List.forall_mem_cons.mpr ⟨⟨yX10_asked, cX10_asked, 5, (some .int), 2, ct_X10_asked l, by decide, by decide, mi_X10_asked.1, mi_X10_asked.2, ml_RX10_211, mv_X10_asked.1, mv_X10_asked.2, ⟨_, _, rfl⟩, by decide, by decide +kernel⟩, List.forall_mem_cons.mpr ⟨⟨yX10_widened, cX10_widened, 7, (some .int), 3, ct_X10_widened l, by decide, by decide, mi_X10_widened.1, mi_X10_widened.2, ml_RX10_227, mv_X10_widened.1, mv_X10_widened.2, ⟨_, _, rfl⟩, by decide, by decide +kernel⟩, fun _ h => absurd h List.not_mem_nil⟩⟩⟩⟩⟩⟩⟩) (x, q) (lkp_mem h)) sf_RX10_ok (by decide +kernel) 400 (fun As σ Q h => ?_)
  replace h := p1r_e h
  obtain ⟨z0, q0, rfl, h⟩ := h
  replace h := onB_e h
  obtain ⟨e0, h⟩ := h
  have e0 := Nat.eq_of_beq_eq_true e0
  subst e0
  replace h := p1i_e h
  obtain ⟨x1, q1, rfl, h⟩ := h
  replace h := p1i_e h
  obtain ⟨x2, q2, rfl, h⟩ := h
  replace h := p1i_e h
  obtain ⟨x3, q3, rfl, h⟩ := h
  replace h := onB_e h
  obtain ⟨e9, h⟩ := h
  have e9 := List.isEmpty_iff.mp e9
  subst e9
  refine ⟨Nat.le_of_ble_eq_true rfl, fun P hP => ?_⟩
  exact h 
def wp_X10_shortest  (σ : Sg) (Q : Int32 → Sg → Prop) : Prop :=
  ∀ L12 : Int32 → Int32 → Sg → Prop,
  (∀ (x1 : Int32) (x2 : Int32) (τ : Sg), wp_X10_states τ (fun r1 => ((x2 < r1 → (vp_in x2 256 ∧ (((gI τ 20 (x2).toNatClampNeg) < 0 → L12 x1 (x2 + (1 : Int32)) τ) ∧ (¬ (gI τ 20 (x2).toNatClampNeg) < 0 → wp_X10_isBadState x2 τ (fun r2 => ((r2 = 0 → L12 x1 (x2 + (1 : Int32)) τ) ∧ (¬ r2 = 0 → ((x1 < 0 → (vp_in x2 256 ∧ L12 (gI τ 20 (x2).toNatClampNeg) (x2 + (1 : Int32)) τ)) ∧ (¬ x1 < 0 → (vp_in x2 256 ∧ (((gI τ 20 (x2).toNatClampNeg) < x1 → (vp_in x2 256 ∧ L12 (gI τ 20 (x2).toNatClampNeg) (x2 + (1 : Int32)) τ)) ∧ (¬ (gI τ 20 (x2).toNatClampNeg) < x1 → L12 x1 (x2 + (1 : Int32)) τ)))))))))))) ∧ (¬ x2 < r1 → Q x1 τ))) → L12 x1 x2 τ) →
  wp_X10_findFar (gI σ 0 8) σ (fun s3 => L12 (-1 : Int32) (0 : Int32) s3)
def wl_X10_shortest : WP := fun As σ Q => p1r As (fun z0 r0 => onB (Nat.beq z0 0) (onB r0.isEmpty (wp_X10_shortest  σ (fun x τ => Q (some (.int x)) τ))))
def tb_X10_shortest : List (Nat × Instr × Nat) := [(0, (.aload_n 0, 1)), (1, (.aload_n 0, 1)), (2, (.getfield 122, 3)), (5, (.invokevirtual 269, 3)), (8, (.iconst (-1), 1)), (9, (.istore_n 1, 1)), (10, (.iconst 0, 1)), (11, (.istore_n 2, 1)), (12, (.iload_n 2, 1)), (13, (.aload_n 0, 1)), (14, (.invokevirtual 161, 3)), (17, (.if_icmp .ge 64, 3)), (20, (.aload_n 0, 1)), (21, (.getfield 75, 3)), (24, (.iload_n 2, 1)), (25, (.iaload, 1)), (26, (.ifCond .lt 58, 3)), (29, (.aload_n 0, 1)), (30, (.iload_n 2, 1)), (31, (.invokevirtual 247, 3)), (34, (.ifCond .eq 58, 3)), (37, (.iload_n 1, 1)), (38, (.ifCond .lt 51, 3)), (41, (.aload_n 0, 1)), (42, (.getfield 75, 3)), (45, (.iload_n 2, 1)), (46, (.iaload, 1)), (47, (.iload_n 1, 1)), (48, (.if_icmp .ge 58, 3)), (51, (.aload_n 0, 1)), (52, (.getfield 75, 3)), (55, (.iload_n 2, 1)), (56, (.iaload, 1)), (57, (.istore_n 1, 1)), (58, (.iinc 2 1, 3)), (61, (.goto 12, 3)), (64, (.iload_n 1, 1)), (65, (.ireturn, 1))]
def ce_X10_shortest : List (Nat × (Nat × Option Nat × WP)) := [(269, (2, some 10, wl_X10_findFar)), (161, (1, some 10, wl_X10_states)), (247, (2, some 10, wl_X10_isBadState))]
set_option maxRecDepth 100000 in
set_option maxHeartbeats 4000000 in
theorem ct_X10_shortest (l : Launch) : Con l wM yX10_shortest cX10_shortest 3 (some .int) 4 wl_X10_shortest := by
  refine sxm_ok l (ft := lkp ft_RX10) (c32 := lkp c32_RX10) (c64 := lkp c64_RX10) (ce := lkp ce_X10_shortest) (sf := lkp sf_RX10) (lab := lkp [(12, [0, 1, 2])]) (T := tb_X10_shortest) (by decide +kernel) ft_RX10_ok c32_RX10_ok c64_RX10_ok (fun x q h => (show ∀ q ∈ ce_X10_shortest, ceOK l wM RX10 4 q.1 q.2.1 q.2.2.1 q.2.2.2 from List.forall_mem_cons.mpr ⟨⟨yX10_findFar, cX10_findFar, 6, none, 3, ct_X10_findFar l, by decide, by decide, mi_X10_findFar.1, mi_X10_findFar.2, ml_RX10_269, mv_X10_findFar.1, mv_X10_findFar.2, ⟨_, _, rfl⟩, by decide, by decide +kernel⟩, List.forall_mem_cons.mpr ⟨⟨yX10_states, cX10_states, 1, (some .int), 0, ct_X10_states l, by decide, by decide, mi_X10_states.1, mi_X10_states.2, ml_RX10_161, mv_X10_states.1, mv_X10_states.2, ⟨_, _, rfl⟩, by decide, by decide +kernel⟩, List.forall_mem_cons.mpr ⟨⟨yX10_isBadState, cX10_isBadState, 4, (some .boolean), 1, ct_X10_isBadState l, by decide, by decide, mi_X10_isBadState.1, mi_X10_isBadState.2, ml_RX10_247, mv_X10_isBadState.1, mv_X10_isBadState.2, ⟨_, _, rfl⟩, by decide, by decide +kernel⟩, fun _ h => absurd h List.not_mem_nil⟩⟩⟩) (x, q) (lkp_mem h)) sf_RX10_ok (by decide +kernel) 400 (fun As σ Q h => ?_)
  replace h := p1r_e h
  obtain ⟨z0, q0, rfl, h⟩ := h
  replace h := onB_e h
  obtain ⟨e0, h⟩ := h
  have e0 := Nat.eq_of_beq_eq_true e0
  subst e0
  replace h := onB_e h
  obtain ⟨e9, h⟩ := h
  have e9 := List.isEmpty_iff.mp e9
  subst e9
  refine ⟨Nat.le_of_ble_eq_true rfl, fun P hP => ?_⟩
  exact h (fun x1 x2 τ => P 12 [.ref 0, .int x1, .int x2] τ) (fun x1 x2 τ hb => hP 12 [.ref 0, .int x1, .int x2] τ hb)
def wp_X10_within (x1 : Int32) (σ : Sg) (Q : Int32 → Sg → Prop) : Prop :=
  ∀ L23 : Int32 → Int32 → Sg → Prop,
  (∀ (x2 : Int32) (x3 : Int32) (τ : Sg), wp_X10_states τ (fun r1 => ((x3 < r1 → (vp_in x3 256 ∧ (((gI τ 20 (x3).toNatClampNeg) < 0 → L23 (x2 + (0 : Int32)) (x3 + (1 : Int32)) τ) ∧ (¬ (gI τ 20 (x3).toNatClampNeg) < 0 → (vp_in x3 256 ∧ ((x1 < (gI τ 20 (x3).toNatClampNeg) → L23 (x2 + (0 : Int32)) (x3 + (1 : Int32)) τ) ∧ (¬ x1 < (gI τ 20 (x3).toNatClampNeg) → L23 (x2 + (1 : Int32)) (x3 + (1 : Int32)) τ))))))) ∧ (¬ x3 < r1 → Q x2 τ))) → L23 x2 x3 τ) →
  ((x1 < 0 → wp_X10_no (-4 : Int32) σ (fun r2 s3 => Q r2 s3)) ∧ (¬ x1 < 0 → wp_X10_findFar (gI σ 0 8) σ (fun s4 => L23 (0 : Int32) (0 : Int32) s4)))
def wl_X10_within : WP := fun As σ Q => p1r As (fun z0 r0 => onB (Nat.beq z0 0) (p1i r0 (fun x1 r1 => onB r1.isEmpty (wp_X10_within x1 σ (fun x τ => Q (some (.int x)) τ)))))
def tb_X10_within : List (Nat × Instr × Nat) := [(0, (.iload_n 1, 1)), (1, (.ifCond .ge 11, 3)), (4, (.aload_n 0, 1)), (5, (.bipush (-4), 2)), (7, (.invokevirtual 118, 3)), (10, (.ireturn, 1)), (11, (.aload_n 0, 1)), (12, (.aload_n 0, 1)), (13, (.getfield 122, 3)), (16, (.invokevirtual 269, 3)), (19, (.iconst 0, 1)), (20, (.istore_n 2, 1)), (21, (.iconst 0, 1)), (22, (.istore_n 3, 1)), (23, (.iload_n 3, 1)), (24, (.aload_n 0, 1)), (25, (.invokevirtual 161, 3)), (28, (.if_icmp .ge 64, 3)), (31, (.iload_n 2, 1)), (32, (.aload_n 0, 1)), (33, (.getfield 75, 3)), (36, (.iload_n 3, 1)), (37, (.iaload, 1)), (38, (.ifCond .lt 55, 3)), (41, (.aload_n 0, 1)), (42, (.getfield 75, 3)), (45, (.iload_n 3, 1)), (46, (.iaload, 1)), (47, (.iload_n 1, 1)), (48, (.if_icmp .gt 55, 3)), (51, (.iconst 1, 1)), (52, (.goto 56, 3)), (55, (.iconst 0, 1)), (56, (.iadd, 1)), (57, (.istore_n 2, 1)), (58, (.iinc 3 1, 3)), (61, (.goto 23, 3)), (64, (.iload_n 2, 1)), (65, (.ireturn, 1))]
def ce_X10_within : List (Nat × (Nat × Option Nat × WP)) := [(118, (2, some 10, wl_X10_no)), (269, (2, some 10, wl_X10_findFar)), (161, (1, some 10, wl_X10_states))]
set_option maxRecDepth 100000 in
set_option maxHeartbeats 4000000 in
theorem ct_X10_within (l : Launch) : Con l wM yX10_within cX10_within 4 (some .int) 4 wl_X10_within := by
  refine sxm_ok l (ft := lkp ft_RX10) (c32 := lkp c32_RX10) (c64 := lkp c64_RX10) (ce := lkp ce_X10_within) (sf := lkp sf_RX10) (lab := lkp [(23, [0, 1, 2, 3])]) (T := tb_X10_within) (by decide +kernel) ft_RX10_ok c32_RX10_ok c64_RX10_ok (fun x q h => (show ∀ q ∈ ce_X10_within, ceOK l wM RX10 4 q.1 q.2.1 q.2.2.1 q.2.2.2 from List.forall_mem_cons.mpr ⟨⟨yX10_no, cX10_no, 2, (some .int), 0, ct_X10_no l, by decide, by decide, mi_X10_no.1, mi_X10_no.2, ml_RX10_118, mv_X10_no.1, mv_X10_no.2, ⟨_, _, rfl⟩, by decide, by decide +kernel⟩, List.forall_mem_cons.mpr ⟨⟨yX10_findFar, cX10_findFar, 6, none, 3, ct_X10_findFar l, by decide, by decide, mi_X10_findFar.1, mi_X10_findFar.2, ml_RX10_269, mv_X10_findFar.1, mv_X10_findFar.2, ⟨_, _, rfl⟩, by decide, by decide +kernel⟩, List.forall_mem_cons.mpr ⟨⟨yX10_states, cX10_states, 1, (some .int), 0, ct_X10_states l, by decide, by decide, mi_X10_states.1, mi_X10_states.2, ml_RX10_161, mv_X10_states.1, mv_X10_states.2, ⟨_, _, rfl⟩, by decide, by decide +kernel⟩, fun _ h => absurd h List.not_mem_nil⟩⟩⟩) (x, q) (lkp_mem h)) sf_RX10_ok (by decide +kernel) 400 (fun As σ Q h => ?_)
  replace h := p1r_e h
  obtain ⟨z0, q0, rfl, h⟩ := h
  replace h := onB_e h
  obtain ⟨e0, h⟩ := h
  have e0 := Nat.eq_of_beq_eq_true e0
  subst e0
  replace h := p1i_e h
  obtain ⟨x1, q1, rfl, h⟩ := h
  replace h := onB_e h
  obtain ⟨e9, h⟩ := h
  have e9 := List.isEmpty_iff.mp e9
  subst e9
  refine ⟨Nat.le_of_ble_eq_true rfl, fun P hP => ?_⟩
  exact h (fun x2 x3 τ => P 23 [.ref 0, .int x1, .int x2, .int x3] τ) (fun x2 x3 τ hb => hP 23 [.ref 0, .int x1, .int x2, .int x3] τ hb)
def wp_X10_keeps (x1 : Int32) (σ : Sg) (Q : Int32 → Sg → Prop) : Prop :=
  ∀ L26 : Int32 → Int32 → Sg → Prop,
  (∀ (x2 : Int32) (x3 : Int32) (τ : Sg), wp_X10_states τ (fun r1 => ((x3 < r1 → ((x2 = 0 → L26 (0 : Int32) (x3 + (1 : Int32)) τ) ∧ (¬ x2 = 0 → (vp_in x3 256 ∧ (((gI τ 20 (x3).toNatClampNeg) < 0 → L26 (1 : Int32) (x3 + (1 : Int32)) τ) ∧ (¬ (gI τ 20 (x3).toNatClampNeg) < 0 → (vp_in x3 256 ∧ ((x1 < (gI τ 20 (x3).toNatClampNeg) → L26 (1 : Int32) (x3 + (1 : Int32)) τ) ∧ (¬ x1 < (gI τ 20 (x3).toNatClampNeg) → wp_X10_isInFrame x3 x1 τ (fun r2 => ((r2 = 0 → L26 (0 : Int32) (x3 + (1 : Int32)) τ) ∧ (¬ r2 = 0 → L26 (1 : Int32) (x3 + (1 : Int32)) τ)))))))))))) ∧ (¬ x3 < r1 → ((x2 = 0 → Q (0 : Int32) τ) ∧ (¬ x2 = 0 → Q (1 : Int32) τ))))) → L26 x2 x3 τ) →
  wp_X10_isFrame x1 σ (fun r3 => ((r3 = 0 → wp_X10_no (-3 : Int32) σ (fun r4 s5 => Q r4 s5)) ∧ (¬ r3 = 0 → wp_X10_findFar (gI σ 0 8) σ (fun s6 => L26 (1 : Int32) (0 : Int32) s6))))
def wl_X10_keeps : WP := fun As σ Q => p1r As (fun z0 r0 => onB (Nat.beq z0 0) (p1i r0 (fun x1 r1 => onB r1.isEmpty (wp_X10_keeps x1 σ (fun x τ => Q (some (.int x)) τ)))))
def tb_X10_keeps : List (Nat × Instr × Nat) := [(0, (.iload_n 1, 1)), (1, (.invokestatic 261, 3)), (4, (.ifCond .ne 14, 3)), (7, (.aload_n 0, 1)), (8, (.bipush (-3), 2)), (10, (.invokevirtual 118, 3)), (13, (.ireturn, 1)), (14, (.aload_n 0, 1)), (15, (.aload_n 0, 1)), (16, (.getfield 122, 3)), (19, (.invokevirtual 269, 3)), (22, (.iconst 1, 1)), (23, (.istore_n 2, 1)), (24, (.iconst 0, 1)), (25, (.istore_n 3, 1)), (26, (.iload_n 3, 1)), (27, (.aload_n 0, 1)), (28, (.invokevirtual 161, 3)), (31, (.if_icmp .ge 78, 3)), (34, (.iload_n 2, 1)), (35, (.ifCond .eq 70, 3)), (38, (.aload_n 0, 1)), (39, (.getfield 75, 3)), (42, (.iload_n 3, 1)), (43, (.iaload, 1)), (44, (.ifCond .lt 66, 3)), (47, (.aload_n 0, 1)), (48, (.getfield 75, 3)), (51, (.iload_n 3, 1)), (52, (.iaload, 1)), (53, (.iload_n 1, 1)), (54, (.if_icmp .gt 66, 3)), (57, (.aload_n 0, 1)), (58, (.iload_n 3, 1)), (59, (.iload_n 1, 1)), (60, (.invokevirtual 204, 3)), (63, (.ifCond .eq 70, 3)), (66, (.iconst 1, 1)), (67, (.goto 71, 3)), (70, (.iconst 0, 1)), (71, (.istore_n 2, 1)), (72, (.iinc 3 1, 3)), (75, (.goto 26, 3)), (78, (.iload_n 2, 1)), (79, (.ifCond .eq 86, 3)), (82, (.iconst 1, 1)), (83, (.goto 87, 3)), (86, (.iconst 0, 1)), (87, (.ireturn, 1))]
def ce_X10_keeps : List (Nat × (Nat × Option Nat × WP)) := [(261, (1, none, wl_X10_isFrame)), (118, (2, some 10, wl_X10_no)), (269, (2, some 10, wl_X10_findFar)), (161, (1, some 10, wl_X10_states)), (204, (3, some 10, wl_X10_isInFrame))]
set_option maxRecDepth 100000 in
set_option maxHeartbeats 4000000 in
theorem ct_X10_keeps (l : Launch) : Con l wM yX10_keeps cX10_keeps 4 (some .int) 4 wl_X10_keeps := by
  refine sxm_ok l (ft := lkp ft_RX10) (c32 := lkp c32_RX10) (c64 := lkp c64_RX10) (ce := lkp ce_X10_keeps) (sf := lkp sf_RX10) (lab := lkp [(26, [0, 1, 2, 3])]) (T := tb_X10_keeps) (by decide +kernel) ft_RX10_ok c32_RX10_ok c64_RX10_ok (fun x q h => (show ∀ q ∈ ce_X10_keeps, ceOK l wM RX10 4 q.1 q.2.1 q.2.2.1 q.2.2.2 from List.forall_mem_cons.mpr ⟨⟨yX10_isFrame, cX10_isFrame, 1, (some .boolean), 0, ct_X10_isFrame l, by decide, by decide, mi_X10_isFrame.1, mi_X10_isFrame.2, Or.inl ml_RX10_261, ms_X10_isFrame, by decide +kernel⟩, List.forall_mem_cons.mpr ⟨⟨yX10_no, cX10_no, 2, (some .int), 0, ct_X10_no l, by decide, by decide, mi_X10_no.1, mi_X10_no.2, ml_RX10_118, mv_X10_no.1, mv_X10_no.2, ⟨_, _, rfl⟩, by decide, by decide +kernel⟩, List.forall_mem_cons.mpr ⟨⟨yX10_findFar, cX10_findFar, 6, none, 3, ct_X10_findFar l, by decide, by decide, mi_X10_findFar.1, mi_X10_findFar.2, ml_RX10_269, mv_X10_findFar.1, mv_X10_findFar.2, ⟨_, _, rfl⟩, by decide, by decide +kernel⟩, List.forall_mem_cons.mpr ⟨⟨yX10_states, cX10_states, 1, (some .int), 0, ct_X10_states l, by decide, by decide, mi_X10_states.1, mi_X10_states.2, ml_RX10_161, mv_X10_states.1, mv_X10_states.2, ⟨_, _, rfl⟩, by decide, by decide +kernel⟩, List.forall_mem_cons.mpr ⟨⟨yX10_isInFrame, cX10_isInFrame, 4, (some .boolean), 1, ct_X10_isInFrame l, by decide, by decide, mi_X10_isInFrame.1, mi_X10_isInFrame.2, ml_RX10_204, mv_X10_isInFrame.1, mv_X10_isInFrame.2, ⟨_, _, rfl⟩, by decide, by decide +kernel⟩, fun _ h => absurd h List.not_mem_nil⟩⟩⟩⟩⟩) (x, q) (lkp_mem h)) sf_RX10_ok (by decide +kernel) 400 (fun As σ Q h => ?_)
  replace h := p1r_e h
  obtain ⟨z0, q0, rfl, h⟩ := h
  replace h := onB_e h
  obtain ⟨e0, h⟩ := h
  have e0 := Nat.eq_of_beq_eq_true e0
  subst e0
  replace h := p1i_e h
  obtain ⟨x1, q1, rfl, h⟩ := h
  replace h := onB_e h
  obtain ⟨e9, h⟩ := h
  have e9 := List.isEmpty_iff.mp e9
  subst e9
  refine ⟨Nat.le_of_ble_eq_true rfl, fun P hP => ?_⟩
  exact h (fun x2 x3 τ => P 26 [.ref 0, .int x1, .int x2, .int x3] τ) (fun x2 x3 τ hb => hP 26 [.ref 0, .int x1, .int x2, .int x3] τ hb)
def wp_X10_live  (σ : Sg) (Q : Int32 → Sg → Prop) : Prop :=
  ∀ L6 : Int32 → Sg → Prop,
  (∀ (x1 : Int32) (τ : Sg), wp_X10_states τ (fun r1 => ((x1 < r1 → (vp_in (((256 : Int32) * x1) + x1) 65536 ∧ (((gI τ 22 ((((256 : Int32) * x1) + x1)).toNatClampNeg) = 0 → (((0 : Int32) = 0 → L6 (x1 + (1 : Int32)) τ) ∧ (¬ (0 : Int32) = 0 → wp_X10_fairAround x1 τ (fun r2 => ((r2 = (((1 : Int32) <<< ((gI τ 0 11) &&& 31)) - (1 : Int32)) → Q x1 τ) ∧ (¬ r2 = (((1 : Int32) <<< ((gI τ 0 11) &&& 31)) - (1 : Int32)) → L6 (x1 + (1 : Int32)) τ)))))) ∧ (¬ (gI τ 22 ((((256 : Int32) * x1) + x1)).toNatClampNeg) = 0 → ((x1 = (gI τ 0 8) → (((1 : Int32) = 0 → L6 (x1 + (1 : Int32)) τ) ∧ (¬ (1 : Int32) = 0 → wp_X10_fairAround x1 τ (fun r3 => ((r3 = (((1 : Int32) <<< ((gI τ 0 11) &&& 31)) - (1 : Int32)) → Q x1 τ) ∧ (¬ r3 = (((1 : Int32) <<< ((gI τ 0 11) &&& 31)) - (1 : Int32)) → L6 (x1 + (1 : Int32)) τ)))))) ∧ (¬ x1 = (gI τ 0 8) → (vp_in (((256 : Int32) * (gI τ 0 8)) + x1) 65536 ∧ (((gI τ 22 ((((256 : Int32) * (gI τ 0 8)) + x1)).toNatClampNeg) = 0 → (((0 : Int32) = 0 → L6 (x1 + (1 : Int32)) τ) ∧ (¬ (0 : Int32) = 0 → wp_X10_fairAround x1 τ (fun r4 => ((r4 = (((1 : Int32) <<< ((gI τ 0 11) &&& 31)) - (1 : Int32)) → Q x1 τ) ∧ (¬ r4 = (((1 : Int32) <<< ((gI τ 0 11) &&& 31)) - (1 : Int32)) → L6 (x1 + (1 : Int32)) τ)))))) ∧ (¬ (gI τ 22 ((((256 : Int32) * (gI τ 0 8)) + x1)).toNatClampNeg) = 0 → (((1 : Int32) = 0 → L6 (x1 + (1 : Int32)) τ) ∧ (¬ (1 : Int32) = 0 → wp_X10_fairAround x1 τ (fun r5 => ((r5 = (((1 : Int32) <<< ((gI τ 0 11) &&& 31)) - (1 : Int32)) → Q x1 τ) ∧ (¬ r5 = (((1 : Int32) <<< ((gI τ 0 11) &&& 31)) - (1 : Int32)) → L6 (x1 + (1 : Int32)) τ)))))))))))))) ∧ (¬ x1 < r1 → Q (-1 : Int32) τ))) → L6 x1 τ) →
  wp_X10_findComes σ (fun s6 => L6 (0 : Int32) s6)
def wl_X10_live : WP := fun As σ Q => p1r As (fun z0 r0 => onB (Nat.beq z0 0) (onB r0.isEmpty (wp_X10_live  σ (fun x τ => Q (some (.int x)) τ))))
def tb_X10_live : List (Nat × Instr × Nat) := [(0, (.aload_n 0, 1)), (1, (.invokevirtual 272, 3)), (4, (.iconst 0, 1)), (5, (.istore_n 1, 1)), (6, (.iload_n 1, 1)), (7, (.aload_n 0, 1)), (8, (.invokevirtual 161, 3)), (11, (.if_icmp .ge 89, 3)), (14, (.aload_n 0, 1)), (15, (.getfield 82, 3)), (18, (.sipush 256, 3)), (21, (.iload_n 1, 1)), (22, (.imul, 1)), (23, (.iload_n 1, 1)), (24, (.iadd, 1)), (25, (.baload, 1)), (26, (.ifCond .eq 59, 3)), (29, (.iload_n 1, 1)), (30, (.aload_n 0, 1)), (31, (.getfield 122, 3)), (34, (.if_icmp .eq 55, 3)), (37, (.aload_n 0, 1)), (38, (.getfield 82, 3)), (41, (.sipush 256, 3)), (44, (.aload_n 0, 1)), (45, (.getfield 122, 3)), (48, (.imul, 1)), (49, (.iload_n 1, 1)), (50, (.iadd, 1)), (51, (.baload, 1)), (52, (.ifCond .eq 59, 3)), (55, (.iconst 1, 1)), (56, (.goto 60, 3)), (59, (.iconst 0, 1)), (60, (.istore_n 2, 1)), (61, (.iload_n 2, 1)), (62, (.ifCond .eq 83, 3)), (65, (.aload_n 0, 1)), (66, (.iload_n 1, 1)), (67, (.invokevirtual 275, 3)), (70, (.iconst 1, 1)), (71, (.aload_n 0, 1)), (72, (.getfield 140, 3)), (75, (.ishl, 1)), (76, (.iconst 1, 1)), (77, (.isub, 1)), (78, (.if_icmp .ne 83, 3)), (81, (.iload_n 1, 1)), (82, (.ireturn, 1)), (83, (.iinc 1 1, 3)), (86, (.goto 6, 3)), (89, (.iconst (-1), 1)), (90, (.ireturn, 1))]
def ce_X10_live : List (Nat × (Nat × Option Nat × WP)) := [(272, (1, some 10, wl_X10_findComes)), (161, (1, some 10, wl_X10_states)), (275, (2, some 10, wl_X10_fairAround))]
set_option maxRecDepth 100000 in
set_option maxHeartbeats 4000000 in
theorem ct_X10_live (l : Launch) : Con l wM yX10_live cX10_live 3 (some .int) 4 wl_X10_live := by
  refine sxm_ok l (ft := lkp ft_RX10) (c32 := lkp c32_RX10) (c64 := lkp c64_RX10) (ce := lkp ce_X10_live) (sf := lkp sf_RX10) (lab := lkp [(6, [0, 1])]) (T := tb_X10_live) (by decide +kernel) ft_RX10_ok c32_RX10_ok c64_RX10_ok (fun x q h => (show ∀ q ∈ ce_X10_live, ceOK l wM RX10 4 q.1 q.2.1 q.2.2.1 q.2.2.2 from List.forall_mem_cons.mpr ⟨⟨yX10_findComes, cX10_findComes, 4, none, 3, ct_X10_findComes l, by decide, by decide, mi_X10_findComes.1, mi_X10_findComes.2, ml_RX10_272, mv_X10_findComes.1, mv_X10_findComes.2, ⟨_, _, rfl⟩, by decide, by decide +kernel⟩, List.forall_mem_cons.mpr ⟨⟨yX10_states, cX10_states, 1, (some .int), 0, ct_X10_states l, by decide, by decide, mi_X10_states.1, mi_X10_states.2, ml_RX10_161, mv_X10_states.1, mv_X10_states.2, ⟨_, _, rfl⟩, by decide, by decide +kernel⟩, List.forall_mem_cons.mpr ⟨⟨yX10_fairAround, cX10_fairAround, 6, (some .int), 1, ct_X10_fairAround l, by decide, by decide, mi_X10_fairAround.1, mi_X10_fairAround.2, ml_RX10_275, mv_X10_fairAround.1, mv_X10_fairAround.2, ⟨_, _, rfl⟩, by decide, by decide +kernel⟩, fun _ h => absurd h List.not_mem_nil⟩⟩⟩) (x, q) (lkp_mem h)) sf_RX10_ok (by decide +kernel) 400 (fun As σ Q h => ?_)
  replace h := p1r_e h
  obtain ⟨z0, q0, rfl, h⟩ := h
  replace h := onB_e h
  obtain ⟨e0, h⟩ := h
  have e0 := Nat.eq_of_beq_eq_true e0
  subst e0
  replace h := onB_e h
  obtain ⟨e9, h⟩ := h
  have e9 := List.isEmpty_iff.mp e9
  subst e9
  refine ⟨Nat.le_of_ble_eq_true rfl, fun P hP => ?_⟩
  exact h (fun x1 τ => P 6 [.ref 0, .int x1] τ) (fun x1 τ hb => hP 6 [.ref 0, .int x1] τ hb)
def wp_X10_judge  (σ : Sg) (Q : Int32 → Sg → Prop) : Prop :=
  wp_X10_judged (-1 : Int32) σ (fun r1 s2 => ((r1 = 0 → ((r1 = (2 : Int32) → Q r1 (sI (sI s2 0 40 (-1 : Int32)) 0 41 (gI (sI s2 0 40 (-1 : Int32)) 0 43))) ∧ (¬ r1 = (2 : Int32) → Q r1 (sI (sI s2 0 40 (-1 : Int32)) 0 41 (-1 : Int32))))) ∧ (¬ r1 = 0 → ((r1 = (2 : Int32) → Q r1 (sI (sI s2 0 40 (gI s2 0 42)) 0 41 (gI (sI s2 0 40 (gI s2 0 42)) 0 43))) ∧ (¬ r1 = (2 : Int32) → Q r1 (sI (sI s2 0 40 (gI s2 0 42)) 0 41 (-1 : Int32)))))))
def wl_X10_judge : WP := fun As σ Q => p1r As (fun z0 r0 => onB (Nat.beq z0 0) (onB r0.isEmpty (wp_X10_judge  σ (fun x τ => Q (some (.int x)) τ))))
def tb_X10_judge : List (Nat × Instr × Nat) := [(0, (.aload_n 0, 1)), (1, (.iconst (-1), 1)), (2, (.invokevirtual 287, 3)), (5, (.istore_n 1, 1)), (6, (.aload_n 0, 1)), (7, (.iload_n 1, 1)), (8, (.ifCond .ne 15, 3)), (11, (.iconst (-1), 1)), (12, (.goto 19, 3)), (15, (.aload_n 0, 1)), (16, (.getfield 278, 3)), (19, (.putfield 91, 3)), (22, (.aload_n 0, 1)), (23, (.iload_n 1, 1)), (24, (.iconst 2, 1)), (25, (.if_icmp .ne 35, 3)), (28, (.aload_n 0, 1)), (29, (.getfield 281, 3)), (32, (.goto 36, 3)), (35, (.iconst (-1), 1)), (36, (.putfield 94, 3)), (39, (.iload_n 1, 1)), (40, (.ireturn, 1))]
def ce_X10_judge : List (Nat × (Nat × Option Nat × WP)) := [(287, (2, some 10, wl_X10_judged))]
set_option maxRecDepth 100000 in
set_option maxHeartbeats 4000000 in
theorem ct_X10_judge (l : Launch) : Con l wM yX10_judge cX10_judge 2 (some .int) 4 wl_X10_judge := by
  refine sxm_ok l (ft := lkp ft_RX10) (c32 := lkp c32_RX10) (c64 := lkp c64_RX10) (ce := lkp ce_X10_judge) (sf := lkp sf_RX10) (lab := lkp []) (T := tb_X10_judge) (by decide +kernel) ft_RX10_ok c32_RX10_ok c64_RX10_ok (fun x q h => (show ∀ q ∈ ce_X10_judge, ceOK l wM RX10 4 q.1 q.2.1 q.2.2.1 q.2.2.2 from List.forall_mem_cons.mpr ⟨⟨yX10_judged, cX10_judged, 4, (some .int), 3, ct_X10_judged l, by decide, by decide, mi_X10_judged.1, mi_X10_judged.2, ml_RX10_287, mv_X10_judged.1, mv_X10_judged.2, ⟨_, _, rfl⟩, by decide, by decide +kernel⟩, fun _ h => absurd h List.not_mem_nil⟩) (x, q) (lkp_mem h)) sf_RX10_ok (by decide +kernel) 400 (fun As σ Q h => ?_)
  replace h := p1r_e h
  obtain ⟨z0, q0, rfl, h⟩ := h
  replace h := onB_e h
  obtain ⟨e0, h⟩ := h
  have e0 := Nat.eq_of_beq_eq_true e0
  subst e0
  replace h := onB_e h
  obtain ⟨e9, h⟩ := h
  have e9 := List.isEmpty_iff.mp e9
  subst e9
  refine ⟨Nat.le_of_ble_eq_true rfl, fun P hP => ?_⟩
  exact h 
def wp_X10_small  (σ : Sg) (Q : Int32 → Sg → Prop) : Prop :=
  ∀ L17 : Int32 → Sg → Prop,
  ∀ L51 : Int32 → Int32 → Sg → Prop,
  (∀ (x1 : Int32) (τ : Sg), ((x1 < (gI τ 0 39) → wp_X10_judged x1 τ (fun r1 s2 => ((r1 = 0 → L51 x1 x1 (sI s2 0 39 ((gI s2 0 39) - (1 : Int32)))) ∧ (¬ r1 = 0 → L17 (x1 + (1 : Int32)) s2)))) ∧ (¬ x1 < (gI τ 0 39) → Q (gI τ 0 39) τ)) → L17 x1 τ) →
  (∀ (x1 : Int32) (x2 : Int32) (τ : Sg), ((x2 < (gI τ 0 39) → (vp_in (x2 + (1 : Int32)) 100 ∧ (vp_in x2 100 ∧ (vp_in (x2 + (1 : Int32)) 100 ∧ (vp_in x2 100 ∧ L51 x1 (x2 + (1 : Int32)) (sI (sI τ 23 (x2).toNatClampNeg (gI τ 23 ((x2 + (1 : Int32))).toNatClampNeg)) 24 (x2).toNatClampNeg (gI (sI τ 23 (x2).toNatClampNeg (gI τ 23 ((x2 + (1 : Int32))).toNatClampNeg)) 24 ((x2 + (1 : Int32))).toNatClampNeg))))))) ∧ (¬ x2 < (gI τ 0 39) → L17 x1 τ)) → L51 x1 x2 τ) →
  wp_X10_judged (-1 : Int32) σ (fun r3 s4 => ((r3 = 0 → L17 (0 : Int32) s4) ∧ (¬ r3 = 0 → wp_X10_no (-7 : Int32) s4 (fun r5 s6 => Q r5 s6))))
def wl_X10_small : WP := fun As σ Q => p1r As (fun z0 r0 => onB (Nat.beq z0 0) (onB r0.isEmpty (wp_X10_small  σ (fun x τ => Q (some (.int x)) τ))))
def tb_X10_small : List (Nat × Instr × Nat) := [(0, (.aload_n 0, 1)), (1, (.iconst (-1), 1)), (2, (.invokevirtual 287, 3)), (5, (.ifCond .eq 15, 3)), (8, (.aload_n 0, 1)), (9, (.bipush (-7), 2)), (11, (.invokevirtual 118, 3)), (14, (.ireturn, 1)), (15, (.iconst 0, 1)), (16, (.istore_n 1, 1)), (17, (.iload_n 1, 1)), (18, (.aload_n 0, 1)), (19, (.getfield 151, 3)), (22, (.if_icmp .ge 96, 3)), (25, (.aload_n 0, 1)), (26, (.iload_n 1, 1)), (27, (.invokevirtual 287, 3)), (30, (.ifCond .eq 39, 3)), (33, (.iinc 1 1, 3)), (36, (.goto 17, 3)), (39, (.aload_n 0, 1)), (40, (.dup, 1)), (41, (.getfield 151, 3)), (44, (.iconst 1, 1)), (45, (.isub, 1)), (46, (.putfield 151, 3)), (49, (.iload_n 1, 1)), (50, (.istore_n 2, 1)), (51, (.iload_n 2, 1)), (52, (.aload_n 0, 1)), (53, (.getfield 151, 3)), (56, (.if_icmp .ge 93, 3)), (59, (.aload_n 0, 1)), (60, (.getfield 85, 3)), (63, (.iload_n 2, 1)), (64, (.aload_n 0, 1)), (65, (.getfield 85, 3)), (68, (.iload_n 2, 1)), (69, (.iconst 1, 1)), (70, (.iadd, 1)), (71, (.iaload, 1)), (72, (.iastore, 1)), (73, (.aload_n 0, 1)), (74, (.getfield 88, 3)), (77, (.iload_n 2, 1)), (78, (.aload_n 0, 1)), (79, (.getfield 88, 3)), (82, (.iload_n 2, 1)), (83, (.iconst 1, 1)), (84, (.iadd, 1)), (85, (.iaload, 1)), (86, (.iastore, 1)), (87, (.iinc 2 1, 3)), (90, (.goto 51, 3)), (93, (.goto 17, 3)), (96, (.aload_n 0, 1)), (97, (.getfield 151, 3)), (100, (.ireturn, 1))]
def ce_X10_small : List (Nat × (Nat × Option Nat × WP)) := [(287, (2, some 10, wl_X10_judged)), (118, (2, some 10, wl_X10_no))]
set_option maxRecDepth 100000 in
set_option maxHeartbeats 4000000 in
theorem ct_X10_small (l : Launch) : Con l wM yX10_small cX10_small 3 (some .int) 4 wl_X10_small := by
  refine sxm_ok l (ft := lkp ft_RX10) (c32 := lkp c32_RX10) (c64 := lkp c64_RX10) (ce := lkp ce_X10_small) (sf := lkp sf_RX10) (lab := lkp [(17, [0, 1]), (51, [0, 1, 2])]) (T := tb_X10_small) (by decide +kernel) ft_RX10_ok c32_RX10_ok c64_RX10_ok (fun x q h => (show ∀ q ∈ ce_X10_small, ceOK l wM RX10 4 q.1 q.2.1 q.2.2.1 q.2.2.2 from List.forall_mem_cons.mpr ⟨⟨yX10_judged, cX10_judged, 4, (some .int), 3, ct_X10_judged l, by decide, by decide, mi_X10_judged.1, mi_X10_judged.2, ml_RX10_287, mv_X10_judged.1, mv_X10_judged.2, ⟨_, _, rfl⟩, by decide, by decide +kernel⟩, List.forall_mem_cons.mpr ⟨⟨yX10_no, cX10_no, 2, (some .int), 0, ct_X10_no l, by decide, by decide, mi_X10_no.1, mi_X10_no.2, ml_RX10_118, mv_X10_no.1, mv_X10_no.2, ⟨_, _, rfl⟩, by decide, by decide +kernel⟩, fun _ h => absurd h List.not_mem_nil⟩⟩) (x, q) (lkp_mem h)) sf_RX10_ok (by decide +kernel) 400 (fun As σ Q h => ?_)
  replace h := p1r_e h
  obtain ⟨z0, q0, rfl, h⟩ := h
  replace h := onB_e h
  obtain ⟨e0, h⟩ := h
  have e0 := Nat.eq_of_beq_eq_true e0
  subst e0
  replace h := onB_e h
  obtain ⟨e9, h⟩ := h
  have e9 := List.isEmpty_iff.mp e9
  subst e9
  refine ⟨Nat.le_of_ble_eq_true rfl, fun P hP => ?_⟩
  exact h (fun x1 τ => P 17 [.ref 0, .int x1] τ) (fun x1 x2 τ => P 51 [.ref 0, .int x1, .int x2] τ) (fun x1 τ hb => hP 17 [.ref 0, .int x1] τ hb) (fun x1 x2 τ hb => hP 51 [.ref 0, .int x1, .int x2] τ hb)
def wp_X10_prove (x1 : Int32) (σ : Sg) (Q : Int32 → Sg → Prop) : Prop :=
  ∀ L77 : Int32 → Sg → Prop,
  (∀ (x2 : Int32) (τ : Sg), (((gI τ 0 24) = 0 → (((gI τ 0 26) = 0 → wp_X10_hasTrouble τ (fun r1 s2 => ((r1 = 0 → wp_X10_pushAll s2 (fun s3 => L77 x2 s3)) ∧ (¬ r1 = 0 → L77 x2 s2)))) ∧ (¬ (gI τ 0 26) = 0 → ((x2 = 0 → Q (0 : Int32) τ) ∧ (¬ x2 = 0 → wp_X10_lookAt τ (fun s4 => L77 (x2 + (-1 : Int32)) s4)))))) ∧ (¬ (gI τ 0 24) = 0 → Q (gI τ 0 24) τ)) → L77 x2 τ) →
  ((x1 < 0 → wp_X10_no (-4 : Int32) σ (fun r5 s6 => Q r5 s6)) ∧ (¬ x1 < 0 → wp_X10_isIn (x1).toInt64 (1 : Int64) (5000 : Int64) σ (fun r7 => ((r7 = 0 → wp_X10_no (-7 : Int32) σ (fun r8 s9 => Q r8 s9)) ∧ (¬ r7 = 0 → wp_X10_table σ (fun s10 => (((gI s10 0 23) = 0 → wp_X10_isBadState (gI (sI s10 0 23 (1 : Int32)) 0 8) (sI s10 0 23 (1 : Int32)) (fun r11 => ((r11 = 0 → L77 x1 (sI s10 0 23 (1 : Int32))) ∧ (¬ r11 = 0 → wp_X10_meet (gI (sI s10 0 23 (1 : Int32)) 0 8) (0 : Int32) (sI s10 0 23 (1 : Int32)) (fun s12 => wp_X10_tellWay s12 (fun s13 => L77 x1 (sI s13 0 26 (0 : Int32)))))))) ∧ (¬ (gI s10 0 23) = 0 → L77 x1 s10))))))))
def wl_X10_prove : WP := fun As σ Q => p1r As (fun z0 r0 => onB (Nat.beq z0 0) (p1i r0 (fun x1 r1 => onB r1.isEmpty (wp_X10_prove x1 σ (fun x τ => Q (some (.int x)) τ)))))
def tb_X10_prove : List (Nat × Instr × Nat) := [(0, (.iload_n 1, 1)), (1, (.ifCond .ge 11, 3)), (4, (.aload_n 0, 1)), (5, (.bipush (-4), 2)), (7, (.invokevirtual 118, 3)), (10, (.ireturn, 1)), (11, (.iload_n 1, 1)), (12, (.i2l, 1)), (13, (.lconst 1, 1)), (14, (.ldc2_w 250, 3)), (17, (.invokestatic 133, 3)), (20, (.ifCond .ne 30, 3)), (23, (.aload_n 0, 1)), (24, (.bipush (-7), 2)), (26, (.invokevirtual 118, 3)), (29, (.ireturn, 1)), (30, (.aload_n 0, 1)), (31, (.invokevirtual 182, 3)), (34, (.aload_n 0, 1)), (35, (.getfield 188, 3)), (38, (.ifCond .ne 75, 3)), (41, (.aload_n 0, 1)), (42, (.iconst 1, 1)), (43, (.putfield 188, 3)), (46, (.aload_n 0, 1)), (47, (.aload_n 0, 1)), (48, (.getfield 122, 3)), (51, (.invokevirtual 247, 3)), (54, (.ifCond .eq 75, 3)), (57, (.aload_n 0, 1)), (58, (.aload_n 0, 1)), (59, (.getfield 122, 3)), (62, (.iconst 0, 1)), (63, (.invokevirtual 224, 3)), (66, (.aload_n 0, 1)), (67, (.invokevirtual 217, 3)), (70, (.aload_n 0, 1)), (71, (.iconst 0, 1)), (72, (.putfield 194, 3)), (75, (.iload_n 1, 1)), (76, (.istore_n 2, 1)), (77, (.aload_n 0, 1)), (78, (.getfield 191, 3)), (81, (.ifCond .ne 121, 3)), (84, (.aload_n 0, 1)), (85, (.getfield 194, 3)), (88, (.ifCond .ne 105, 3)), (91, (.aload_n 0, 1)), (92, (.invokevirtual 252, 3)), (95, (.ifCond .ne 77, 3)), (98, (.aload_n 0, 1)), (99, (.invokevirtual 255, 3)), (102, (.goto 77, 3)), (105, (.iload_n 2, 1)), (106, (.ifCond .ne 111, 3)), (109, (.iconst 0, 1)), (110, (.ireturn, 1)), (111, (.iinc 2 (-1), 3)), (114, (.aload_n 0, 1)), (115, (.invokevirtual 258, 3)), (118, (.goto 77, 3)), (121, (.aload_n 0, 1)), (122, (.getfield 191, 3)), (125, (.ireturn, 1))]
def ce_X10_prove : List (Nat × (Nat × Option Nat × WP)) := [(118, (2, some 10, wl_X10_no)), (133, (3, none, wl_X10_isIn)), (182, (1, some 10, wl_X10_table)), (247, (2, some 10, wl_X10_isBadState)), (224, (3, some 10, wl_X10_meet)), (217, (1, some 10, wl_X10_tellWay)), (252, (1, some 10, wl_X10_hasTrouble)), (255, (1, some 10, wl_X10_pushAll)), (258, (1, some 10, wl_X10_lookAt))]
set_option maxRecDepth 100000 in
set_option maxHeartbeats 4000000 in
theorem ct_X10_prove (l : Launch) : Con l wM yX10_prove cX10_prove 3 (some .int) 5 wl_X10_prove := by
  refine sxm_ok l (ft := lkp ft_RX10) (c32 := lkp c32_RX10) (c64 := lkp c64_RX10) (ce := lkp ce_X10_prove) (sf := lkp sf_RX10) (lab := lkp [(77, [0, 2])]) (T := tb_X10_prove) (by decide +kernel) ft_RX10_ok c32_RX10_ok c64_RX10_ok (fun x q h => (show ∀ q ∈ ce_X10_prove, ceOK l wM RX10 5 q.1 q.2.1 q.2.2.1 q.2.2.2 from List.forall_mem_cons.mpr ⟨⟨yX10_no, cX10_no, 2, (some .int), 0, ct_X10_no l, by decide, by decide, mi_X10_no.1, mi_X10_no.2, ml_RX10_118, mv_X10_no.1, mv_X10_no.2, ⟨_, _, rfl⟩, by decide, by decide +kernel⟩, List.forall_mem_cons.mpr ⟨⟨yX10_isIn, cX10_isIn, 6, (some .boolean), 0, ct_X10_isIn l, by decide, by decide, mi_X10_isIn.1, mi_X10_isIn.2, Or.inl ml_RX10_133, ms_X10_isIn, by decide +kernel⟩, List.forall_mem_cons.mpr ⟨⟨yX10_table, cX10_table, 5, none, 2, ct_X10_table l, by decide, by decide, mi_X10_table.1, mi_X10_table.2, ml_RX10_182, mv_X10_table.1, mv_X10_table.2, ⟨_, _, rfl⟩, by decide, by decide +kernel⟩, List.forall_mem_cons.mpr ⟨⟨yX10_isBadState, cX10_isBadState, 4, (some .boolean), 1, ct_X10_isBadState l, by decide, by decide, mi_X10_isBadState.1, mi_X10_isBadState.2, ml_RX10_247, mv_X10_isBadState.1, mv_X10_isBadState.2, ⟨_, _, rfl⟩, by decide, by decide +kernel⟩, List.forall_mem_cons.mpr ⟨⟨yX10_meet, cX10_meet, 3, none, 0, ct_X10_meet l, by decide, by decide, mi_X10_meet.1, mi_X10_meet.2, ml_RX10_224, mv_X10_meet.1, mv_X10_meet.2, ⟨_, _, rfl⟩, by decide, by decide +kernel⟩, List.forall_mem_cons.mpr ⟨⟨yX10_tellWay, cX10_tellWay, 2, none, 0, ct_X10_tellWay l, by decide, by decide, mi_X10_tellWay.1, mi_X10_tellWay.2, ml_RX10_217, mv_X10_tellWay.1, mv_X10_tellWay.2, ⟨_, _, rfl⟩, by decide, by decide +kernel⟩, List.forall_mem_cons.mpr ⟨⟨yX10_hasTrouble, cX10_hasTrouble, 2, (some .boolean), 2, ct_X10_hasTrouble l, by decide, by decide, mi_X10_hasTrouble.1, mi_X10_hasTrouble.2, ml_RX10_252, mv_X10_hasTrouble.1, mv_X10_hasTrouble.2, ⟨_, _, rfl⟩, by decide, by decide +kernel⟩, List.forall_mem_cons.mpr ⟨⟨yX10_pushAll, cX10_pushAll, 3, none, 4, ct_X10_pushAll l, by decide, by decide, mi_X10_pushAll.1, mi_X10_pushAll.2, ml_RX10_255, mv_X10_pushAll.1, mv_X10_pushAll.2, ⟨_, _, rfl⟩, by decide, by decide +kernel⟩, List.forall_mem_cons.mpr ⟨⟨yX10_lookAt, cX10_lookAt, 7, none, 4, ct_X10_lookAt l, by decide, by decide, mi_X10_lookAt.1, mi_X10_lookAt.2, ml_RX10_258, mv_X10_lookAt.1, mv_X10_lookAt.2, ⟨_, _, rfl⟩, by decide, by decide +kernel⟩, fun _ h => absurd h List.not_mem_nil⟩⟩⟩⟩⟩⟩⟩⟩⟩) (x, q) (lkp_mem h)) sf_RX10_ok (by decide +kernel) 400 (fun As σ Q h => ?_)
  replace h := p1r_e h
  obtain ⟨z0, q0, rfl, h⟩ := h
  replace h := onB_e h
  obtain ⟨e0, h⟩ := h
  have e0 := Nat.eq_of_beq_eq_true e0
  subst e0
  replace h := p1i_e h
  obtain ⟨x1, q1, rfl, h⟩ := h
  replace h := onB_e h
  obtain ⟨e9, h⟩ := h
  have e9 := List.isEmpty_iff.mp e9
  subst e9
  refine ⟨Nat.le_of_ble_eq_true rfl, fun P hP => ?_⟩
  exact h (fun x2 τ => P 77 [.ref 0, .int x2] τ) (fun x2 τ hb => hP 77 [.ref 0, .int x2] τ hb)
end
