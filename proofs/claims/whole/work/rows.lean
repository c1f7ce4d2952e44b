section
-- ===== PART A: goes FIRST, ahead of the names: the tables' words, and 'selects' of the private methods out of them =====
/-- a private method of a class that the tables say can be made, by its rows of tables_1 -/
def lw_okq (q : MethodName × Nat) : Prop := (q.1.cls ≠ "java/lang/invoke/MethodHandle" ∧ q.1.cls ≠ "java/lang/invoke/VarHandle") ∧ Cond.instantiable q.1.cls q.2 ∈ tables_1 ∧ Cond.privateMethod q.1 ∈ tables_1 ∧ Cond.instanceMethod q.1 ∈ tables_1
theorem lw_p0 : lw_okq (⟨"FrameProver", "startAnew", "()V"⟩, 9) := ⟨⟨by decide +kernel, by decide +kernel⟩, List.mem_of_getElem? (i := 16) (by decide +kernel), List.mem_of_getElem? (i := 304) (by decide +kernel), List.mem_of_getElem? (i := 305) (by decide +kernel)⟩
theorem lw_p1 : lw_okq (⟨"FrameProver", "refuse", "(I)I"⟩, 9) := ⟨⟨by decide +kernel, by decide +kernel⟩, List.mem_of_getElem? (i := 16) (by decide +kernel), List.mem_of_getElem? (i := 380) (by decide +kernel), List.mem_of_getElem? (i := 381) (by decide +kernel)⟩
theorem lw_p2 : lw_okq (⟨"FrameProver", "addSign", "(ILFrameProver$Signs;)I"⟩, 9) := ⟨⟨by decide +kernel, by decide +kernel⟩, List.mem_of_getElem? (i := 16) (by decide +kernel), List.mem_of_getElem? (i := 434) (by decide +kernel), List.mem_of_getElem? (i := 435) (by decide +kernel)⟩
theorem lw_p3 : lw_okq (⟨"FrameProver$Machine", "lanesIn", "(II)I"⟩, 14) := ⟨⟨by decide +kernel, by decide +kernel⟩, List.mem_of_getElem? (i := 24) (by decide +kernel), List.mem_of_getElem? (i := 482) (by decide +kernel), List.mem_of_getElem? (i := 483) (by decide +kernel)⟩
theorem lw_p4 : lw_okq (⟨"FrameProver$Steps", "renewFrom", "(LFrameProver$StateSet;)V"⟩, 11) := ⟨⟨by decide +kernel, by decide +kernel⟩, List.mem_of_getElem? (i := 108) (by decide +kernel), List.mem_of_getElem? (i := 549) (by decide +kernel), List.mem_of_getElem? (i := 550) (by decide +kernel)⟩
theorem lw_p5 : lw_okq (⟨"FrameProver$Proof", "begin", "()V"⟩, 10) := ⟨⟨by decide +kernel, by decide +kernel⟩, List.mem_of_getElem? (i := 220) (by decide +kernel), List.mem_of_getElem? (i := 560) (by decide +kernel), List.mem_of_getElem? (i := 561) (by decide +kernel)⟩
theorem lw_p6 : lw_okq (⟨"FrameProver$Proof", "addTrouble", "(II)V"⟩, 10) := ⟨⟨by decide +kernel, by decide +kernel⟩, List.mem_of_getElem? (i := 220) (by decide +kernel), List.mem_of_getElem? (i := 575) (by decide +kernel), List.mem_of_getElem? (i := 576) (by decide +kernel)⟩
theorem lw_p7 : lw_okq (⟨"FrameProver$Proof", "push", "()V"⟩, 10) := ⟨⟨by decide +kernel, by decide +kernel⟩, List.mem_of_getElem? (i := 220) (by decide +kernel), List.mem_of_getElem? (i := 579) (by decide +kernel), List.mem_of_getElem? (i := 580) (by decide +kernel)⟩
theorem lw_p8 : lw_okq (⟨"FrameProver$Proof", "look", "()V"⟩, 10) := ⟨⟨by decide +kernel, by decide +kernel⟩, List.mem_of_getElem? (i := 220) (by decide +kernel), List.mem_of_getElem? (i := 638) (by decide +kernel), List.mem_of_getElem? (i := 639) (by decide +kernel)⟩
theorem lw_p9 : lw_okq (⟨"FrameProver", "isCube", "(II)Z"⟩, 9) := ⟨⟨by decide +kernel, by decide +kernel⟩, List.mem_of_getElem? (i := 16) (by decide +kernel), List.mem_of_getElem? (i := 776) (by decide +kernel), List.mem_of_getElem? (i := 777) (by decide +kernel)⟩
theorem lw_p10 : lw_okq (⟨"FrameProver$Steps", "beginReach", "()V"⟩, 11) := ⟨⟨by decide +kernel, by decide +kernel⟩, List.mem_of_getElem? (i := 108) (by decide +kernel), List.mem_of_getElem? (i := 799) (by decide +kernel), List.mem_of_getElem? (i := 800) (by decide +kernel)⟩
theorem lw_p11 : lw_okq (⟨"FrameProver$Steps", "reachOn", "()Z"⟩, 11) := ⟨⟨by decide +kernel, by decide +kernel⟩, List.mem_of_getElem? (i := 108) (by decide +kernel), List.mem_of_getElem? (i := 805) (by decide +kernel), List.mem_of_getElem? (i := 806) (by decide +kernel)⟩
theorem lw_p12 : lw_okq (⟨"FrameProver$Machine", "markSign", "(I)V"⟩, 14) := ⟨⟨by decide +kernel, by decide +kernel⟩, List.mem_of_getElem? (i := 24) (by decide +kernel), List.mem_of_getElem? (i := 853) (by decide +kernel), List.mem_of_getElem? (i := 854) (by decide +kernel)⟩
theorem lw_p13 : lw_okq (⟨"FrameProver$Machine", "markPass", "()V"⟩, 14) := ⟨⟨by decide +kernel, by decide +kernel⟩, List.mem_of_getElem? (i := 24) (by decide +kernel), List.mem_of_getElem? (i := 858) (by decide +kernel), List.mem_of_getElem? (i := 859) (by decide +kernel)⟩
theorem lw_p14 : lw_okq (⟨"FrameProver$Machine", "isMarked", "(I)Z"⟩, 14) := ⟨⟨by decide +kernel, by decide +kernel⟩, List.mem_of_getElem? (i := 24) (by decide +kernel), List.mem_of_getElem? (i := 862) (by decide +kernel), List.mem_of_getElem? (i := 863) (by decide +kernel)⟩
theorem lw_p15 : lw_okq (⟨"FrameProver$Steps", "closeLeads", "()V"⟩, 11) := ⟨⟨by decide +kernel, by decide +kernel⟩, List.mem_of_getElem? (i := 108) (by decide +kernel), List.mem_of_getElem? (i := 875) (by decide +kernel), List.mem_of_getElem? (i := 876) (by decide +kernel)⟩
def lw_privs_1 : List (MethodName × Nat) := [(⟨"FrameProver", "startAnew", "()V"⟩, 9), (⟨"FrameProver", "refuse", "(I)I"⟩, 9), (⟨"FrameProver", "addSign", "(ILFrameProver$Signs;)I"⟩, 9), (⟨"FrameProver$Machine", "lanesIn", "(II)I"⟩, 14), (⟨"FrameProver$Steps", "renewFrom", "(LFrameProver$StateSet;)V"⟩, 11), (⟨"FrameProver$Proof", "begin", "()V"⟩, 10), (⟨"FrameProver$Proof", "addTrouble", "(II)V"⟩, 10), (⟨"FrameProver$Proof", "push", "()V"⟩, 10), (⟨"FrameProver$Proof", "look", "()V"⟩, 10), (⟨"FrameProver", "isCube", "(II)Z"⟩, 9), (⟨"FrameProver$Steps", "beginReach", "()V"⟩, 11), (⟨"FrameProver$Steps", "reachOn", "()Z"⟩, 11), (⟨"FrameProver$Machine", "markSign", "(I)V"⟩, 14), (⟨"FrameProver$Machine", "markPass", "()V"⟩, 14), (⟨"FrameProver$Machine", "isMarked", "(I)Z"⟩, 14), (⟨"FrameProver$Steps", "closeLeads", "()V"⟩, 11)]
theorem lw_r1 : ∀ q ∈ lw_privs_1, lw_okq q := List.forall_mem_cons.mpr ⟨lw_p0, List.forall_mem_cons.mpr ⟨lw_p1, List.forall_mem_cons.mpr ⟨lw_p2, List.forall_mem_cons.mpr ⟨lw_p3, List.forall_mem_cons.mpr ⟨lw_p4, List.forall_mem_cons.mpr ⟨lw_p5, List.forall_mem_cons.mpr ⟨lw_p6, List.forall_mem_cons.mpr ⟨lw_p7, List.forall_mem_cons.mpr ⟨lw_p8, List.forall_mem_cons.mpr ⟨lw_p9, List.forall_mem_cons.mpr ⟨lw_p10, List.forall_mem_cons.mpr ⟨lw_p11, List.forall_mem_cons.mpr ⟨lw_p12, List.forall_mem_cons.mpr ⟨lw_p13, List.forall_mem_cons.mpr ⟨lw_p14, List.forall_mem_cons.mpr ⟨lw_p15, fun _ h => absurd h List.not_mem_nil⟩⟩⟩⟩⟩⟩⟩⟩⟩⟩⟩⟩⟩⟩⟩⟩
theorem lw_p16 : lw_okq (⟨"FrameProver$Steps", "leadsFrom", "(I)LFrameProver$StateSet;"⟩, 11) := ⟨⟨by decide +kernel, by decide +kernel⟩, List.mem_of_getElem? (i := 108) (by decide +kernel), List.mem_of_getElem? (i := 879) (by decide +kernel), List.mem_of_getElem? (i := 880) (by decide +kernel)⟩
theorem lw_p17 : lw_okq (⟨"FrameProver$Steps", "findCircle", "(I)V"⟩, 11) := ⟨⟨by decide +kernel, by decide +kernel⟩, List.mem_of_getElem? (i := 108) (by decide +kernel), List.mem_of_getElem? (i := 884) (by decide +kernel), List.mem_of_getElem? (i := 885) (by decide +kernel)⟩
theorem lw_p18 : lw_okq (⟨"FrameProver$Steps", "isCircleFair", "()Z"⟩, 11) := ⟨⟨by decide +kernel, by decide +kernel⟩, List.mem_of_getElem? (i := 108) (by decide +kernel), List.mem_of_getElem? (i := 888) (by decide +kernel), List.mem_of_getElem? (i := 889) (by decide +kernel)⟩
theorem lw_p19 : lw_okq (⟨"FrameProver$Steps", "isInCircle", "(I)Z"⟩, 11) := ⟨⟨by decide +kernel, by decide +kernel⟩, List.mem_of_getElem? (i := 108) (by decide +kernel), List.mem_of_getElem? (i := 893) (by decide +kernel), List.mem_of_getElem? (i := 894) (by decide +kernel)⟩
theorem lw_p20 : lw_okq (⟨"FrameProver$Clauses", "findLeft", "()V"⟩, 4) := ⟨⟨by decide +kernel, by decide +kernel⟩, List.mem_of_getElem? (i := 170) (by decide +kernel), List.mem_of_getElem? (i := 911) (by decide +kernel), List.mem_of_getElem? (i := 912) (by decide +kernel)⟩
theorem lw_p21 : lw_okq (⟨"FrameProver$Judge", "leastThatLeadsOut", "()I"⟩, 5) := ⟨⟨by decide +kernel, by decide +kernel⟩, List.mem_of_getElem? (i := 262) (by decide +kernel), List.mem_of_getElem? (i := 933) (by decide +kernel), List.mem_of_getElem? (i := 934) (by decide +kernel)⟩
theorem lw_p22 : lw_okq (⟨"FrameProverModel", "no", "(I)I"⟩, 47) := ⟨⟨by decide +kernel, by decide +kernel⟩, List.mem_of_getElem? (i := 1019) (by decide +kernel), List.mem_of_getElem? (i := 1172) (by decide +kernel), List.mem_of_getElem? (i := 1173) (by decide +kernel)⟩
theorem lw_p23 : lw_okq (⟨"FrameProverModel", "adds", "(III)I"⟩, 47) := ⟨⟨by decide +kernel, by decide +kernel⟩, List.mem_of_getElem? (i := 1019) (by decide +kernel), List.mem_of_getElem? (i := 1176) (by decide +kernel), List.mem_of_getElem? (i := 1177) (by decide +kernel)⟩
theorem lw_p24 : lw_okq (⟨"FrameProverModel", "changes", "()V"⟩, 47) := ⟨⟨by decide +kernel, by decide +kernel⟩, List.mem_of_getElem? (i := 1019) (by decide +kernel), List.mem_of_getElem? (i := 1180) (by decide +kernel), List.mem_of_getElem? (i := 1181) (by decide +kernel)⟩
theorem lw_p25 : lw_okq (⟨"FrameProverModel", "isSign", "(I)Z"⟩, 47) := ⟨⟨by decide +kernel, by decide +kernel⟩, List.mem_of_getElem? (i := 1019) (by decide +kernel), List.mem_of_getElem? (i := 1192) (by decide +kernel), List.mem_of_getElem? (i := 1193) (by decide +kernel)⟩
theorem lw_p26 : lw_okq (⟨"FrameProverModel", "sorted", "(I)I"⟩, 47) := ⟨⟨by decide +kernel, by decide +kernel⟩, List.mem_of_getElem? (i := 1019) (by decide +kernel), List.mem_of_getElem? (i := 1224) (by decide +kernel), List.mem_of_getElem? (i := 1225) (by decide +kernel)⟩
theorem lw_p27 : lw_okq (⟨"FrameProverModel", "ways", "()I"⟩, 47) := ⟨⟨by decide +kernel, by decide +kernel⟩, List.mem_of_getElem? (i := 1019) (by decide +kernel), List.mem_of_getElem? (i := 1236) (by decide +kernel), List.mem_of_getElem? (i := 1237) (by decide +kernel)⟩
theorem lw_p28 : lw_okq (⟨"FrameProverModel", "table", "()V"⟩, 47) := ⟨⟨by decide +kernel, by decide +kernel⟩, List.mem_of_getElem? (i := 1019) (by decide +kernel), List.mem_of_getElem? (i := 1240) (by decide +kernel), List.mem_of_getElem? (i := 1241) (by decide +kernel)⟩
theorem lw_p29 : lw_okq (⟨"FrameProverModel", "states", "()I"⟩, 47) := ⟨⟨by decide +kernel, by decide +kernel⟩, List.mem_of_getElem? (i := 1019) (by decide +kernel), List.mem_of_getElem? (i := 1244) (by decide +kernel), List.mem_of_getElem? (i := 1245) (by decide +kernel)⟩
theorem lw_p30 : lw_okq (⟨"FrameProverModel", "show", "(II)V"⟩, 47) := ⟨⟨by decide +kernel, by decide +kernel⟩, List.mem_of_getElem? (i := 1019) (by decide +kernel), List.mem_of_getElem? (i := 1248) (by decide +kernel), List.mem_of_getElem? (i := 1249) (by decide +kernel)⟩
theorem lw_p31 : lw_okq (⟨"FrameProverModel", "is", "(I)Z"⟩, 47) := ⟨⟨by decide +kernel, by decide +kernel⟩, List.mem_of_getElem? (i := 1019) (by decide +kernel), List.mem_of_getElem? (i := 1252) (by decide +kernel), List.mem_of_getElem? (i := 1253) (by decide +kernel)⟩
def lw_privs_2 : List (MethodName × Nat) := [(⟨"FrameProver$Steps", "leadsFrom", "(I)LFrameProver$StateSet;"⟩, 11), (⟨"FrameProver$Steps", "findCircle", "(I)V"⟩, 11), (⟨"FrameProver$Steps", "isCircleFair", "()Z"⟩, 11), (⟨"FrameProver$Steps", "isInCircle", "(I)Z"⟩, 11), (⟨"FrameProver$Clauses", "findLeft", "()V"⟩, 4), (⟨"FrameProver$Judge", "leastThatLeadsOut", "()I"⟩, 5), (⟨"FrameProverModel", "no", "(I)I"⟩, 47), (⟨"FrameProverModel", "adds", "(III)I"⟩, 47), (⟨"FrameProverModel", "changes", "()V"⟩, 47), (⟨"FrameProverModel", "isSign", "(I)Z"⟩, 47), (⟨"FrameProverModel", "sorted", "(I)I"⟩, 47), (⟨"FrameProverModel", "ways", "()I"⟩, 47), (⟨"FrameProverModel", "table", "()V"⟩, 47), (⟨"FrameProverModel", "states", "()I"⟩, 47), (⟨"FrameProverModel", "show", "(II)V"⟩, 47), (⟨"FrameProverModel", "is", "(I)Z"⟩, 47)]
theorem lw_r2 : ∀ q ∈ lw_privs_2, lw_okq q := List.forall_mem_cons.mpr ⟨lw_p16, List.forall_mem_cons.mpr ⟨lw_p17, List.forall_mem_cons.mpr ⟨lw_p18, List.forall_mem_cons.mpr ⟨lw_p19, List.forall_mem_cons.mpr ⟨lw_p20, List.forall_mem_cons.mpr ⟨lw_p21, List.forall_mem_cons.mpr ⟨lw_p22, List.forall_mem_cons.mpr ⟨lw_p23, List.forall_mem_cons.mpr ⟨lw_p24, List.forall_mem_cons.mpr ⟨lw_p25, List.forall_mem_cons.mpr ⟨lw_p26, List.forall_mem_cons.mpr ⟨lw_p27, List.forall_mem_cons.mpr ⟨lw_p28, List.forall_mem_cons.mpr ⟨lw_p29, List.forall_mem_cons.mpr ⟨lw_p30, List.forall_mem_cons.mpr ⟨lw_p31, fun _ h => absurd h List.not_mem_nil⟩⟩⟩⟩⟩⟩⟩⟩⟩⟩⟩⟩⟩⟩⟩⟩
theorem lw_p32 : lw_okq (⟨"FrameProverModel", "isRight", "()Z"⟩, 47) := ⟨⟨by decide +kernel, by decide +kernel⟩, List.mem_of_getElem? (i := 1019) (by decide +kernel), List.mem_of_getElem? (i := 1256) (by decide +kernel), List.mem_of_getElem? (i := 1257) (by decide +kernel)⟩
theorem lw_p33 : lw_okq (⟨"FrameProverModel", "comes", "()I"⟩, 47) := ⟨⟨by decide +kernel, by decide +kernel⟩, List.mem_of_getElem? (i := 1019) (by decide +kernel), List.mem_of_getElem? (i := 1260) (by decide +kernel), List.mem_of_getElem? (i := 1261) (by decide +kernel)⟩
theorem lw_p34 : lw_okq (⟨"FrameProverModel", "isState", "(I)Z"⟩, 47) := ⟨⟨by decide +kernel, by decide +kernel⟩, List.mem_of_getElem? (i := 1019) (by decide +kernel), List.mem_of_getElem? (i := 1272) (by decide +kernel), List.mem_of_getElem? (i := 1273) (by decide +kernel)⟩
theorem lw_p35 : lw_okq (⟨"FrameProverModel", "isBadState", "(I)Z"⟩, 47) := ⟨⟨by decide +kernel, by decide +kernel⟩, List.mem_of_getElem? (i := 1019) (by decide +kernel), List.mem_of_getElem? (i := 1281) (by decide +kernel), List.mem_of_getElem? (i := 1282) (by decide +kernel)⟩
theorem lw_p36 : lw_okq (⟨"FrameProverModel", "meet", "(II)V"⟩, 47) := ⟨⟨by decide +kernel, by decide +kernel⟩, List.mem_of_getElem? (i := 1019) (by decide +kernel), List.mem_of_getElem? (i := 1285) (by decide +kernel), List.mem_of_getElem? (i := 1286) (by decide +kernel)⟩
theorem lw_p37 : lw_okq (⟨"FrameProverModel", "tellWay", "()V"⟩, 47) := ⟨⟨by decide +kernel, by decide +kernel⟩, List.mem_of_getElem? (i := 1019) (by decide +kernel), List.mem_of_getElem? (i := 1289) (by decide +kernel), List.mem_of_getElem? (i := 1290) (by decide +kernel)⟩
theorem lw_p38 : lw_okq (⟨"FrameProverModel", "hasTrouble", "()Z"⟩, 47) := ⟨⟨by decide +kernel, by decide +kernel⟩, List.mem_of_getElem? (i := 1019) (by decide +kernel), List.mem_of_getElem? (i := 1293) (by decide +kernel), List.mem_of_getElem? (i := 1294) (by decide +kernel)⟩
theorem lw_p39 : lw_okq (⟨"FrameProverModel", "isInFrame", "(II)Z"⟩, 47) := ⟨⟨by decide +kernel, by decide +kernel⟩, List.mem_of_getElem? (i := 1019) (by decide +kernel), List.mem_of_getElem? (i := 1297) (by decide +kernel), List.mem_of_getElem? (i := 1298) (by decide +kernel)⟩
theorem lw_p40 : lw_okq (⟨"FrameProverModel", "pushAll", "()V"⟩, 47) := ⟨⟨by decide +kernel, by decide +kernel⟩, List.mem_of_getElem? (i := 1019) (by decide +kernel), List.mem_of_getElem? (i := 1304) (by decide +kernel), List.mem_of_getElem? (i := 1305) (by decide +kernel)⟩
theorem lw_p41 : lw_okq (⟨"FrameProverModel", "push", "(I)V"⟩, 47) := ⟨⟨by decide +kernel, by decide +kernel⟩, List.mem_of_getElem? (i := 1019) (by decide +kernel), List.mem_of_getElem? (i := 1308) (by decide +kernel), List.mem_of_getElem? (i := 1309) (by decide +kernel)⟩
theorem lw_p42 : lw_okq (⟨"FrameProverModel", "has", "(III)Z"⟩, 47) := ⟨⟨by decide +kernel, by decide +kernel⟩, List.mem_of_getElem? (i := 1019) (by decide +kernel), List.mem_of_getElem? (i := 1312) (by decide +kernel), List.mem_of_getElem? (i := 1313) (by decide +kernel)⟩
theorem lw_p43 : lw_okq (⟨"FrameProverModel", "isShut", "(III)Z"⟩, 47) := ⟨⟨by decide +kernel, by decide +kernel⟩, List.mem_of_getElem? (i := 1019) (by decide +kernel), List.mem_of_getElem? (i := 1316) (by decide +kernel), List.mem_of_getElem? (i := 1317) (by decide +kernel)⟩
theorem lw_p44 : lw_okq (⟨"FrameProverModel", "leadsInto", "(III)Z"⟩, 47) := ⟨⟨by decide +kernel, by decide +kernel⟩, List.mem_of_getElem? (i := 1019) (by decide +kernel), List.mem_of_getElem? (i := 1320) (by decide +kernel), List.mem_of_getElem? (i := 1321) (by decide +kernel)⟩
theorem lw_p45 : lw_okq (⟨"FrameProverModel", "keep", "(III)V"⟩, 47) := ⟨⟨by decide +kernel, by decide +kernel⟩, List.mem_of_getElem? (i := 1019) (by decide +kernel), List.mem_of_getElem? (i := 1324) (by decide +kernel), List.mem_of_getElem? (i := 1325) (by decide +kernel)⟩
theorem lw_p46 : lw_okq (⟨"FrameProverModel", "hasAll", "(I)Z"⟩, 47) := ⟨⟨by decide +kernel, by decide +kernel⟩, List.mem_of_getElem? (i := 1019) (by decide +kernel), List.mem_of_getElem? (i := 1328) (by decide +kernel), List.mem_of_getElem? (i := 1329) (by decide +kernel)⟩
theorem lw_p47 : lw_okq (⟨"FrameProverModel", "lookAt", "()V"⟩, 47) := ⟨⟨by decide +kernel, by decide +kernel⟩, List.mem_of_getElem? (i := 1019) (by decide +kernel), List.mem_of_getElem? (i := 1332) (by decide +kernel), List.mem_of_getElem? (i := 1333) (by decide +kernel)⟩
def lw_privs_3 : List (MethodName × Nat) := [(⟨"FrameProverModel", "isRight", "()Z"⟩, 47), (⟨"FrameProverModel", "comes", "()I"⟩, 47), (⟨"FrameProverModel", "isState", "(I)Z"⟩, 47), (⟨"FrameProverModel", "isBadState", "(I)Z"⟩, 47), (⟨"FrameProverModel", "meet", "(II)V"⟩, 47), (⟨"FrameProverModel", "tellWay", "()V"⟩, 47), (⟨"FrameProverModel", "hasTrouble", "()Z"⟩, 47), (⟨"FrameProverModel", "isInFrame", "(II)Z"⟩, 47), (⟨"FrameProverModel", "pushAll", "()V"⟩, 47), (⟨"FrameProverModel", "push", "(I)V"⟩, 47), (⟨"FrameProverModel", "has", "(III)Z"⟩, 47), (⟨"FrameProverModel", "isShut", "(III)Z"⟩, 47), (⟨"FrameProverModel", "leadsInto", "(III)Z"⟩, 47), (⟨"FrameProverModel", "keep", "(III)V"⟩, 47), (⟨"FrameProverModel", "hasAll", "(I)Z"⟩, 47), (⟨"FrameProverModel", "lookAt", "()V"⟩, 47)]
theorem lw_r3 : ∀ q ∈ lw_privs_3, lw_okq q := List.forall_mem_cons.mpr ⟨lw_p32, List.forall_mem_cons.mpr ⟨lw_p33, List.forall_mem_cons.mpr ⟨lw_p34, List.forall_mem_cons.mpr ⟨lw_p35, List.forall_mem_cons.mpr ⟨lw_p36, List.forall_mem_cons.mpr ⟨lw_p37, List.forall_mem_cons.mpr ⟨lw_p38, List.forall_mem_cons.mpr ⟨lw_p39, List.forall_mem_cons.mpr ⟨lw_p40, List.forall_mem_cons.mpr ⟨lw_p41, List.forall_mem_cons.mpr ⟨lw_p42, List.forall_mem_cons.mpr ⟨lw_p43, List.forall_mem_cons.mpr ⟨lw_p44, List.forall_mem_cons.mpr ⟨lw_p45, List.forall_mem_cons.mpr ⟨lw_p46, List.forall_mem_cons.mpr ⟨lw_p47, fun _ h => absurd h List.not_mem_nil⟩⟩⟩⟩⟩⟩⟩⟩⟩⟩⟩⟩⟩⟩⟩⟩
theorem lw_p48 : lw_okq (⟨"FrameProverModel", "forerunner", "(II)I"⟩, 47) := ⟨⟨by decide +kernel, by decide +kernel⟩, List.mem_of_getElem? (i := 1019) (by decide +kernel), List.mem_of_getElem? (i := 1336) (by decide +kernel), List.mem_of_getElem? (i := 1337) (by decide +kernel)⟩
theorem lw_p49 : lw_okq (⟨"FrameProverModel", "leads", "(II)Z"⟩, 47) := ⟨⟨by decide +kernel, by decide +kernel⟩, List.mem_of_getElem? (i := 1019) (by decide +kernel), List.mem_of_getElem? (i := 1340) (by decide +kernel), List.mem_of_getElem? (i := 1341) (by decide +kernel)⟩
theorem lw_p50 : lw_okq (⟨"FrameProverModel", "widened", "(III)I"⟩, 47) := ⟨⟨by decide +kernel, by decide +kernel⟩, List.mem_of_getElem? (i := 1019) (by decide +kernel), List.mem_of_getElem? (i := 1344) (by decide +kernel), List.mem_of_getElem? (i := 1345) (by decide +kernel)⟩
theorem lw_p51 : lw_okq (⟨"FrameProverModel", "asked", "(III)I"⟩, 47) := ⟨⟨by decide +kernel, by decide +kernel⟩, List.mem_of_getElem? (i := 1019) (by decide +kernel), List.mem_of_getElem? (i := 1348) (by decide +kernel), List.mem_of_getElem? (i := 1349) (by decide +kernel)⟩
theorem lw_p52 : lw_okq (⟨"FrameProverModel", "isCube", "(II)Z"⟩, 47) := ⟨⟨by decide +kernel, by decide +kernel⟩, List.mem_of_getElem? (i := 1019) (by decide +kernel), List.mem_of_getElem? (i := 1388) (by decide +kernel), List.mem_of_getElem? (i := 1389) (by decide +kernel)⟩
theorem lw_p53 : lw_okq (⟨"FrameProverModel", "findFar", "(I)V"⟩, 47) := ⟨⟨by decide +kernel, by decide +kernel⟩, List.mem_of_getElem? (i := 1019) (by decide +kernel), List.mem_of_getElem? (i := 1400) (by decide +kernel), List.mem_of_getElem? (i := 1401) (by decide +kernel)⟩
theorem lw_p54 : lw_okq (⟨"FrameProverModel", "findComes", "()V"⟩, 47) := ⟨⟨by decide +kernel, by decide +kernel⟩, List.mem_of_getElem? (i := 1019) (by decide +kernel), List.mem_of_getElem? (i := 1420) (by decide +kernel), List.mem_of_getElem? (i := 1421) (by decide +kernel)⟩
theorem lw_p55 : lw_okq (⟨"FrameProverModel", "fairAround", "(I)I"⟩, 47) := ⟨⟨by decide +kernel, by decide +kernel⟩, List.mem_of_getElem? (i := 1019) (by decide +kernel), List.mem_of_getElem? (i := 1424) (by decide +kernel), List.mem_of_getElem? (i := 1425) (by decide +kernel)⟩
theorem lw_p56 : lw_okq (⟨"FrameProverModel", "judged", "(I)I"⟩, 47) := ⟨⟨by decide +kernel, by decide +kernel⟩, List.mem_of_getElem? (i := 1019) (by decide +kernel), List.mem_of_getElem? (i := 1448) (by decide +kernel), List.mem_of_getElem? (i := 1449) (by decide +kernel)⟩
theorem lw_p57 : lw_okq (⟨"FrameProverModel", "isLeft", "(II)Z"⟩, 47) := ⟨⟨by decide +kernel, by decide +kernel⟩, List.mem_of_getElem? (i := 1019) (by decide +kernel), List.mem_of_getElem? (i := 1452) (by decide +kernel), List.mem_of_getElem? (i := 1453) (by decide +kernel)⟩
def lw_privs_4 : List (MethodName × Nat) := [(⟨"FrameProverModel", "forerunner", "(II)I"⟩, 47), (⟨"FrameProverModel", "leads", "(II)Z"⟩, 47), (⟨"FrameProverModel", "widened", "(III)I"⟩, 47), (⟨"FrameProverModel", "asked", "(III)I"⟩, 47), (⟨"FrameProverModel", "isCube", "(II)Z"⟩, 47), (⟨"FrameProverModel", "findFar", "(I)V"⟩, 47), (⟨"FrameProverModel", "findComes", "()V"⟩, 47), (⟨"FrameProverModel", "fairAround", "(I)I"⟩, 47), (⟨"FrameProverModel", "judged", "(I)I"⟩, 47), (⟨"FrameProverModel", "isLeft", "(II)Z"⟩, 47)]
theorem lw_r4 : ∀ q ∈ lw_privs_4, lw_okq q := List.forall_mem_cons.mpr ⟨lw_p48, List.forall_mem_cons.mpr ⟨lw_p49, List.forall_mem_cons.mpr ⟨lw_p50, List.forall_mem_cons.mpr ⟨lw_p51, List.forall_mem_cons.mpr ⟨lw_p52, List.forall_mem_cons.mpr ⟨lw_p53, List.forall_mem_cons.mpr ⟨lw_p54, List.forall_mem_cons.mpr ⟨lw_p55, List.forall_mem_cons.mpr ⟨lw_p56, List.forall_mem_cons.mpr ⟨lw_p57, fun _ h => absurd h List.not_mem_nil⟩⟩⟩⟩⟩⟩⟩⟩⟩⟩
def lw_privs : List (MethodName × Nat) := lw_privs_1 ++ (lw_privs_2 ++ (lw_privs_3 ++ (lw_privs_4)))
def lw_tbl : List Cond := k2_sels lw_privs ++ tables_1
theorem lw_privs_ok : ∀ q ∈ lw_privs, lw_okq q := by
  show ∀ q ∈ lw_privs_1 ++ (lw_privs_2 ++ (lw_privs_3 ++ (lw_privs_4))), lw_okq q
  exact List.forall_mem_append.mpr ⟨lw_r1, List.forall_mem_append.mpr ⟨lw_r2, List.forall_mem_append.mpr ⟨lw_r3, lw_r4⟩⟩⟩
-- ===== end of PART A; then your names; then what follows =====
end
section
def RX0 : String := "FrameProver$Clauses"
def TX0 : u_T := fun k => match k with
  | 0 => ("FrameProver$Clauses", "cubes", "[I", true)
  | 1 => ("FrameProver$Clauses", "left", "LFrameProver$StateSet;", true)
  | 2 => ("FrameProver$Clauses", "size", "I", false)
  | _ => ("FrameProver$Clauses", "states", "I", false)
def tyX0 : Nat → FieldType := fun k => match k with
  | 0 => .array .int
  | 1 => .object "FrameProver$StateSet"
  | 2 => .int
  | _ => .int
abbrev wsX00 : List Cond := u_ws RX0 TX0 4
theorem nmX0 : ∀ a, a < 4 → ∀ b, b < 4 → a ≠ b → (TX0 a).2.1 ≠ (TX0 b).2.1 := by decide +kernel
theorem tyX0_ok : ∀ k, k < 4 → parseFieldDescriptor (TX0 k).2.2.1 = some (tyX0 k) := by decide +kernel
abbrev cX0_init : ByteArray := prog_2_method_1_code
def yX0_init : MethodName := ⟨RX0, "<init>", "(I)V"⟩
abbrev cX0_restart : ByteArray := prog_2_method_2_code
def yX0_restart : MethodName := ⟨RX0, "restart", "(I)V"⟩
abbrev cX0_isFull : ByteArray := prog_2_method_3_code
def yX0_isFull : MethodName := ⟨RX0, "isFull", "()Z"⟩
abbrev cX0_hasIndex : ByteArray := prog_2_method_4_code
def yX0_hasIndex : MethodName := ⟨RX0, "hasIndex", "(I)Z"⟩
abbrev cX0_cubeAt : ByteArray := prog_2_method_5_code
def yX0_cubeAt : MethodName := ⟨RX0, "cubeAt", "(I)I"⟩
abbrev cX0_put : ByteArray := prog_2_method_6_code
def yX0_put : MethodName := ⟨RX0, "put", "(I)Z"⟩
abbrev cX0_hasCube : ByteArray := prog_2_method_7_code
def yX0_hasCube : MethodName := ⟨RX0, "hasCube", "(I)Z"⟩
abbrev cX0_hasAllOf : ByteArray := prog_2_method_8_code
def yX0_hasAllOf : MethodName := ⟨RX0, "hasAllOf", "(LFrameProver$Clauses;)Z"⟩
abbrev cX0_becomeLike : ByteArray := prog_2_method_9_code
def yX0_becomeLike : MethodName := ⟨RX0, "becomeLike", "(LFrameProver$Clauses;)V"⟩
abbrev cX0_change : ByteArray := prog_2_method_10_code
def yX0_change : MethodName := ⟨RX0, "change", "(II)V"⟩
abbrev cX0_takeOut : ByteArray := prog_2_method_11_code
def yX0_takeOut : MethodName := ⟨RX0, "takeOut", "(I)V"⟩
abbrev cX0_putBack : ByteArray := prog_2_method_12_code
def yX0_putBack : MethodName := ⟨RX0, "putBack", "(II)V"⟩
abbrev cX0_findLeft : ByteArray := prog_2_method_13_code
def yX0_findLeft : MethodName := ⟨RX0, "findLeft", "()V"⟩
def RX1 : String := "FrameProver$Frames"
def TX1 : u_T := fun k => match k with
  | 0 => ("FrameProver$Frames", "machine", "LFrameProver$Machine;", true)
  | 1 => ("FrameProver$Frames", "steps", "LFrameProver$Steps;", true)
  | 2 => ("FrameProver$Frames", "all", "[LFrameProver$Clauses;", true)
  | 3 => ("FrameProver$Frames", "none", "LFrameProver$Clauses;", true)
  | 4 => ("FrameProver$Frames", "target", "LFrameProver$StateSet;", true)
  | _ => ("FrameProver$Frames", "coming", "LFrameProver$StateSet;", true)
def tyX1 : Nat → FieldType := fun k => match k with
  | 0 => .object "FrameProver$Machine"
  | 1 => .object "FrameProver$Steps"
  | 2 => .array (.object "FrameProver$Clauses")
  | 3 => .object "FrameProver$Clauses"
  | 4 => .object "FrameProver$StateSet"
  | _ => .object "FrameProver$StateSet"
abbrev wsX10 : List Cond := u_ws RX1 TX1 6
theorem nmX1 : ∀ a, a < 6 → ∀ b, b < 6 → a ≠ b → (TX1 a).2.1 ≠ (TX1 b).2.1 := by decide +kernel
theorem tyX1_ok : ∀ k, k < 6 → parseFieldDescriptor (TX1 k).2.2.1 = some (tyX1 k) := by decide +kernel
abbrev cX1_init : ByteArray := prog_3_method_1_code
def yX1_init : MethodName := ⟨RX1, "<init>", "(LFrameProver$Machine;LFrameProver$Steps;)V"⟩
abbrev cX1_restart : ByteArray := prog_3_method_2_code
def yX1_restart : MethodName := ⟨RX1, "restart", "()V"⟩
abbrev cX1_frame : ByteArray := prog_3_method_3_code
def yX1_frame : MethodName := ⟨RX1, "frame", "(I)LFrameProver$Clauses;"⟩
abbrev cX1_leastInto : ByteArray := prog_3_method_4_code
def yX1_leastInto : MethodName := ⟨RX1, "leastInto", "(II)I"⟩
abbrev cX1_canKeepOut : ByteArray := prog_3_method_5_code
def yX1_canKeepOut : MethodName := ⟨RX1, "canKeepOut", "(II)Z"⟩
abbrev cX1_widened : ByteArray := prog_3_method_6_code
def yX1_widened : MethodName := ⟨RX1, "widened", "(II)I"⟩
abbrev cX1_putUpTo : ByteArray := prog_3_method_7_code
def yX1_putUpTo : MethodName := ⟨RX1, "putUpTo", "(II)Z"⟩
abbrev cX1_pushOn : ByteArray := prog_3_method_8_code
def yX1_pushOn : MethodName := ⟨RX1, "pushOn", "(I)Z"⟩
def RX2 : String := "FrameProver$Judge"
def TX2 : u_T := fun k => match k with
  | 0 => ("FrameProver$Judge", "machine", "LFrameProver$Machine;", true)
  | 1 => ("FrameProver$Judge", "steps", "LFrameProver$Steps;", true)
  | 2 => ("FrameProver$Judge", "list", "LFrameProver$Clauses;", true)
  | 3 => ("FrameProver$Judge", "failedWith", "I", false)
  | _ => ("FrameProver$Judge", "failedTo", "I", false)
def tyX2 : Nat → FieldType := fun k => match k with
  | 0 => .object "FrameProver$Machine"
  | 1 => .object "FrameProver$Steps"
  | 2 => .object "FrameProver$Clauses"
  | 3 => .int
  | _ => .int
abbrev wsX20 : List Cond := u_ws RX2 TX2 5
theorem nmX2 : ∀ a, a < 5 → ∀ b, b < 5 → a ≠ b → (TX2 a).2.1 ≠ (TX2 b).2.1 := by decide +kernel
theorem tyX2_ok : ∀ k, k < 5 → parseFieldDescriptor (TX2 k).2.2.1 = some (tyX2 k) := by decide +kernel
abbrev cX2_init : ByteArray := prog_4_method_1_code
def yX2_init : MethodName := ⟨RX2, "<init>", "(LFrameProver$Machine;LFrameProver$Steps;LFrameProver$Clauses;)V"⟩
abbrev cX2_fault : ByteArray := prog_4_method_2_code
def yX2_fault : MethodName := ⟨RX2, "fault", "()I"⟩
abbrev cX2_leastThatLeadsOut : ByteArray := prog_4_method_3_code
def yX2_leastThatLeadsOut : MethodName := ⟨RX2, "leastThatLeadsOut", "()I"⟩
abbrev cX2_judgeList : ByteArray := prog_4_method_4_code
def yX2_judgeList : MethodName := ⟨RX2, "judgeList", "()I"⟩
abbrev cX2_shrinkList : ByteArray := prog_4_method_5_code
def yX2_shrinkList : MethodName := ⟨RX2, "shrinkList", "()I"⟩
def RX3 : String := "FrameProver$Machine"
def TX3 : u_T := fun k => match k with
  | 0 => ("FrameProver$Machine", "kinds", "[I", true)
  | 1 => ("FrameProver$Machine", "firstSigns", "[I", true)
  | 2 => ("FrameProver$Machine", "secondSigns", "[I", true)
  | 3 => ("FrameProver$Machine", "places", "[I", true)
  | 4 => ("FrameProver$Machine", "partsOfBits", "[I", true)
  | 5 => ("FrameProver$Machine", "lanes", "[I", true)
  | 6 => ("FrameProver$Machine", "hangs", "[Z", true)
  | 7 => ("FrameProver$Machine", "assumed", "LFrameProver$Signs;", true)
  | 8 => ("FrameProver$Machine", "fairs", "LFrameProver$Signs;", true)
  | 9 => ("FrameProver$Machine", "badSign", "I", false)
  | 10 => ("FrameProver$Machine", "parts", "I", false)
  | 11 => ("FrameProver$Machine", "bits", "I", false)
  | 12 => ("FrameProver$Machine", "inputs", "I", false)
  | _ => ("FrameProver$Machine", "beginning", "I", false)
def tyX3 : Nat → FieldType := fun k => match k with
  | 0 => .array .int
  | 1 => .array .int
  | 2 => .array .int
  | 3 => .array .int
  | 4 => .array .int
  | 5 => .array .int
  | 6 => .array .boolean
  | 7 => .object "FrameProver$Signs"
  | 8 => .object "FrameProver$Signs"
  | 9 => .int
  | 10 => .int
  | 11 => .int
  | 12 => .int
  | _ => .int
abbrev wsX30 : List Cond := u_ws RX3 TX3 14
theorem nmX3 : ∀ a, a < 14 → ∀ b, b < 14 → a ≠ b → (TX3 a).2.1 ≠ (TX3 b).2.1 := by decide +kernel
theorem tyX3_ok : ∀ k, k < 14 → parseFieldDescriptor (TX3 k).2.2.1 = some (tyX3 k) := by decide +kernel
abbrev cX3_init : ByteArray := prog_5_method_1_code
def yX3_init : MethodName := ⟨RX3, "<init>", "()V"⟩
abbrev cX3_isFull : ByteArray := prog_5_method_2_code
def yX3_isFull : MethodName := ⟨RX3, "isFull", "()Z"⟩
abbrev cX3_addPart : ByteArray := prog_5_method_3_code
def yX3_addPart : MethodName := ⟨RX3, "addPart", "(III)I"⟩
abbrev cX3_addBit : ByteArray := prog_5_method_4_code
def yX3_addBit : MethodName := ⟨RX3, "addBit", "(ZZ)I"⟩
abbrev cX3_addInput : ByteArray := prog_5_method_5_code
def yX3_addInput : MethodName := ⟨RX3, "addInput", "()I"⟩
abbrev cX3_setNext : ByteArray := prog_5_method_6_code
def yX3_setNext : MethodName := ⟨RX3, "setNext", "(II)I"⟩
abbrev cX3_hasPart : ByteArray := prog_5_method_7_code
def yX3_hasPart : MethodName := ⟨RX3, "hasPart", "(I)Z"⟩
abbrev cX3_hasSign : ByteArray := prog_5_method_8_code
def yX3_hasSign : MethodName := ⟨RX3, "hasSign", "(I)Z"⟩
abbrev cX3_states : ByteArray := prog_5_method_9_code
def yX3_states : MethodName := ⟨RX3, "states", "()I"⟩
abbrev cX3_choicesInAll : ByteArray := prog_5_method_10_code
def yX3_choicesInAll : MethodName := ⟨RX3, "choicesInAll", "()I"⟩
abbrev cX3_hasState : ByteArray := prog_5_method_11_code
def yX3_hasState : MethodName := ⟨RX3, "hasState", "(I)Z"⟩
abbrev cX3_hasChoices : ByteArray := prog_5_method_12_code
def yX3_hasChoices : MethodName := ⟨RX3, "hasChoices", "(I)Z"⟩
abbrev cX3_kindOf : ByteArray := prog_5_method_13_code
def yX3_kindOf : MethodName := ⟨RX3, "kindOf", "(I)I"⟩
abbrev cX3_firstSign : ByteArray := prog_5_method_14_code
def yX3_firstSign : MethodName := ⟨RX3, "firstSign", "(I)I"⟩
abbrev cX3_secondSign : ByteArray := prog_5_method_15_code
def yX3_secondSign : MethodName := ⟨RX3, "secondSign", "(I)I"⟩
abbrev cX3_evaluate : ByteArray := prog_5_method_16_code
def yX3_evaluate : MethodName := ⟨RX3, "evaluate", "(I)V"⟩
abbrev cX3_lanesIn : ByteArray := prog_5_method_17_code
def yX3_lanesIn : MethodName := ⟨RX3, "lanesIn", "(II)I"⟩
abbrev cX3_partLanes : ByteArray := prog_5_method_18_code
def yX3_partLanes : MethodName := ⟨RX3, "partLanes", "(I)I"⟩
abbrev cX3_signLanes : ByteArray := prog_5_method_19_code
def yX3_signLanes : MethodName := ⟨RX3, "signLanes", "(I)I"⟩
abbrev cX3_rightLanes : ByteArray := prog_5_method_20_code
def yX3_rightLanes : MethodName := ⟨RX3, "rightLanes", "()I"⟩
abbrev cX3_badLanes : ByteArray := prog_5_method_21_code
def yX3_badLanes : MethodName := ⟨RX3, "badLanes", "()I"⟩
abbrev cX3_isRight : ByteArray := prog_5_method_22_code
def yX3_isRight : MethodName := ⟨RX3, "isRight", "(I)Z"⟩
abbrev cX3_stateAfter : ByteArray := prog_5_method_23_code
def yX3_stateAfter : MethodName := ⟨RX3, "stateAfter", "(I)I"⟩
abbrev cX3_leastChoicesTo : ByteArray := prog_5_method_24_code
def yX3_leastChoicesTo : MethodName := ⟨RX3, "leastChoicesTo", "(I)I"⟩
abbrev cX3_leastChoicesOfBad : ByteArray := prog_5_method_25_code
def yX3_leastChoicesOfBad : MethodName := ⟨RX3, "leastChoicesOfBad", "()I"⟩
abbrev cX3_coneBits : ByteArray := prog_5_method_26_code
def yX3_coneBits : MethodName := ⟨RX3, "coneBits", "()I"⟩
abbrev cX3_markPass : ByteArray := prog_5_method_27_code
def yX3_markPass : MethodName := ⟨RX3, "markPass", "()V"⟩
abbrev cX3_isMarked : ByteArray := prog_5_method_28_code
def yX3_isMarked : MethodName := ⟨RX3, "isMarked", "(I)Z"⟩
abbrev cX3_markSign : ByteArray := prog_5_method_29_code
def yX3_markSign : MethodName := ⟨RX3, "markSign", "(I)V"⟩
def RX4 : String := "FrameProver$Proof"
def TX4 : u_T := fun k => match k with
  | 0 => ("FrameProver$Proof", "machine", "LFrameProver$Machine;", true)
  | 1 => ("FrameProver$Proof", "steps", "LFrameProver$Steps;", true)
  | 2 => ("FrameProver$Proof", "frames", "LFrameProver$Frames;", true)
  | 3 => ("FrameProver$Proof", "troubleStates", "[I", true)
  | 4 => ("FrameProver$Proof", "troubleFrames", "[I", true)
  | 5 => ("FrameProver$Proof", "troubles", "I", false)
  | 6 => ("FrameProver$Proof", "ended", "I", false)
  | 7 => ("FrameProver$Proof", "n", "I", false)
  | 8 => ("FrameProver$Proof", "looks", "I", false)
  | _ => ("FrameProver$Proof", "wallFrame", "I", false)
def tyX4 : Nat → FieldType := fun k => match k with
  | 0 => .object "FrameProver$Machine"
  | 1 => .object "FrameProver$Steps"
  | 2 => .object "FrameProver$Frames"
  | 3 => .array .int
  | 4 => .array .int
  | 5 => .int
  | 6 => .int
  | 7 => .int
  | 8 => .int
  | _ => .int
abbrev wsX40 : List Cond := u_ws RX4 TX4 10
theorem nmX4 : ∀ a, a < 10 → ∀ b, b < 10 → a ≠ b → (TX4 a).2.1 ≠ (TX4 b).2.1 := by decide +kernel
theorem tyX4_ok : ∀ k, k < 10 → parseFieldDescriptor (TX4 k).2.2.1 = some (tyX4 k) := by decide +kernel
abbrev cX4_init : ByteArray := prog_6_method_1_code
def yX4_init : MethodName := ⟨RX4, "<init>", "(LFrameProver$Machine;LFrameProver$Steps;LFrameProver$Frames;)V"⟩
abbrev cX4_forget : ByteArray := prog_6_method_2_code
def yX4_forget : MethodName := ⟨RX4, "forget", "()V"⟩
abbrev cX4_goOn : ByteArray := prog_6_method_3_code
def yX4_goOn : MethodName := ⟨RX4, "goOn", "(I)I"⟩
abbrev cX4_begin : ByteArray := prog_6_method_4_code
def yX4_begin : MethodName := ⟨RX4, "begin", "()V"⟩
abbrev cX4_look : ByteArray := prog_6_method_5_code
def yX4_look : MethodName := ⟨RX4, "look", "()V"⟩
abbrev cX4_addTrouble : ByteArray := prog_6_method_6_code
def yX4_addTrouble : MethodName := ⟨RX4, "addTrouble", "(II)V"⟩
abbrev cX4_push : ByteArray := prog_6_method_7_code
def yX4_push : MethodName := ⟨RX4, "push", "()V"⟩
abbrev cX4_troubleState : ByteArray := prog_6_method_8_code
def yX4_troubleState : MethodName := ⟨RX4, "troubleState", "(I)I"⟩
abbrev cX4_troubleFrame : ByteArray := prog_6_method_9_code
def yX4_troubleFrame : MethodName := ⟨RX4, "troubleFrame", "(I)I"⟩
abbrev cX4_hasWall : ByteArray := prog_6_method_10_code
def yX4_hasWall : MethodName := ⟨RX4, "hasWall", "()Z"⟩
abbrev cX4_hasWay : ByteArray := prog_6_method_11_code
def yX4_hasWay : MethodName := ⟨RX4, "hasWay", "()Z"⟩
abbrev cX4_waySteps : ByteArray := prog_6_method_12_code
def yX4_waySteps : MethodName := ⟨RX4, "waySteps", "()I"⟩
abbrev cX4_stateOfWay : ByteArray := prog_6_method_13_code
def yX4_stateOfWay : MethodName := ⟨RX4, "stateOfWay", "(I)I"⟩
abbrev cX4_choiceOfWay : ByteArray := prog_6_method_14_code
def yX4_choiceOfWay : MethodName := ⟨RX4, "choiceOfWay", "(I)I"⟩
def RX5 : String := "FrameProver$Row"
def TX5 : u_T := fun k => match k with
  | 0 => ("FrameProver$Row", "numbers", "[I", true)
  | 1 => ("FrameProver$Row", "size", "I", false)
  | _ => ("FrameProver$Row", "isThere", "Z", false)
def tyX5 : Nat → FieldType := fun k => match k with
  | 0 => .array .int
  | 1 => .int
  | _ => .boolean
abbrev wsX50 : List Cond := u_ws RX5 TX5 3
theorem nmX5 : ∀ a, a < 3 → ∀ b, b < 3 → a ≠ b → (TX5 a).2.1 ≠ (TX5 b).2.1 := by decide +kernel
theorem tyX5_ok : ∀ k, k < 3 → parseFieldDescriptor (TX5 k).2.2.1 = some (tyX5 k) := by decide +kernel
abbrev cX5_init : ByteArray := prog_7_method_1_code
def yX5_init : MethodName := ⟨RX5, "<init>", "()V"⟩
abbrev cX5_layOut : ByteArray := prog_7_method_2_code
def yX5_layOut : MethodName := ⟨RX5, "layOut", "(LFrameProver$Machine;I)V"⟩
abbrev cX5_number : ByteArray := prog_7_method_3_code
def yX5_number : MethodName := ⟨RX5, "number", "(I)I"⟩
abbrev cX5_hasStretch : ByteArray := prog_7_method_4_code
def yX5_hasStretch : MethodName := ⟨RX5, "hasStretch", "(II)Z"⟩
abbrev cX5_moveStretch : ByteArray := prog_7_method_5_code
def yX5_moveStretch : MethodName := ⟨RX5, "moveStretch", "(III)V"⟩
def RX6 : String := "FrameProver$Signs"
def TX6 : u_T := fun k => match k with
  | 0 => ("FrameProver$Signs", "signs", "[I", true)
  | _ => ("FrameProver$Signs", "size", "I", false)
def tyX6 : Nat → FieldType := fun k => match k with
  | 0 => .array .int
  | _ => .int
abbrev wsX60 : List Cond := u_ws RX6 TX6 2
theorem nmX6 : ∀ a, a < 2 → ∀ b, b < 2 → a ≠ b → (TX6 a).2.1 ≠ (TX6 b).2.1 := by decide +kernel
theorem tyX6_ok : ∀ k, k < 2 → parseFieldDescriptor (TX6 k).2.2.1 = some (tyX6 k) := by decide +kernel
abbrev cX6_init : ByteArray := prog_8_method_1_code
def yX6_init : MethodName := ⟨RX6, "<init>", "(I)V"⟩
abbrev cX6_put : ByteArray := prog_8_method_2_code
def yX6_put : MethodName := ⟨RX6, "put", "(I)Z"⟩
abbrev cX6_signAt : ByteArray := prog_8_method_3_code
def yX6_signAt : MethodName := ⟨RX6, "signAt", "(I)I"⟩
def RX7 : String := "FrameProver$StateSet"
def TX7 : u_T := fun k => match k with
  | _ => ("FrameProver$StateSet", "words", "[J", true)
def tyX7 : Nat → FieldType := fun k => match k with
  | _ => .array .long
abbrev wsX70 : List Cond := u_ws RX7 TX7 1
theorem nmX7 : ∀ a, a < 1 → ∀ b, b < 1 → a ≠ b → (TX7 a).2.1 ≠ (TX7 b).2.1 := by decide +kernel
theorem tyX7_ok : ∀ k, k < 1 → parseFieldDescriptor (TX7 k).2.2.1 = some (tyX7 k) := by decide +kernel
abbrev cX7_init : ByteArray := prog_9_method_1_code
def yX7_init : MethodName := ⟨RX7, "<init>", "()V"⟩
abbrev cX7_has : ByteArray := prog_9_method_2_code
def yX7_has : MethodName := ⟨RX7, "has", "(I)Z"⟩
abbrev cX7_put : ByteArray := prog_9_method_3_code
def yX7_put : MethodName := ⟨RX7, "put", "(I)V"⟩
abbrev cX7_becomeEmpty : ByteArray := prog_9_method_4_code
def yX7_becomeEmpty : MethodName := ⟨RX7, "becomeEmpty", "()V"⟩
abbrev cX7_becomeOnly : ByteArray := prog_9_method_5_code
def yX7_becomeOnly : MethodName := ⟨RX7, "becomeOnly", "(I)V"⟩
abbrev cX7_becomeFirst : ByteArray := prog_9_method_6_code
def yX7_becomeFirst : MethodName := ⟨RX7, "becomeFirst", "(I)V"⟩
abbrev cX7_becomeCube : ByteArray := prog_9_method_7_code
def yX7_becomeCube : MethodName := ⟨RX7, "becomeCube", "(I)V"⟩
abbrev cX7_wordOfCube : ByteArray := prog_9_method_8_code
def yX7_wordOfCube : MethodName := ⟨RX7, "wordOfCube", "(III)J"⟩
abbrev cX7_becomeLike : ByteArray := prog_9_method_9_code
def yX7_becomeLike : MethodName := ⟨RX7, "becomeLike", "(LFrameProver$StateSet;)V"⟩
abbrev cX7_putAll : ByteArray := prog_9_method_10_code
def yX7_putAll : MethodName := ⟨RX7, "putAll", "(LFrameProver$StateSet;)V"⟩
abbrev cX7_dropAll : ByteArray := prog_9_method_11_code
def yX7_dropAll : MethodName := ⟨RX7, "dropAll", "(LFrameProver$StateSet;)V"⟩
abbrev cX7_dropCube : ByteArray := prog_9_method_12_code
def yX7_dropCube : MethodName := ⟨RX7, "dropCube", "(I)V"⟩
abbrev cX7_meets : ByteArray := prog_9_method_13_code
def yX7_meets : MethodName := ⟨RX7, "meets", "(LFrameProver$StateSet;)Z"⟩
abbrev cX7_meetsCube : ByteArray := prog_9_method_14_code
def yX7_meetsCube : MethodName := ⟨RX7, "meetsCube", "(I)Z"⟩
abbrev cX7_isInside : ByteArray := prog_9_method_15_code
def yX7_isInside : MethodName := ⟨RX7, "isInside", "(LFrameProver$StateSet;)Z"⟩
abbrev cX7_leastCommon : ByteArray := prog_9_method_16_code
def yX7_leastCommon : MethodName := ⟨RX7, "leastCommon", "(LFrameProver$StateSet;)I"⟩
abbrev cX7_leastOutside : ByteArray := prog_9_method_17_code
def yX7_leastOutside : MethodName := ⟨RX7, "leastOutside", "(LFrameProver$StateSet;)I"⟩
abbrev cX7_howMany : ByteArray := prog_9_method_18_code
def yX7_howMany : MethodName := ⟨RX7, "howMany", "()I"⟩
def RX8 : String := "FrameProver$Steps"
def TX8 : u_T := fun k => match k with
  | 0 => ("FrameProver$Steps", "machine", "LFrameProver$Machine;", true)
  | 1 => ("FrameProver$Steps", "goes", "[LFrameProver$StateSet;", true)
  | 2 => ("FrameProver$Steps", "leads", "[LFrameProver$StateSet;", true)
  | 3 => ("FrameProver$Steps", "none", "LFrameProver$StateSet;", true)
  | 4 => ("FrameProver$Steps", "bad", "LFrameProver$StateSet;", true)
  | 5 => ("FrameProver$Steps", "reached", "LFrameProver$StateSet;", true)
  | 6 => ("FrameProver$Steps", "newest", "LFrameProver$StateSet;", true)
  | 7 => ("FrameProver$Steps", "coming", "LFrameProver$StateSet;", true)
  | 8 => ("FrameProver$Steps", "circle", "LFrameProver$StateSet;", true)
  | 9 => ("FrameProver$Steps", "done", "LFrameProver$StateSet;", true)
  | _ => ("FrameProver$Steps", "isStale", "Z", false)
def tyX8 : Nat → FieldType := fun k => match k with
  | 0 => .object "FrameProver$Machine"
  | 1 => .array (.object "FrameProver$StateSet")
  | 2 => .array (.object "FrameProver$StateSet")
  | 3 => .object "FrameProver$StateSet"
  | 4 => .object "FrameProver$StateSet"
  | 5 => .object "FrameProver$StateSet"
  | 6 => .object "FrameProver$StateSet"
  | 7 => .object "FrameProver$StateSet"
  | 8 => .object "FrameProver$StateSet"
  | 9 => .object "FrameProver$StateSet"
  | _ => .boolean
abbrev wsX80 : List Cond := u_ws RX8 TX8 11
theorem nmX8 : ∀ a, a < 11 → ∀ b, b < 11 → a ≠ b → (TX8 a).2.1 ≠ (TX8 b).2.1 := by decide +kernel
theorem tyX8_ok : ∀ k, k < 11 → parseFieldDescriptor (TX8 k).2.2.1 = some (tyX8 k) := by decide +kernel
abbrev cX8_init : ByteArray := prog_10_method_1_code
def yX8_init : MethodName := ⟨RX8, "<init>", "(LFrameProver$Machine;)V"⟩
abbrev cX8_renew : ByteArray := prog_10_method_2_code
def yX8_renew : MethodName := ⟨RX8, "renew", "()V"⟩
abbrev cX8_renewFrom : ByteArray := prog_10_method_3_code
def yX8_renewFrom : MethodName := ⟨RX8, "renewFrom", "(LFrameProver$StateSet;)V"⟩
abbrev cX8_from : ByteArray := prog_10_method_4_code
def yX8_from : MethodName := ⟨RX8, "from", "(I)LFrameProver$StateSet;"⟩
abbrev cX8_leadsFrom : ByteArray := prog_10_method_5_code
def yX8_leadsFrom : MethodName := ⟨RX8, "leadsFrom", "(I)LFrameProver$StateSet;"⟩
abbrev cX8_putAllFrom : ByteArray := prog_10_method_6_code
def yX8_putAllFrom : MethodName := ⟨RX8, "putAllFrom", "(LFrameProver$StateSet;LFrameProver$StateSet;)V"⟩
abbrev cX8_beginReach : ByteArray := prog_10_method_7_code
def yX8_beginReach : MethodName := ⟨RX8, "beginReach", "()V"⟩
abbrev cX8_reachOn : ByteArray := prog_10_method_8_code
def yX8_reachOn : MethodName := ⟨RX8, "reachOn", "()Z"⟩
abbrev cX8_reached : ByteArray := prog_10_method_9_code
def yX8_reached : MethodName := ⟨RX8, "reached", "(I)LFrameProver$StateSet;"⟩
abbrev cX8_fewestToBad : ByteArray := prog_10_method_10_code
def yX8_fewestToBad : MethodName := ⟨RX8, "fewestToBad", "()I"⟩
abbrev cX8_leastForEver : ByteArray := prog_10_method_11_code
def yX8_leastForEver : MethodName := ⟨RX8, "leastForEver", "()I"⟩
abbrev cX8_closeLeads : ByteArray := prog_10_method_12_code
def yX8_closeLeads : MethodName := ⟨RX8, "closeLeads", "()V"⟩
abbrev cX8_findCircle : ByteArray := prog_10_method_13_code
def yX8_findCircle : MethodName := ⟨RX8, "findCircle", "(I)V"⟩
abbrev cX8_isCircleFair : ByteArray := prog_10_method_14_code
def yX8_isCircleFair : MethodName := ⟨RX8, "isCircleFair", "()Z"⟩
abbrev cX8_isInCircle : ByteArray := prog_10_method_15_code
def yX8_isInCircle : MethodName := ⟨RX8, "isInCircle", "(I)Z"⟩
def RX9 : String := "FrameProver"
def TX9 : u_T := fun k => match k with
  | 0 => ("FrameProver", "machine", "LFrameProver$Machine;", true)
  | 1 => ("FrameProver", "steps", "LFrameProver$Steps;", true)
  | 2 => ("FrameProver", "frames", "LFrameProver$Frames;", true)
  | 3 => ("FrameProver", "proof", "LFrameProver$Proof;", true)
  | 4 => ("FrameProver", "list", "LFrameProver$Clauses;", true)
  | 5 => ("FrameProver", "judge", "LFrameProver$Judge;", true)
  | 6 => ("FrameProver", "row", "LFrameProver$Row;", true)
  | 7 => ("FrameProver", "refused", "[I", true)
  | _ => ("FrameProver", "run", "I", false)
def tyX9 : Nat → FieldType := fun k => match k with
  | 0 => .object "FrameProver$Machine"
  | 1 => .object "FrameProver$Steps"
  | 2 => .object "FrameProver$Frames"
  | 3 => .object "FrameProver$Proof"
  | 4 => .object "FrameProver$Clauses"
  | 5 => .object "FrameProver$Judge"
  | 6 => .object "FrameProver$Row"
  | 7 => .array .int
  | _ => .int
abbrev wsX90 : List Cond := u_ws RX9 TX9 9
theorem nmX9 : ∀ a, a < 9 → ∀ b, b < 9 → a ≠ b → (TX9 a).2.1 ≠ (TX9 b).2.1 := by decide +kernel
theorem tyX9_ok : ∀ k, k < 9 → parseFieldDescriptor (TX9 k).2.2.1 = some (tyX9 k) := by decide +kernel
abbrev cX9_init : ByteArray := prog_1_method_1_code
def yX9_init : MethodName := ⟨RX9, "<init>", "()V"⟩
abbrev cX9_bit : ByteArray := prog_1_method_2_code
def yX9_bit : MethodName := ⟨RX9, "bit", "(ZZ)I"⟩
abbrev cX9_input : ByteArray := prog_1_method_3_code
def yX9_input : MethodName := ⟨RX9, "input", "()I"⟩
abbrev cX9_gate : ByteArray := prog_1_method_4_code
def yX9_gate : MethodName := ⟨RX9, "gate", "(II)I"⟩
abbrev cX9_next : ByteArray := prog_1_method_5_code
def yX9_next : MethodName := ⟨RX9, "next", "(II)I"⟩
abbrev cX9_bad : ByteArray := prog_1_method_6_code
def yX9_bad : MethodName := ⟨RX9, "bad", "(I)I"⟩
abbrev cX9_assume : ByteArray := prog_1_method_7_code
def yX9_assume : MethodName := ⟨RX9, "assume", "(I)I"⟩
abbrev cX9_fair : ByteArray := prog_1_method_8_code
def yX9_fair : MethodName := ⟨RX9, "fair", "(I)I"⟩
abbrev cX9_part : ByteArray := prog_1_method_9_code
def yX9_part : MethodName := ⟨RX9, "part", "(II)I"⟩
abbrev cX9_count : ByteArray := prog_1_method_10_code
def yX9_count : MethodName := ⟨RX9, "count", "(I)I"⟩
abbrev cX9_start : ByteArray := prog_1_method_11_code
def yX9_start : MethodName := ⟨RX9, "start", "()I"⟩
abbrev cX9_step : ByteArray := prog_1_method_12_code
def yX9_step : MethodName := ⟨RX9, "step", "(I)I"⟩
abbrev cX9_value : ByteArray := prog_1_method_13_code
def yX9_value : MethodName := ⟨RX9, "value", "(II)I"⟩
abbrev cX9_at : ByteArray := prog_1_method_14_code
def yX9_at : MethodName := ⟨RX9, "at", "(III)I"⟩
abbrev cX9_prove : ByteArray := prog_1_method_15_code
def yX9_prove : MethodName := ⟨RX9, "prove", "(I)I"⟩
abbrev cX9_frames : ByteArray := prog_1_method_16_code
def yX9_frames : MethodName := ⟨RX9, "frames", "()I"⟩
abbrev cX9_clauses : ByteArray := prog_1_method_17_code
def yX9_clauses : MethodName := ⟨RX9, "clauses", "(I)I"⟩
abbrev cX9_clause : ByteArray := prog_1_method_18_code
def yX9_clause : MethodName := ⟨RX9, "clause", "(IIZ)I"⟩
abbrev cX9_trouble : ByteArray := prog_1_method_19_code
def yX9_trouble : MethodName := ⟨RX9, "trouble", "(II)I"⟩
abbrev cX9_way : ByteArray := prog_1_method_20_code
def yX9_way : MethodName := ⟨RX9, "way", "()I"⟩
abbrev cX9_wayState : ByteArray := prog_1_method_21_code
def yX9_wayState : MethodName := ⟨RX9, "wayState", "(I)I"⟩
abbrev cX9_wayChoice : ByteArray := prog_1_method_22_code
def yX9_wayChoice : MethodName := ⟨RX9, "wayChoice", "(I)I"⟩
abbrev cX9_take : ByteArray := prog_1_method_23_code
def yX9_take : MethodName := ⟨RX9, "take", "()I"⟩
abbrev cX9_ask : ByteArray := prog_1_method_24_code
def yX9_ask : MethodName := ⟨RX9, "ask", "(III)I"⟩
abbrev cX9_widen : ByteArray := prog_1_method_25_code
def yX9_widen : MethodName := ⟨RX9, "widen", "(III)I"⟩
abbrev cX9_shortest : ByteArray := prog_1_method_26_code
def yX9_shortest : MethodName := ⟨RX9, "shortest", "()I"⟩
abbrev cX9_within : ByteArray := prog_1_method_27_code
def yX9_within : MethodName := ⟨RX9, "within", "(I)I"⟩
abbrev cX9_keeps : ByteArray := prog_1_method_28_code
def yX9_keeps : MethodName := ⟨RX9, "keeps", "(I)I"⟩
abbrev cX9_cone : ByteArray := prog_1_method_29_code
def yX9_cone : MethodName := ⟨RX9, "cone", "()I"⟩
abbrev cX9_live : ByteArray := prog_1_method_30_code
def yX9_live : MethodName := ⟨RX9, "live", "()I"⟩
abbrev cX9_list : ByteArray := prog_1_method_31_code
def yX9_list : MethodName := ⟨RX9, "list", "(II)I"⟩
abbrev cX9_forge : ByteArray := prog_1_method_32_code
def yX9_forge : MethodName := ⟨RX9, "forge", "(IIZ)I"⟩
abbrev cX9_clear : ByteArray := prog_1_method_33_code
def yX9_clear : MethodName := ⟨RX9, "clear", "()I"⟩
abbrev cX9_judge : ByteArray := prog_1_method_34_code
def yX9_judge : MethodName := ⟨RX9, "judge", "()I"⟩
abbrev cX9_fails : ByteArray := prog_1_method_35_code
def yX9_fails : MethodName := ⟨RX9, "fails", "(I)I"⟩
abbrev cX9_small : ByteArray := prog_1_method_36_code
def yX9_small : MethodName := ⟨RX9, "small", "()I"⟩
abbrev cX9_listed : ByteArray := prog_1_method_37_code
def yX9_listed : MethodName := ⟨RX9, "listed", "(IZ)I"⟩
abbrev cX9_lay : ByteArray := prog_1_method_38_code
def yX9_lay : MethodName := ⟨RX9, "lay", "(II)I"⟩
abbrev cX9_tear : ByteArray := prog_1_method_39_code
def yX9_tear : MethodName := ⟨RX9, "tear", "()I"⟩
abbrev cX9_row : ByteArray := prog_1_method_40_code
def yX9_row : MethodName := ⟨RX9, "row", "(I)I"⟩
abbrev cX9_copy : ByteArray := prog_1_method_41_code
def yX9_copy : MethodName := ⟨RX9, "copy", "(III)I"⟩
abbrev cX9_status : ByteArray := prog_1_method_42_code
def yX9_status : MethodName := ⟨RX9, "status", "(I)I"⟩
abbrev cX9_refuse : ByteArray := prog_1_method_43_code
def yX9_refuse : MethodName := ⟨RX9, "refuse", "(I)I"⟩
abbrev cX9_startAnew : ByteArray := prog_1_method_44_code
def yX9_startAnew : MethodName := ⟨RX9, "startAnew", "()V"⟩
abbrev cX9_addSign : ByteArray := prog_1_method_45_code
def yX9_addSign : MethodName := ⟨RX9, "addSign", "(ILFrameProver$Signs;)I"⟩
abbrev cX9_isLaterFrame : ByteArray := prog_1_method_46_code
def yX9_isLaterFrame : MethodName := ⟨RX9, "isLaterFrame", "(I)Z"⟩
abbrev cX9_isCube : ByteArray := prog_1_method_47_code
def yX9_isCube : MethodName := ⟨RX9, "isCube", "(II)Z"⟩
abbrev cX9_cubeOf : ByteArray := prog_1_method_48_code
def yX9_cubeOf : MethodName := ⟨RX9, "cubeOf", "(II)I"⟩
abbrev cX9_maskOf : ByteArray := prog_1_method_49_code
def yX9_maskOf : MethodName := ⟨RX9, "maskOf", "(I)I"⟩
abbrev cX9_valuesOf : ByteArray := prog_1_method_50_code
def yX9_valuesOf : MethodName := ⟨RX9, "valuesOf", "(I)I"⟩
abbrev cX9_halfOf : ByteArray := prog_1_method_51_code
def yX9_halfOf : MethodName := ⟨RX9, "halfOf", "(IZ)I"⟩
abbrev cX9_isInCube : ByteArray := prog_1_method_52_code
def yX9_isInCube : MethodName := ⟨RX9, "isInCube", "(II)Z"⟩
def RX10 : String := "FrameProverModel"
def TX10 : u_T := fun k => match k with
  | 0 => ("FrameProverModel", "sort", "[I", true)
  | 1 => ("FrameProverModel", "x", "[I", true)
  | 2 => ("FrameProverModel", "y", "[I", true)
  | 3 => ("FrameProverModel", "place", "[I", true)
  | 4 => ("FrameProverModel", "value", "[Z", true)
  | 5 => ("FrameProverModel", "parts", "I", false)
  | 6 => ("FrameProverModel", "bits", "I", false)
  | 7 => ("FrameProverModel", "inputs", "I", false)
  | 8 => ("FrameProverModel", "first", "I", false)
  | 9 => ("FrameProverModel", "bad", "I", false)
  | 10 => ("FrameProverModel", "assumed", "I", false)
  | 11 => ("FrameProverModel", "fairs", "I", false)
  | 12 => ("FrameProverModel", "assumptions", "[I", true)
  | 13 => ("FrameProverModel", "fair", "[I", true)
  | 14 => ("FrameProverModel", "refused", "[I", true)
  | 15 => ("FrameProverModel", "to", "[I", true)
  | 16 => ("FrameProverModel", "fairAt", "[I", true)
  | 17 => ("FrameProverModel", "isBad", "[Z", true)
  | 18 => ("FrameProverModel", "isTabled", "Z", false)
  | 19 => ("FrameProverModel", "run", "I", false)
  | 20 => ("FrameProverModel", "masks", "[I", true)
  | 21 => ("FrameProverModel", "keeps", "[I", true)
  | 22 => ("FrameProverModel", "clauses", "[I", true)
  | 23 => ("FrameProverModel", "frames", "I", false)
  | 24 => ("FrameProverModel", "ended", "I", false)
  | 25 => ("FrameProverModel", "looks", "I", false)
  | 26 => ("FrameProverModel", "troubles", "I", false)
  | 27 => ("FrameProverModel", "troubleState", "[I", true)
  | 28 => ("FrameProverModel", "troubleFrame", "[I", true)
  | 29 => ("FrameProverModel", "wallMask", "[I", true)
  | 30 => ("FrameProverModel", "wallKeeps", "[I", true)
  | 31 => ("FrameProverModel", "wall", "I", false)
  | 32 => ("FrameProverModel", "wayStates", "[I", true)
  | 33 => ("FrameProverModel", "way", "I", false)
  | 34 => ("FrameProverModel", "far", "[I", true)
  | 35 => ("FrameProverModel", "hung", "[Z", true)
  | 36 => ("FrameProverModel", "comesTo", "[Z", true)
  | 37 => ("FrameProverModel", "listMask", "[I", true)
  | 38 => ("FrameProverModel", "listKeeps", "[I", true)
  | 39 => ("FrameProverModel", "listed", "I", false)
  | 40 => ("FrameProverModel", "failed", "I", false)
  | 41 => ("FrameProverModel", "failedTo", "I", false)
  | 42 => ("FrameProverModel", "judgedState", "I", false)
  | 43 => ("FrameProverModel", "judgedTo", "I", false)
  | 44 => ("FrameProverModel", "row", "[I", true)
  | 45 => ("FrameProverModel", "moved", "[I", true)
  | _ => ("FrameProverModel", "rowSize", "I", false)
def tyX10 : Nat → FieldType := fun k => match k with
  | 0 => .array .int
  | 1 => .array .int
  | 2 => .array .int
  | 3 => .array .int
  | 4 => .array .boolean
  | 5 => .int
  | 6 => .int
  | 7 => .int
  | 8 => .int
  | 9 => .int
  | 10 => .int
  | 11 => .int
  | 12 => .array .int
  | 13 => .array .int
  | 14 => .array .int
  | 15 => .array .int
  | 16 => .array .int
  | 17 => .array .boolean
  | 18 => .boolean
  | 19 => .int
  | 20 => .array .int
  | 21 => .array .int
  | 22 => .array .int
  | 23 => .int
  | 24 => .int
  | 25 => .int
  | 26 => .int
  | 27 => .array .int
  | 28 => .array .int
  | 29 => .array .int
  | 30 => .array .int
  | 31 => .int
  | 32 => .array .int
  | 33 => .int
  | 34 => .array .int
  | 35 => .array .boolean
  | 36 => .array .boolean
  | 37 => .array .int
  | 38 => .array .int
  | 39 => .int
  | 40 => .int
  | 41 => .int
  | 42 => .int
  | 43 => .int
  | 44 => .array .int
  | 45 => .array .int
  | _ => .int
abbrev wsX100 : List Cond := u_ws RX10 TX10 47
theorem nmX10 : ∀ a, a < 47 → ∀ b, b < 47 → a ≠ b → (TX10 a).2.1 ≠ (TX10 b).2.1 := by decide +kernel
theorem tyX10_ok : ∀ k, k < 47 → parseFieldDescriptor (TX10 k).2.2.1 = some (tyX10 k) := by decide +kernel
abbrev cX10_init : ByteArray := prog_12_method_1_code
def yX10_init : MethodName := ⟨RX10, "<init>", "()V"⟩
abbrev cX10_isIn : ByteArray := prog_12_method_2_code
def yX10_isIn : MethodName := ⟨RX10, "isIn", "(JJJ)Z"⟩
abbrev cX10_no : ByteArray := prog_12_method_3_code
def yX10_no : MethodName := ⟨RX10, "no", "(I)I"⟩
abbrev cX10_states : ByteArray := prog_12_method_4_code
def yX10_states : MethodName := ⟨RX10, "states", "()I"⟩
abbrev cX10_ways : ByteArray := prog_12_method_5_code
def yX10_ways : MethodName := ⟨RX10, "ways", "()I"⟩
abbrev cX10_isSign : ByteArray := prog_12_method_6_code
def yX10_isSign : MethodName := ⟨RX10, "isSign", "(I)Z"⟩
abbrev cX10_adds : ByteArray := prog_12_method_7_code
def yX10_adds : MethodName := ⟨RX10, "adds", "(III)I"⟩
abbrev cX10_bit : ByteArray := prog_12_method_8_code
def yX10_bit : MethodName := ⟨RX10, "bit", "(ZZ)I"⟩
abbrev cX10_input : ByteArray := prog_12_method_9_code
def yX10_input : MethodName := ⟨RX10, "input", "()I"⟩
abbrev cX10_gate : ByteArray := prog_12_method_10_code
def yX10_gate : MethodName := ⟨RX10, "gate", "(II)I"⟩
abbrev cX10_next : ByteArray := prog_12_method_11_code
def yX10_next : MethodName := ⟨RX10, "next", "(II)I"⟩
abbrev cX10_bad : ByteArray := prog_12_method_12_code
def yX10_bad : MethodName := ⟨RX10, "bad", "(I)I"⟩
abbrev cX10_assume : ByteArray := prog_12_method_13_code
def yX10_assume : MethodName := ⟨RX10, "assume", "(I)I"⟩
abbrev cX10_fair : ByteArray := prog_12_method_14_code
def yX10_fair : MethodName := ⟨RX10, "fair", "(I)I"⟩
abbrev cX10_part : ByteArray := prog_12_method_15_code
def yX10_part : MethodName := ⟨RX10, "part", "(II)I"⟩
abbrev cX10_sorted : ByteArray := prog_12_method_16_code
def yX10_sorted : MethodName := ⟨RX10, "sorted", "(I)I"⟩
abbrev cX10_count : ByteArray := prog_12_method_17_code
def yX10_count : MethodName := ⟨RX10, "count", "(I)I"⟩
abbrev cX10_is : ByteArray := prog_12_method_18_code
def yX10_is : MethodName := ⟨RX10, "is", "(I)Z"⟩
abbrev cX10_show : ByteArray := prog_12_method_19_code
def yX10_show : MethodName := ⟨RX10, "show", "(II)V"⟩
abbrev cX10_isRight : ByteArray := prog_12_method_20_code
def yX10_isRight : MethodName := ⟨RX10, "isRight", "()Z"⟩
abbrev cX10_comes : ByteArray := prog_12_method_21_code
def yX10_comes : MethodName := ⟨RX10, "comes", "()I"⟩
abbrev cX10_table : ByteArray := prog_12_method_22_code
def yX10_table : MethodName := ⟨RX10, "table", "()V"⟩
abbrev cX10_isBadState : ByteArray := prog_12_method_23_code
def yX10_isBadState : MethodName := ⟨RX10, "isBadState", "(I)Z"⟩
abbrev cX10_leads : ByteArray := prog_12_method_24_code
def yX10_leads : MethodName := ⟨RX10, "leads", "(II)Z"⟩
abbrev cX10_start : ByteArray := prog_12_method_25_code
def yX10_start : MethodName := ⟨RX10, "start", "()I"⟩
abbrev cX10_step : ByteArray := prog_12_method_26_code
def yX10_step : MethodName := ⟨RX10, "step", "(I)I"⟩
abbrev cX10_value : ByteArray := prog_12_method_27_code
def yX10_value : MethodName := ⟨RX10, "value", "(II)I"⟩
abbrev cX10_isState : ByteArray := prog_12_method_28_code
def yX10_isState : MethodName := ⟨RX10, "isState", "(I)Z"⟩
abbrev cX10_at : ByteArray := prog_12_method_29_code
def yX10_at : MethodName := ⟨RX10, "at", "(III)I"⟩
abbrev cX10_changes : ByteArray := prog_12_method_30_code
def yX10_changes : MethodName := ⟨RX10, "changes", "()V"⟩
abbrev cX10_isInCube : ByteArray := prog_12_method_31_code
def yX10_isInCube : MethodName := ⟨RX10, "isInCube", "(III)Z"⟩
abbrev cX10_isInFrame : ByteArray := prog_12_method_32_code
def yX10_isInFrame : MethodName := ⟨RX10, "isInFrame", "(II)Z"⟩
abbrev cX10_leadsInto : ByteArray := prog_12_method_33_code
def yX10_leadsInto : MethodName := ⟨RX10, "leadsInto", "(III)Z"⟩
abbrev cX10_asked : ByteArray := prog_12_method_34_code
def yX10_asked : MethodName := ⟨RX10, "asked", "(III)I"⟩
abbrev cX10_widened : ByteArray := prog_12_method_35_code
def yX10_widened : MethodName := ⟨RX10, "widened", "(III)I"⟩
abbrev cX10_keep : ByteArray := prog_12_method_36_code
def yX10_keep : MethodName := ⟨RX10, "keep", "(III)V"⟩
abbrev cX10_meet : ByteArray := prog_12_method_37_code
def yX10_meet : MethodName := ⟨RX10, "meet", "(II)V"⟩
abbrev cX10_forerunner : ByteArray := prog_12_method_38_code
def yX10_forerunner : MethodName := ⟨RX10, "forerunner", "(II)I"⟩
abbrev cX10_tellWay : ByteArray := prog_12_method_39_code
def yX10_tellWay : MethodName := ⟨RX10, "tellWay", "()V"⟩
abbrev cX10_lookAt : ByteArray := prog_12_method_40_code
def yX10_lookAt : MethodName := ⟨RX10, "lookAt", "()V"⟩
abbrev cX10_has : ByteArray := prog_12_method_41_code
def yX10_has : MethodName := ⟨RX10, "has", "(III)Z"⟩
abbrev cX10_isShut : ByteArray := prog_12_method_42_code
def yX10_isShut : MethodName := ⟨RX10, "isShut", "(III)Z"⟩
abbrev cX10_push : ByteArray := prog_12_method_43_code
def yX10_push : MethodName := ⟨RX10, "push", "(I)V"⟩
abbrev cX10_hasAll : ByteArray := prog_12_method_44_code
def yX10_hasAll : MethodName := ⟨RX10, "hasAll", "(I)Z"⟩
abbrev cX10_pushAll : ByteArray := prog_12_method_45_code
def yX10_pushAll : MethodName := ⟨RX10, "pushAll", "()V"⟩
abbrev cX10_hasTrouble : ByteArray := prog_12_method_46_code
def yX10_hasTrouble : MethodName := ⟨RX10, "hasTrouble", "()Z"⟩
abbrev cX10_prove : ByteArray := prog_12_method_47_code
def yX10_prove : MethodName := ⟨RX10, "prove", "(I)I"⟩
abbrev cX10_frames : ByteArray := prog_12_method_48_code
def yX10_frames : MethodName := ⟨RX10, "frames", "()I"⟩
abbrev cX10_isFrame : ByteArray := prog_12_method_49_code
def yX10_isFrame : MethodName := ⟨RX10, "isFrame", "(I)Z"⟩
abbrev cX10_clauses : ByteArray := prog_12_method_50_code
def yX10_clauses : MethodName := ⟨RX10, "clauses", "(I)I"⟩
abbrev cX10_clause : ByteArray := prog_12_method_51_code
def yX10_clause : MethodName := ⟨RX10, "clause", "(IIZ)I"⟩
abbrev cX10_trouble : ByteArray := prog_12_method_52_code
def yX10_trouble : MethodName := ⟨RX10, "trouble", "(II)I"⟩
abbrev cX10_way : ByteArray := prog_12_method_53_code
def yX10_way : MethodName := ⟨RX10, "way", "()I"⟩
abbrev cX10_wayState : ByteArray := prog_12_method_54_code
def yX10_wayState : MethodName := ⟨RX10, "wayState", "(I)I"⟩
abbrev cX10_wayChoice : ByteArray := prog_12_method_55_code
def yX10_wayChoice : MethodName := ⟨RX10, "wayChoice", "(I)I"⟩
abbrev cX10_isCube : ByteArray := prog_12_method_56_code
def yX10_isCube : MethodName := ⟨RX10, "isCube", "(II)Z"⟩
abbrev cX10_ask : ByteArray := prog_12_method_57_code
def yX10_ask : MethodName := ⟨RX10, "ask", "(III)I"⟩
abbrev cX10_widen : ByteArray := prog_12_method_58_code
def yX10_widen : MethodName := ⟨RX10, "widen", "(III)I"⟩
abbrev cX10_findFar : ByteArray := prog_12_method_59_code
def yX10_findFar : MethodName := ⟨RX10, "findFar", "(I)V"⟩
abbrev cX10_shortest : ByteArray := prog_12_method_60_code
def yX10_shortest : MethodName := ⟨RX10, "shortest", "()I"⟩
abbrev cX10_within : ByteArray := prog_12_method_61_code
def yX10_within : MethodName := ⟨RX10, "within", "(I)I"⟩
abbrev cX10_keeps : ByteArray := prog_12_method_62_code
def yX10_keeps : MethodName := ⟨RX10, "keeps", "(I)I"⟩
abbrev cX10_cone : ByteArray := prog_12_method_63_code
def yX10_cone : MethodName := ⟨RX10, "cone", "()I"⟩
abbrev cX10_findComes : ByteArray := prog_12_method_64_code
def yX10_findComes : MethodName := ⟨RX10, "findComes", "()V"⟩
abbrev cX10_fairAround : ByteArray := prog_12_method_65_code
def yX10_fairAround : MethodName := ⟨RX10, "fairAround", "(I)I"⟩
abbrev cX10_live : ByteArray := prog_12_method_66_code
def yX10_live : MethodName := ⟨RX10, "live", "()I"⟩
abbrev cX10_take : ByteArray := prog_12_method_67_code
def yX10_take : MethodName := ⟨RX10, "take", "()I"⟩
abbrev cX10_list : ByteArray := prog_12_method_68_code
def yX10_list : MethodName := ⟨RX10, "list", "(II)I"⟩
abbrev cX10_forge : ByteArray := prog_12_method_69_code
def yX10_forge : MethodName := ⟨RX10, "forge", "(IIZ)I"⟩
abbrev cX10_clear : ByteArray := prog_12_method_70_code
def yX10_clear : MethodName := ⟨RX10, "clear", "()I"⟩
abbrev cX10_isLeft : ByteArray := prog_12_method_71_code
def yX10_isLeft : MethodName := ⟨RX10, "isLeft", "(II)Z"⟩
abbrev cX10_judged : ByteArray := prog_12_method_72_code
def yX10_judged : MethodName := ⟨RX10, "judged", "(I)I"⟩
abbrev cX10_judge : ByteArray := prog_12_method_73_code
def yX10_judge : MethodName := ⟨RX10, "judge", "()I"⟩
abbrev cX10_fails : ByteArray := prog_12_method_74_code
def yX10_fails : MethodName := ⟨RX10, "fails", "(I)I"⟩
abbrev cX10_small : ByteArray := prog_12_method_75_code
def yX10_small : MethodName := ⟨RX10, "small", "()I"⟩
abbrev cX10_listed : ByteArray := prog_12_method_76_code
def yX10_listed : MethodName := ⟨RX10, "listed", "(IZ)I"⟩
abbrev cX10_lay : ByteArray := prog_12_method_77_code
def yX10_lay : MethodName := ⟨RX10, "lay", "(II)I"⟩
abbrev cX10_tear : ByteArray := prog_12_method_78_code
def yX10_tear : MethodName := ⟨RX10, "tear", "()I"⟩
abbrev cX10_row : ByteArray := prog_12_method_79_code
def yX10_row : MethodName := ⟨RX10, "row", "(I)I"⟩
abbrev cX10_copy : ByteArray := prog_12_method_80_code
def yX10_copy : MethodName := ⟨RX10, "copy", "(III)I"⟩
abbrev cX10_status : ByteArray := prog_12_method_81_code
def yX10_status : MethodName := ⟨RX10, "status", "(I)I"⟩
def RJ13 : String := "java/lang/Long"
def TJ13 : u_T := fun k => match k with
  | _ => ("", "", "", false)
def tyJ13 : Nat → FieldType := fun k => match k with
  | _ => .int
abbrev wsJ130 : List Cond := u_ws RJ13 TJ13 0
theorem nmJ13 : ∀ a, a < 0 → ∀ b, b < 0 → a ≠ b → (TJ13 a).2.1 ≠ (TJ13 b).2.1 := by decide +kernel
theorem tyJ13_ok : ∀ k, k < 0 → parseFieldDescriptor (TJ13 k).2.2.1 = some (tyJ13 k) := by decide +kernel
abbrev cJ13_bitCount_95d88 : ByteArray := prog_13_method_50_code
def yJ13_bitCount_95d88 : MethodName := ⟨RJ13, "bitCount", "(J)I"⟩
def RJ9 : String := "java/lang/Math"
def TJ9 : u_T := fun k => match k with
  | _ => ("", "", "", false)
def tyJ9 : Nat → FieldType := fun k => match k with
  | _ => .int
abbrev wsJ90 : List Cond := u_ws RJ9 TJ9 0
theorem nmJ9 : ∀ a, a < 0 → ∀ b, b < 0 → a ≠ b → (TJ9 a).2.1 ≠ (TJ9 b).2.1 := by decide +kernel
theorem tyJ9_ok : ∀ k, k < 0 → parseFieldDescriptor (TJ9 k).2.2.1 = some (tyJ9 k) := by decide +kernel
abbrev cJ9_max_7cf53 : ByteArray := prog_14_method_65_code
def yJ9_max_7cf53 : MethodName := ⟨RJ9, "max", "(II)I"⟩
abbrev cJ9_min_7cf53 : ByteArray := prog_14_method_69_code
def yJ9_min_7cf53 : MethodName := ⟨RJ9, "min", "(II)I"⟩
def RJ10 : String := "java/lang/System"
def TJ10 : u_T := fun k => match k with
  | _ => ("", "", "", false)
def tyJ10 : Nat → FieldType := fun k => match k with
  | _ => .int
abbrev wsJ100 : List Cond := u_ws RJ10 TJ10 0
theorem nmJ10 : ∀ a, a < 0 → ∀ b, b < 0 → a ≠ b → (TJ10 a).2.1 ≠ (TJ10 b).2.1 := by decide +kernel
theorem tyJ10_ok : ∀ k, k < 0 → parseFieldDescriptor (TJ10 k).2.2.1 = some (tyJ10 k) := by decide +kernel
def RL : String := "FrameProverLaw"
abbrev cL_law : ByteArray := code
def yL_law : MethodName := ⟨RL, "law", "([I)Z"⟩
abbrev vwCl : List vw_C := [(RX0, TX0, 4), (RX1, TX1, 6), (RX2, TX2, 5), (RX3, TX3, 14), (RX4, TX4, 10), (RX5, TX5, 3), (RX6, TX6, 2), (RX7, TX7, 1), (RX8, TX8, 11), (RX9, TX9, 9), (RX10, TX10, 47)]
end
section
/-! the words that every method's contract stands on: one list for all -/
def big : List Cond := lw_tbl.filter goodWord
theorem big_in {w : Cond} (i : Nat) (h : lw_tbl[i]? = some w) (g : goodWord w = true) : w ∈ big := List.mem_filter.mpr ⟨List.mem_of_getElem? h, g⟩
theorem big_inL {ws : List Cond} (ps : List Nat) (h : ws = ps.filterMap (fun i => lw_tbl[i]?)) (g : ws.all goodWord = true) : ∀ w ∈ ws, w ∈ big := by
  intro w hw
  have h1 := List.all_eq_true.mp g w hw
  rw [h] at hw
  obtain ⟨i, -, hi⟩ := List.mem_filterMap.mp hw
  exact big_in i hi h1
theorem big_good {y : MethodName} {cc : ByteArray} {maxL : Nat} {ret : Option FieldType} {y2 : MethodName} {c2 : ByteArray} {m2 : Nat} {r2 : Option FieldType} (h : Cond.code y2 c2 m2 r2 ∈ big) : GoodIn (Cond.code y cc maxL ret :: big) (Cond.code y2 c2 m2 r2 :: big) := by
  intro w hw
  have hb : w ∈ big := by
    rcases List.mem_cons.mp hw with e | e
    · rw [e]; exact h
    · exact e
  exact ⟨List.mem_cons_of_mem _ hb, good_of_word (List.mem_filter.mp hb).2⟩

theorem lay0 : ∀ w ∈ u_ws RX0 TX0 4, w ∈ big := big_inL [247, 249, 251, 253] (by decide +kernel) (by decide +kernel)
theorem lay1 : ∀ w ∈ u_ws RX1 TX1 6, w ∈ big := big_inL [264, 266, 268, 270, 272, 274] (by decide +kernel) (by decide +kernel)
theorem lay2 : ∀ w ∈ u_ws RX2 TX2 5, w ∈ big := big_inL [332, 334, 336, 338, 340] (by decide +kernel) (by decide +kernel)
theorem lay3 : ∀ w ∈ u_ws RX3 TX3 14, w ∈ big := big_inL [136, 138, 140, 142, 144, 146, 148, 150, 152, 154, 156, 158, 160, 162] (by decide +kernel) (by decide +kernel)
theorem lay4 : ∀ w ∈ u_ws RX4 TX4 10, w ∈ big := big_inL [296, 298, 300, 302, 304, 306, 308, 310, 312, 314] (by decide +kernel) (by decide +kernel)
theorem lay5 : ∀ w ∈ u_ws RX5 TX5 3, w ∈ big := big_inL [354, 356, 358] (by decide +kernel) (by decide +kernel)
theorem lay6 : ∀ w ∈ u_ws RX6 TX6 2, w ∈ big := big_inL [101, 103] (by decide +kernel) (by decide +kernel)
theorem lay7 : ∀ w ∈ u_ws RX7 TX7 1, w ∈ big := big_inL [179] (by decide +kernel) (by decide +kernel)
theorem lay8 : ∀ w ∈ u_ws RX8 TX8 11, w ∈ big := big_inL [197, 199, 201, 203, 205, 207, 209, 211, 213, 215, 217] (by decide +kernel) (by decide +kernel)
theorem lay9 : ∀ w ∈ u_ws RX9 TX9 9, w ∈ big := big_inL [410, 412, 414, 416, 418, 420, 422, 424, 426] (by decide +kernel) (by decide +kernel)
theorem lay10 : ∀ w ∈ u_ws RX10 TX10 47, w ∈ big := big_inL [1130, 1132, 1134, 1136, 1138, 1140, 1142, 1144, 1146, 1148, 1150, 1152, 1154, 1156, 1158, 1160, 1162, 1164, 1166, 1168, 1170, 1172, 1174, 1176, 1178, 1180, 1182, 1184, 1186, 1188, 1190, 1192, 1194, 1196, 1198, 1200, 1202, 1204, 1206, 1208, 1210, 1212, 1214, 1216, 1218, 1220, 1222] (by decide +kernel) (by decide +kernel)
def nestW : List Cond := [(Jvm.Cond.methodLinkNest "FrameProver" (9 : Nat) ({ cls := "FrameProver$Machine", name := "<init>", desc := "()V" } : Jvm.MethodName) "FrameProver"), (Jvm.Cond.methodLinkNest "FrameProver$Steps" (20 : Nat) ({ cls := "FrameProver$StateSet", name := "<init>", desc := "()V" } : Jvm.MethodName) "FrameProver"), (Jvm.Cond.methodLinkNest "FrameProver$Clauses" (9 : Nat) ({ cls := "FrameProver$StateSet", name := "<init>", desc := "()V" } : Jvm.MethodName) "FrameProver"), (Jvm.Cond.methodLinkNest "FrameProver$Frames" (26 : Nat) ({ cls := "FrameProver$StateSet", name := "<init>", desc := "()V" } : Jvm.MethodName) "FrameProver"), (Jvm.Cond.methodLinkNest "FrameProver" (63 : Nat) ({ cls := "FrameProver$Row", name := "<init>", desc := "()V" } : Jvm.MethodName) "FrameProver"), (Jvm.Cond.methodLinkNest "FrameProver$StateSet" (24 : Nat) ({ cls := "FrameProver", name := "maskOf", desc := "(I)I" } : Jvm.MethodName) "FrameProver"), (Jvm.Cond.methodLinkNest "FrameProver$StateSet" (28 : Nat) ({ cls := "FrameProver", name := "valuesOf", desc := "(I)I" } : Jvm.MethodName) "FrameProver"), (Jvm.Cond.methodLinkNest "FrameProver$Proof" (103 : Nat) ({ cls := "FrameProver", name := "cubeOf", desc := "(II)I" } : Jvm.MethodName) "FrameProver"), (Jvm.Cond.methodLinkNest "FrameProver$Frames" (72 : Nat) ({ cls := "FrameProver", name := "isInCube", desc := "(II)Z" } : Jvm.MethodName) "FrameProver"), (Jvm.Cond.methodLinkNest "FrameProver$Frames" (93 : Nat) ({ cls := "FrameProver", name := "maskOf", desc := "(I)I" } : Jvm.MethodName) "FrameProver"), (Jvm.Cond.methodLinkNest "FrameProver$Frames" (97 : Nat) ({ cls := "FrameProver", name := "valuesOf", desc := "(I)I" } : Jvm.MethodName) "FrameProver"), (Jvm.Cond.methodLinkNest "FrameProver$Frames" (100 : Nat) ({ cls := "FrameProver", name := "cubeOf", desc := "(II)I" } : Jvm.MethodName) "FrameProver")]
theorem nestW_in : ∀ w ∈ nestW, w ∈ lw_tbl := by
  intro w hw
  have h : nestW = ([83, 174, 234, 257, 345, 670, 673, 708, 720, 734, 735, 736].filterMap (fun i => lw_tbl[i]?)) := by decide +kernel
  rw [h] at hw
  obtain ⟨i, -, hi⟩ := List.mem_filterMap.mp hw
  exact List.mem_of_getElem? hi
end
section
/-! THE WORLD: cells by numbers (ids), which never change their shape; a state is what they hold -/
abbrev Sg : Type := (Nat → Nat → Int32) × (Nat → Nat → Int64)
def gI (σ : Sg) (a k : Nat) : Int32 := σ.1 a k
def gL (σ : Sg) (a k : Nat) : Int64 := σ.2 a k
def sI (σ : Sg) (a k : Nat) (v : Int32) : Sg := (fun x y => if x = a ∧ y = k then v else σ.1 x y, σ.2)
def sL (σ : Sg) (a k : Nat) (v : Int64) : Sg := (σ.1, fun x y => if x = a ∧ y = k then v else σ.2 x y)
/-- a shape: kinds (0 .. 10 objects of a class, 20 int row, 21 boolean row, 22 long row, 23, 24 rows of references, 25, 26 the two constant rows), lengths, references, how many -/
abbrev Wd : Type := (Nat → Nat) × (Nat → Nat) × (Nat → Nat → Nat) × Nat
def wK (w : Wd) (i : Nat) : Nat := w.1 i
def wN (w : Wd) (i : Nat) : Nat := w.2.1 i
def wR (w : Wd) (i k : Nat) : Nat := w.2.2.1 i k
def wS (w : Wd) : Nat := w.2.2.2
def isK (w : Wd) (i c : Nat) : Bool := Nat.beq (wK w i) c && Nat.blt i (wS w)
theorem isK_1 {w : Wd} {i c : Nat} (h : isK w i c = true) : wK w i = c := by
  simp only [isK, Bool.and_eq_true] at h
  exact Nat.eq_of_beq_eq_true h.1
theorem isK_2 {w : Wd} {i c : Nat} (h : isK w i c = true) : i < wS w := by
  simp only [isK, Bool.and_eq_true, Nat.blt_eq] at h
  exact h.2
def vr (ad : Nat → Nat) (v : Value) : Value := match v with
  | .ref a => .ref (ad a)
  | v => v
theorem vr_cat (ad : Nat → Nat) (v : Value) : (vr ad v).category = v.category := by cases v <;> rfl
def fty (ci k : Nat) : FieldType := match ci with
  | 0 => tyX0 k
  | 1 => tyX1 k
  | 2 => tyX2 k
  | 3 => tyX3 k
  | 4 => tyX4 k
  | 5 => tyX5 k
  | 6 => tyX6 k
  | 7 => tyX7 k
  | 8 => tyX8 k
  | 9 => tyX9 k
  | _ => tyX10 k
def ffin (ci k : Nat) : Bool := match ci with
  | 0 => (TX0 k).2.2.2
  | 1 => (TX1 k).2.2.2
  | 2 => (TX2 k).2.2.2
  | 3 => (TX3 k).2.2.2
  | 4 => (TX4 k).2.2.2
  | 5 => (TX5 k).2.2.2
  | 6 => (TX6 k).2.2.2
  | 7 => (TX7 k).2.2.2
  | 8 => (TX8 k).2.2.2
  | 9 => (TX9 k).2.2.2
  | _ => (TX10 k).2.2.2
/-- a field's value -/
def cV (w : Wd) (σ : Sg) (ty : FieldType) (i k : Nat) : Value := match ty with
  | .int => .int (gI σ i k)
  | .boolean => .int (gI σ i k)
  | _ => .ref (wR w i k)
/-- a place of a row -/
def aV (w : Wd) (σ : Sg) (c i j : Nat) : Value := match c with
  | 20 => .int (gI σ i j)
  | 21 => .int (gI σ i j)
  | 22 => .long (gL σ i j)
  | _ => .ref (wR w i j)
def wC (D : va_G) (aC : Nat → ClassId) (w : Wd) (ad : Nat → Nat) (σ : Sg) (i : Nat) (H : Heap) : Prop :=
  (wK w i < 11 → ∃ r : vw_C, vwCl[wK w i]? = some r ∧ t_OB (ad i) (D.1 (wK w i)) r.2.2 (D.2 (wK w i)) H (fun k => vr ad (cV w σ (fty (wK w i) k) i k))) ∧
  (20 ≤ wK w i → wK w i ≤ 24 → H[ad i]? = some (arrV (aC (wK w i)) (wN w i) (fun j => vr ad (aV w σ (wK w i) i j))))
def Pic (D : va_G) (aC : Nat → ClassId) (w : Wd) (ad : Nat → Nat) (σ : Sg) (H : Heap) : Prop := ∀ i, i < wS w → wC D aC w ad σ i H
def AW (w : Wd) (ad : Nat → Nat) : Nat → Prop := fun q => ∃ i, i < wS w ∧ q = ad i
def tysA (aC : Nat → ClassId) : List (ClassId × FieldType) := [(aC 20, .int), (aC 21, .boolean), (aC 22, .long), (aC 23, .object "FrameProver$StateSet"), (aC 24, .object "FrameProver$Clauses")]
def inpL (j : Nat) : Int32 := match j with
  | 0 => 43690
  | 1 => 52428
  | 2 => 61680
  | _ => 65280
def onesL (j : Nat) : Int64 := match j with
  | 0 => -6148914691236517206
  | 1 => -3689348814741910324
  | 2 => -1085102592571150096
  | 3 => -71777214294589696
  | 4 => -281470681808896
  | _ => -4294967296
def KK (D : va_G) (aC : Nat → ClassId) (ad : Nat → Nat) (A : Nat → Prop) (U : State) (H : Heap) : Prop :=
  va_K D vwCl (tysA aC) U ∧ (∀ x ∈ nestW, va_Nw x U) ∧
  (va_Z "FrameProver$Machine" "INPUT_LANES" "[I" (.ref (ad 1000000)) A U H ∧ va_T .int (ad 1000000) 4 (fun j => .int (inpL j)) A U H) ∧
  (va_Z "FrameProver$StateSet" "ONES" "[J" (.ref (ad 1000001)) A U H ∧ va_T .long (ad 1000001) 6 (fun j => .long (onesL j)) A U H)
theorem nestW_is : ∀ x ∈ nestW, ∃ a i y h, x = Cond.methodLinkNest a i y h := by
  intro x hx
  simp only [nestW, List.mem_cons, List.not_mem_nil, or_false] at hx
  rcases hx with rfl | rfl | rfl | rfl | rfl | rfl | rfl | rfl | rfl | rfl | rfl | rfl <;> exact ⟨_, _, _, _, rfl⟩
theorem KK.to {D : va_G} {aC : Nat → ClassId} {ad : Nat → Nat} {A : Nat → Prop} {s U : State} {H : Heap} {locs : List Loc} (h : KK D aC ad A s s.heap) (hS : va_S A s.heap H locs) (hU : U.heap = H) (hW : s.WarmedH U.vm) : KK D aC ad A U U.heap := by
  obtain ⟨h1, h2, ⟨h3, h4⟩, h5, h6⟩ := h
  subst hU
  refine ⟨va_K.moved hW.alike h1, fun x hx => ?_, ⟨(h3.kept hS.2.1).moved hW.alike, (h4.kept hS.2.1).moved hW.alike⟩, (h5.kept hS.2.1).moved hW.alike, (h6.kept hS.2.1).moved hW.alike⟩
  obtain ⟨a, i, y, hh, rfl⟩ := nestW_is x hx
  exact va_Nw.warmM hW (h2 _ hx)
theorem KK.blind {D : va_G} {aC : Nat → ClassId} {ad : Nat → Nat} {A : Nat → Prop} {U : State} (g : JFrame) (mk : MethodId) (a : Array Value) (h : KK D aC ad A U U.heap) : KK D aC ad A (U.calling g mk a) (U.calling g mk a).heap := by
  obtain ⟨h1, h2, ⟨h3, h4⟩, h5, h6⟩ := h
  refine ⟨va_K.moved (u := U) (U := U.calling g mk a) (Vm.Alike.refl U.vm) h1, fun x hx => ?_, ⟨h3.moved (u := U) (U := U.calling g mk a) (Vm.Alike.refl U.vm), h4.moved (u := U) (U := U.calling g mk a) (Vm.Alike.refl U.vm)⟩, h5.moved (u := U) (U := U.calling g mk a) (Vm.Alike.refl U.vm), h6.moved (u := U) (U := U.calling g mk a) (Vm.Alike.refl U.vm)⟩
  obtain ⟨b, i, y, hh, rfl⟩ := nestW_is x hx
  exact va_Nw.same rfl (u := U) (U := U.calling g mk a) rfl (h2 _ hx)
theorem sI_1 (σ : Sg) {a i : Nat} (h : i ≠ a) (k j : Nat) (v : Int32) : gI (sI σ a k v) i j = gI σ i j := by simp [gI, sI, h]
theorem sI_2 (σ : Sg) (a k i j : Nat) (v : Int32) : gL (sI σ a k v) i j = gL σ i j := rfl
theorem sL_1 (σ : Sg) (a k i j : Nat) (v : Int64) : gI (sL σ a k v) i j = gI σ i j := rfl
theorem sL_2 (σ : Sg) {a i : Nat} (h : i ≠ a) (k j : Nat) (v : Int64) : gL (sL σ a k v) i j = gL σ i j := by simp [gL, sL, h]
theorem cV_eq {w : Wd} {σ τ : Sg} {ty : FieldType} {i k : Nat} (h : gI τ i k = gI σ i k) : cV w τ ty i k = cV w σ ty i k := by
  cases ty <;> simp [cV, h]
theorem aV_eq {w : Wd} {σ τ : Sg} {c i j : Nat} (h : gI τ i j = gI σ i j) (h2 : gL τ i j = gL σ i j) : aV w τ c i j = aV w σ c i j := by
  unfold aV
  rw [h, h2]
theorem wC_kept {D : va_G} {aC : Nat → ClassId} {w : Wd} {ad : Nat → Nat} {σ τ : Sg} {i : Nat} {H H1 : Heap} (h : wC D aC w ad σ i H) (hH : H1[ad i]? = H[ad i]?) (hI : ∀ k, gI τ i k = gI σ i k) (hL : ∀ k, gL τ i k = gL σ i k) : wC D aC w ad τ i H1 := by
  refine ⟨fun hk => ?_, fun h1 h2 => ?_⟩
  · obtain ⟨r, e1, e2⟩ := h.1 hk
    exact ⟨r, e1, (e2.kept hH).to (fun k _ => by rw [cV_eq (hI k)])⟩
  · rw [hH, h.2 h1 h2]
    congr 2
    funext j
    rw [aV_eq (hI j) (hL j)]
theorem Pic.put {D : va_G} {aC : Nat → ClassId} {w : Wd} {ad : Nat → Nat} {σ τ : Sg} {i : Nat} {H H1 : Heap} (hP : Pic D aC w ad σ H) (hj : ∀ a b, a < wS w → b < wS w → ad a = ad b → a = b) (hi : i < wS w) (oq : ∀ q : Nat, q ≠ ad i → H1[q]? = H[q]?) (hc : wC D aC w ad τ i H1) (hI : ∀ a, a ≠ i → ∀ k, gI τ a k = gI σ a k) (hL : ∀ a, a ≠ i → ∀ k, gL τ a k = gL σ a k) : Pic D aC w ad τ H1 := by
  intro a ha
  by_cases e : a = i
  · rw [e]; exact hc
  · exact wC_kept (hP a ha) (oq _ (fun z => e (hj a i ha hi z))) (hI a e) (hL a e)
theorem Pic.kept {D : va_G} {aC : Nat → ClassId} {w : Wd} {ad : Nat → Nat} {σ : Sg} {H H1 : Heap} (hP : Pic D aC w ad σ H) (hq : ∀ q, AW w ad q → H1[q]? = H[q]?) : Pic D aC w ad σ H1 := fun a ha => wC_kept (hP a ha) (hq _ ⟨a, ha, rfl⟩) (fun _ => rfl) (fun _ => rfl)
def nz (x : Int32) : Prop := x = 0 ∨ x = 1
theorem nz_0 : nz 0 := Or.inl rfl
theorem nz_1 : nz 1 := Or.inr rfl
/-- what a pool entry of a field says -/
def ftOK (own : String) (idx ci k : Nat) : Prop := ∃ (C : String) (T : u_T) (N : Nat), vwCl[ci]? = some (C, T, N) ∧ ci < 11 ∧ k < N ∧ Cond.fieldLink own idx C (T k).2.1 (T k).2.2.1 ∈ big ∧ (T k).1 = C ∧ (∀ j, j < N → parseFieldDescriptor (T j).2.2.1 = some (fty ci j)) ∧ (∀ a, a < N → ∀ b, b < N → a ≠ b → (T a).2.1 ≠ (T b).2.1) ∧ (∀ x ∈ u_ws C T N, x ∈ big) ∧ (T k).2.2.2 = ffin ci k
section WROWS
variable {p : Program} {l : Launch} {e : Env} {R : Room} {s : State} {m : MethodId} {args : Array Value} {below : List Frame} {meth : Method} {c : Code} {H : Heap} {locs : List Loc} {cells slots : Nat} {Q : State → Prop}
variable {cc : ByteArray} {pc : Nat} {ls : Array Slot} {rest : List Value} {D : va_G} {aC : Nat → ClassId} {ad : Nat → Nat} {w : Wd} {σ : Sg} {i : Nat} {own : String}
theorem pw_get (hx : p.tables.exec = Jvm.exec) (hb : c.code = cc) (hts : ∀ x ∈ big, x.before args s = true) (hown : s.vm.findClass own = some m.cls) (hK : va_K D vwCl (tysA aC) s) (hP : Pic D aC w ad σ H) {idx ci k : Nat} (hf : ftOK own idx ci k) (hk : wK w i = ci) (hi : i < wS w) (hdg : decode cc pc = .ok (.getfield idx, 3))
    (kk : W p l e R s m args below meth c H locs cells slots Q (F0 m (pc + 3) ls (vr ad (cV w σ (fty ci k) i k) :: rest))) : W p l e R s m args below meth c H locs cells slots Q (F0 m pc ls (.ref (ad i) :: rest)) := by
  obtain ⟨C, T, N, hc, hci, hkN, hlink, hC, hty, hnm, hin, -⟩ := hf
  subst hk
  obtain ⟨r, h1, cell, q1, q2, q3, q4⟩ := (hP i hi).1 hci
  have hr : r = (C, T, N) := Option.some.inj (h1.symm.trans hc)
  subst hr
  obtain ⟨hS, hfc, kC, hkC, hkind⟩ := hK.1 _ _ hc
  obtain ⟨cf, kf, fi, f, hfi, hsl⟩ := hS k hkN
  have hfi' : s.fieldFound? C (T k).2.1 (T k).2.2.1 = some (cf, kf, fi, f) := by rw [← hfi, hC]
  refine W.getf hx hb hown (hts _ hlink) hfi' (u_facts hfc hkC (u_lays hts hin hkN) hfi).1 q1 (by rw [q3]; exact fun h => by cases h) (v := vr ad (cV w σ (fty (wK w i) k) i k)) ?_ rfl rfl hdg kk
  rw [hsl, q4 k hkN]
theorem pw_put (hx : p.tables.exec = Jvm.exec) (hb : c.code = cc) (hts : ∀ x ∈ big, x.before args s = true) (hown : s.vm.findClass own = some m.cls) (hK : va_K D vwCl (tysA aC) s) (hP : Pic D aC w ad σ H) (hj : ∀ a b, a < wS w → b < wS w → ad a = ad b → a = b) {H0 : Heap} (hS0 : va_S (AW w ad) H0 H locs) {idx ci k : Nat} (hf : ftOK own idx ci k) (hnf : ffin ci k = false) (hk : wK w i = ci) (hi : i < wS w) {x : Int32} (hty2 : fty ci k = .int ∨ (fty ci k = .boolean ∧ nz x)) (hdg : decode cc pc = .ok (.putfield idx, 3))
    (kk : ∀ (H1 : Heap) (locs1 : List Loc), Pic D aC w ad (sI σ i k x) H1 → va_S (AW w ad) H0 H1 locs1 → W p l e R s m args below meth c H1 locs1 cells slots Q (F0 m (pc + 3) ls rest)) : W p l e R s m args below meth c H locs cells slots Q (F0 m pc ls (.int x :: .ref (ad i) :: rest)) := by
  obtain ⟨C, T, N, hc, hci, hkN, hlink, hC, hty, hnm, hin, hfe⟩ := hf
  subst hk
  have hap := va_apart (own := own) (args := args) (tys := tysA aC) (D := D) (Ts := big) hts hin (fty (wK w i)) hty hnm hK hc
  obtain ⟨r, h1, cell, q1, q2, q3, q4⟩ := (hP i hi).1 hci
  have hr : r = (C, T, N) := Option.some.inj (h1.symm.trans hc)
  subst hr
  obtain ⟨hS, hfc, kC, hkC, hkind⟩ := hK.1 _ _ hc
  obtain ⟨cf, kf, fi, f, hfi, hsl⟩ := hS k hkN
  have hfi' : s.fieldFound? C (T k).2.1 (T k).2.2.1 = some (cf, kf, fi, f) := by rw [← hfi, hC]
  have hlay := hts _ (hin _ (u_in_lay hkN))
  unfold u_lay at hlay
  rw [if_neg (by rw [hfe, hnf]; decide)] at hlay
  have hst := (u_facts hfc hkC (u_lays hts hin hkN) hfi).1
  have h6 : k2_Sd s f (D.1 (wK w i)) (.int x) := by
    rcases hty2 with t | ⟨t, t2⟩
    · exact u_store hfc hkC hkind hlay hfi ((hty k hkN).trans (congrArg some t)) rfl rfl
    · rcases t2 with rfl | rfl <;> exact u_store hfc hkC hkind hlay hfi ((hty k hkN).trans (congrArg some t)) rfl rfl
  refine W.putK hx hb (f := f) ⟨hown, hts _ hlink, ⟨_, _, _, hfi'⟩, hst⟩ (by rw [q2]; exact h6) q1 q3 (by rw [hsl]; exact k2_hasslot (q4 k hkN)) rfl rfl hdg fun H' e1 e2 e3 => ?_
  rw [hsl] at e1 ⊢
  refine kk H' _ (hP.put hj hi e3 ⟨fun _ => ⟨_, hc, t_OB.to (V := updV (fun k => vr ad (cV w σ (fty (wK w i) k) i k)) k (.int x)) ⟨_, e1, q2, q3, t_set q4 hap hkN _⟩ (fun j _ => ?_)⟩, fun z => absurd z (by omega)⟩ (fun a ha j => sI_1 σ ha k j x) (fun a _ j => rfl)) (hS0.put e2 e3 ⟨i, hi, rfl⟩)
  by_cases hjk : j = k
  · subst hjk
    rcases hty2 with t | ⟨t, -⟩ <;> simp [updV, t, cV, gI, sI, vr]
  · have : gI (sI σ i k x) i j = gI σ i j := by simp [gI, sI, hjk]
    simp [updV, hjk, cV_eq this]
theorem pw_iald (hx : p.tables.exec = Jvm.exec) (hb : c.code = cc) (hK : va_K D vwCl (tysA aC) s) (hP : Pic D aC w ad σ H) (hk : isK w i 20 = true) {j : Int32} (hin : vp_in j (wN w i)) (hdg : decode cc pc = .ok (.iaload, 1))
    (kk : W p l e R s m args below meth c H locs cells slots Q (F0 m (pc + 1) ls (.int (gI σ i j.toNatClampNeg) :: rest))) : W p l e R s m args below meth c H locs cells slots Q (F0 m pc ls (.int j :: .ref (ad i) :: rest)) := by
  have hlt : j.toNatClampNeg < wN w i := Nat.not_le.mp fun q => hin (Or.inr q)
  have h1 := (hP i (isK_2 hk)).2 (by rw [isK_1 hk]; decide) (by rw [isK_1 hk]; decide)
  rw [isK_1 hk] at h1
  exact W.iald (v := .int (gI σ i j.toNatClampNeg)) hx hb h1 ((hK.2 0 _ rfl).1 _ _) (fun q => by cases q) (by rw [arrV_size]; exact hin) (by rw [arrV_read _ _ hlt]; rfl) rfl rfl hdg kk
theorem pw_zald (hx : p.tables.exec = Jvm.exec) (hb : c.code = cc) (hK : va_K D vwCl (tysA aC) s) (hP : Pic D aC w ad σ H) (hk : isK w i 21 = true) {j : Int32} (hin : vp_in j (wN w i)) (hdg : decode cc pc = .ok (.baload, 1))
    (kk : W p l e R s m args below meth c H locs cells slots Q (F0 m (pc + 1) ls (.int (gI σ i j.toNatClampNeg) :: rest))) : W p l e R s m args below meth c H locs cells slots Q (F0 m pc ls (.int j :: .ref (ad i) :: rest)) := by
  have hlt : j.toNatClampNeg < wN w i := Nat.not_le.mp fun q => hin (Or.inr q)
  have h1 := (hP i (isK_2 hk)).2 (by rw [isK_1 hk]; decide) (by rw [isK_1 hk]; decide)
  rw [isK_1 hk] at h1
  exact W.zald (v := .int (gI σ i j.toNatClampNeg)) hx hb h1 ((hK.2 1 _ rfl).1 _ _) (fun q => by cases q) (by rw [arrV_size]; exact hin) (by rw [arrV_read _ _ hlt]; rfl) rfl rfl hdg kk
theorem pw_lald (hx : p.tables.exec = Jvm.exec) (hb : c.code = cc) (hK : va_K D vwCl (tysA aC) s) (hP : Pic D aC w ad σ H) (hk : isK w i 22 = true) {j : Int32} (hin : vp_in j (wN w i)) (hdg : decode cc pc = .ok (.laload, 1))
    (kk : W p l e R s m args below meth c H locs cells slots Q (F0 m (pc + 1) ls (.long (gL σ i j.toNatClampNeg) :: rest))) : W p l e R s m args below meth c H locs cells slots Q (F0 m pc ls (.int j :: .ref (ad i) :: rest)) := by
  have hlt : j.toNatClampNeg < wN w i := Nat.not_le.mp fun q => hin (Or.inr q)
  have h1 := (hP i (isK_2 hk)).2 (by rw [isK_1 hk]; decide) (by rw [isK_1 hk]; decide)
  rw [isK_1 hk] at h1
  exact W.lald (v := .long (gL σ i j.toNatClampNeg)) hx hb h1 ((hK.2 2 _ rfl).1 _ _) (fun q => by cases q) (by rw [arrV_size]; exact hin) (by rw [arrV_read _ _ hlt]; rfl) rfl rfl hdg kk
theorem pw_aald3 (hx : p.tables.exec = Jvm.exec) (hb : c.code = cc) (hK : va_K D vwCl (tysA aC) s) (hP : Pic D aC w ad σ H) (hk : isK w i 23 = true) {j : Int32} (hin : vp_in j (wN w i)) (hdg : decode cc pc = .ok (.aaload, 1))
    (kk : W p l e R s m args below meth c H locs cells slots Q (F0 m (pc + 1) ls (.ref (ad (wR w i j.toNatClampNeg)) :: rest))) : W p l e R s m args below meth c H locs cells slots Q (F0 m pc ls (.int j :: .ref (ad i) :: rest)) := by
  have hlt : j.toNatClampNeg < wN w i := Nat.not_le.mp fun q => hin (Or.inr q)
  have h1 := (hP i (isK_2 hk)).2 (by rw [isK_1 hk]; decide) (by rw [isK_1 hk]; decide)
  rw [isK_1 hk] at h1
  exact W.aald (v := .ref (ad (wR w i j.toNatClampNeg))) (ty := .object "FrameProver$StateSet") hx hb h1 ((hK.2 3 _ rfl).1 _ _) rfl (fun q => by cases q) (by rw [arrV_size]; exact hin) (by rw [arrV_read _ _ hlt]; rfl) rfl rfl hdg kk
theorem pw_aald4 (hx : p.tables.exec = Jvm.exec) (hb : c.code = cc) (hK : va_K D vwCl (tysA aC) s) (hP : Pic D aC w ad σ H) (hk : isK w i 24 = true) {j : Int32} (hin : vp_in j (wN w i)) (hdg : decode cc pc = .ok (.aaload, 1))
    (kk : W p l e R s m args below meth c H locs cells slots Q (F0 m (pc + 1) ls (.ref (ad (wR w i j.toNatClampNeg)) :: rest))) : W p l e R s m args below meth c H locs cells slots Q (F0 m pc ls (.int j :: .ref (ad i) :: rest)) := by
  have hlt : j.toNatClampNeg < wN w i := Nat.not_le.mp fun q => hin (Or.inr q)
  have h1 := (hP i (isK_2 hk)).2 (by rw [isK_1 hk]; decide) (by rw [isK_1 hk]; decide)
  rw [isK_1 hk] at h1
  exact W.aald (v := .ref (ad (wR w i j.toNatClampNeg))) (ty := .object "FrameProver$Clauses") hx hb h1 ((hK.2 4 _ rfl).1 _ _) rfl (fun q => by cases q) (by rw [arrV_size]; exact hin) (by rw [arrV_read _ _ hlt]; rfl) rfl rfl hdg kk
theorem pw_alen (hx : p.tables.exec = Jvm.exec) (hb : c.code = cc) (hK : va_K D vwCl (tysA aC) s) (hP : Pic D aC w ad σ H) (h1 : 20 ≤ wK w i) (h2 : wK w i ≤ 24) (hi : i < wS w) (hdg : decode cc pc = .ok (.arraylength, 1))
    (kk : W p l e R s m args below meth c H locs cells slots Q (F0 m (pc + 1) ls (.int (nI (wN w i)) :: rest))) : W p l e R s m args below meth c H locs cells slots Q (F0 m pc ls (.ref (ad i) :: rest)) := by
  have h3 := (hP i hi).2 h1 h2
  have hk : wK w i = 20 ∨ wK w i = 21 ∨ wK w i = 22 ∨ wK w i = 23 ∨ wK w i = 24 := by omega
  rcases hk with hk | hk | hk | hk | hk <;> rw [hk] at h3
  · exact W.alen (n := Int32.ofNat (wN w i)) hx hb h3 ((hK.2 0 _ rfl).1 _ _) (by rw [arrV_size] <;> rfl) rfl rfl hdg kk
  · exact W.alen (n := Int32.ofNat (wN w i)) hx hb h3 ((hK.2 1 _ rfl).1 _ _) (by rw [arrV_size] <;> rfl) rfl rfl hdg kk
  · exact W.alen (n := Int32.ofNat (wN w i)) hx hb h3 ((hK.2 2 _ rfl).1 _ _) (by rw [arrV_size] <;> rfl) rfl rfl hdg kk
  · exact W.alen (n := Int32.ofNat (wN w i)) hx hb h3 ((hK.2 3 _ rfl).1 _ _) (by rw [arrV_size] <;> rfl) rfl rfl hdg kk
  · exact W.alen (n := Int32.ofNat (wN w i)) hx hb h3 ((hK.2 4 _ rfl).1 _ _) (by rw [arrV_size] <;> rfl) rfl rfl hdg kk
theorem pw_iast (hx : p.tables.exec = Jvm.exec) (hb : c.code = cc) (hK : va_K D vwCl (tysA aC) s) (hP : Pic D aC w ad σ H) (hj : ∀ a b, a < wS w → b < wS w → ad a = ad b → a = b) {H0 : Heap} (hS0 : va_S (AW w ad) H0 H locs) (hk : isK w i 20 = true) {j : Int32} {x : Int32} (hin : vp_in j (wN w i)) (hdg : decode cc pc = .ok (.iastore, 1))
    (kk : ∀ (H1 : Heap) (locs1 : List Loc), Pic D aC w ad (sI σ i j.toNatClampNeg x) H1 → va_S (AW w ad) H0 H1 locs1 → W p l e R s m args below meth c H1 locs1 cells slots Q (F0 m (pc + 1) ls rest)) : W p l e R s m args below meth c H locs cells slots Q (F0 m pc ls (.int x :: .int j :: .ref (ad i) :: rest)) := by
  have h1 := (hP i (isK_2 hk)).2 (by rw [isK_1 hk]; decide) (by rw [isK_1 hk]; decide)
  rw [isK_1 hk] at h1
  refine W.iast hx hb h1 ((hK.2 0 _ rfl).1 _ _) (fun q => by cases q) (by rw [arrV_size]; exact hin) rfl rfl hdg fun H1 e1 z oq => ?_
  refine kk H1 _ (hP.put hj (isK_2 hk) oq ⟨fun z => absurd z (by rw [isK_1 hk]; decide), fun _ _ => ?_⟩ (fun a ha k => sI_1 σ ha _ k _) (fun a ha k => rfl)) (hS0.put z oq ⟨i, isK_2 hk, rfl⟩)
  rw [e1, isK_1 hk, arrV_store]
  congr 2
  funext q
  by_cases hq : q = j.toNatClampNeg
  · subst hq
    simp [updV, aV, vr, gI, sI, vp_nar]
    
  · simp [updV, aV, vr, gI, sI, hq]
theorem pw_zast (hx : p.tables.exec = Jvm.exec) (hb : c.code = cc) (hK : va_K D vwCl (tysA aC) s) (hP : Pic D aC w ad σ H) (hj : ∀ a b, a < wS w → b < wS w → ad a = ad b → a = b) {H0 : Heap} (hS0 : va_S (AW w ad) H0 H locs) (hk : isK w i 21 = true) {j : Int32} {x : Int32} (hin : vp_in j (wN w i)) (hdg : decode cc pc = .ok (.bastore, 1))
    (kk : ∀ (H1 : Heap) (locs1 : List Loc), Pic D aC w ad (sI σ i j.toNatClampNeg (vp_nar .boolean x)) H1 → va_S (AW w ad) H0 H1 locs1 → W p l e R s m args below meth c H1 locs1 cells slots Q (F0 m (pc + 1) ls rest)) : W p l e R s m args below meth c H locs cells slots Q (F0 m pc ls (.int x :: .int j :: .ref (ad i) :: rest)) := by
  have h1 := (hP i (isK_2 hk)).2 (by rw [isK_1 hk]; decide) (by rw [isK_1 hk]; decide)
  rw [isK_1 hk] at h1
  refine W.zast hx hb h1 ((hK.2 1 _ rfl).1 _ _) (fun q => by cases q) (by rw [arrV_size]; exact hin) rfl rfl hdg fun H1 e1 z oq => ?_
  refine kk H1 _ (hP.put hj (isK_2 hk) oq ⟨fun z => absurd z (by rw [isK_1 hk]; decide), fun _ _ => ?_⟩ (fun a ha k => sI_1 σ ha _ k _) (fun a ha k => rfl)) (hS0.put z oq ⟨i, isK_2 hk, rfl⟩)
  rw [e1, isK_1 hk, arrV_store]
  congr 2
  funext q
  by_cases hq : q = j.toNatClampNeg
  · subst hq
    simp [updV, aV, vr, gI, sI, vp_nar]
    try rfl
  · simp [updV, aV, vr, gI, sI, hq]
theorem pw_last (hx : p.tables.exec = Jvm.exec) (hb : c.code = cc) (hK : va_K D vwCl (tysA aC) s) (hP : Pic D aC w ad σ H) (hj : ∀ a b, a < wS w → b < wS w → ad a = ad b → a = b) {H0 : Heap} (hS0 : va_S (AW w ad) H0 H locs) (hk : isK w i 22 = true) {j : Int32} {x : Int64} (hin : vp_in j (wN w i)) (hdg : decode cc pc = .ok (.lastore, 1))
    (kk : ∀ (H1 : Heap) (locs1 : List Loc), Pic D aC w ad (sL σ i j.toNatClampNeg x) H1 → va_S (AW w ad) H0 H1 locs1 → W p l e R s m args below meth c H1 locs1 cells slots Q (F0 m (pc + 1) ls rest)) : W p l e R s m args below meth c H locs cells slots Q (F0 m pc ls (.long x :: .int j :: .ref (ad i) :: rest)) := by
  have h1 := (hP i (isK_2 hk)).2 (by rw [isK_1 hk]; decide) (by rw [isK_1 hk]; decide)
  rw [isK_1 hk] at h1
  refine W.last hx hb h1 ((hK.2 2 _ rfl).1 _ _) (fun q => by cases q) (by rw [arrV_size]; exact hin) rfl rfl hdg fun H1 e1 z oq => ?_
  refine kk H1 _ (hP.put hj (isK_2 hk) oq ⟨fun z => absurd z (by rw [isK_1 hk]; decide), fun _ _ => ?_⟩ (fun a ha k => rfl) (fun a ha k => sL_2 σ ha _ k _)) (hS0.put z oq ⟨i, isK_2 hk, rfl⟩)
  rw [e1, isK_1 hk, arrV_store]
  congr 2
  funext q
  by_cases hq : q = j.toNatClampNeg
  · subst hq
    simp [updV, aV, vr, gL, sL, vp_nar]
    
  · simp [updV, aV, vr, gL, sL, hq]
end WROWS
end
section
/-! THE EXECUTOR: what a method does, as a proposition, instruction by instruction -/
abbrev VL : Type := List (Nat × Value)
abbrev WP : Type := List Value → Sg → (Option Value → Sg → Prop) → Prop
def lk : VL → Nat → Option Value
  | [], _ => none
  | (i, v) :: r, k => bif Nat.beq i k then some v else lk r k
def cat1 (v : Value) : Bool := match v with
  | .long _ => false
  | .double _ => false
  | _ => true
/-- out goes what a store to place i destroys -/
def dl : VL → Nat → VL
  | [], _ => []
  | (j, v) :: r, i => bif Nat.beq j i || (Nat.beq (j + 1) i && !cat1 v) then dl r i else (j, v) :: dl r i
def dl2 : VL → Nat → VL
  | [], _ => []
  | (j, v) :: r, i => bif Nat.beq j i || (Nat.beq j (i + 1) || (Nat.beq (j + 1) i && !cat1 v)) then dl2 r i else (j, v) :: dl2 r i
def pickL (lv : VL) : List Nat → Option (List Value)
  | [] => some []
  | i :: r => match lk lv i, pickL lv r with
    | some v, some vs => some (v :: vs)
    | _, _ => none
def zipL : List Nat → List Value → VL
  | i :: r, v :: vs => (i, v) :: zipL r vs
  | _, _ => []
def arg0 : Nat → List Value → VL
  | _, [] => []
  | i, v :: r => (i, v) :: arg0 (bif cat1 v then i + 1 else i + 2) r
def catS : List Value → Nat
  | [] => 0
  | v :: r => (bif cat1 v then 1 else 2) + catS r
/-- the top n of the stack, the lowest first -/
def popA : Nat → List Value → List Value → Option (List Value × List Value)
  | 0, acc, st => some (acc, st)
  | n + 1, acc, v :: st => popA n (v :: acc) st
  | _ + 1, _, [] => none
/-- the code by its places, jumps by their targets -/
abbrev Tab : Type := Nat → Option (Instr × Nat)
def lnI (i : Instr) : Nat := match i with
  | .bipush _ => 2
  | .sipush _ => 3
  | .ldc _ => 2
  | .ldc2_w _ => 3
  | .iload _ => 2
  | .lload _ => 2
  | .aload _ => 2
  | .istore _ => 2
  | .lstore _ => 2
  | .astore _ => 2
  | .iinc _ _ => 3
  | .getfield _ => 3
  | .putfield _ => 3
  | .getstatic _ => 3
  | .invokevirtual _ => 3
  | .invokestatic _ => 3
  | _ => 1
def stI (nL : Nat) (i : Instr) : Bool := match i with
  | .istore k => Nat.blt k nL
  | .istore_n k => Nat.blt k nL
  | .astore k => Nat.blt k nL
  | .astore_n k => Nat.blt k nL
  | .lstore k => Nat.blt (k + 1) nL
  | .lstore_n k => Nat.blt (k + 1) nL
  | .iinc k _ => Nat.blt k nL
  | _ => true
def okI (cc : ByteArray) (nL pc : Nat) (i : Instr) (n : Nat) : Bool := match i with
  | .goto t => decide (0 ≤ t) && decide (decode cc pc = .ok (.goto (t - pc), 3)) && Nat.beq n 3
  | .ifCond k t => decide (0 ≤ t) && decide (decode cc pc = .ok (.ifCond k (t - pc), 3)) && Nat.beq n 3
  | .if_icmp k t => decide (0 ≤ t) && decide (decode cc pc = .ok (.if_icmp k (t - pc), 3)) && Nat.beq n 3
  | .lookupswitch d ps => decide (decode cc pc = .ok (.lookupswitch d ps, n))
  | .tableswitch d lo hi offs => decide (decode cc pc = .ok (.tableswitch d lo hi offs, n))
  | i => (decide (decode cc pc = .ok (i, n)) && Nat.beq n (lnI i)) && stI nL i
def tabOK (cc : ByteArray) (nL : Nat) (tab : Tab) (N : Nat) : Bool := (List.range N).all (fun pc => match tab pc with
  | some (i, n) => okI cc nL pc i n
  | none => true)
def swL (K : Int → Prop) (d : Int) : List (Int × Int) → Int32 → Prop
  | [], _ => K d
  | (a, o) :: r, x => bif decide ((Int32.ofInt a).toInt = a) then (x = Int32.ofInt a → K o) ∧ (¬ x = Int32.ofInt a → swL K d r x) else False
def swT (K : Int → Prop) (d : Int) : List Int → Int → Int32 → Prop
  | [], _, _ => K d
  | o :: r, lo, x => bif decide ((Int32.ofInt lo).toInt = lo) then (x = Int32.ofInt lo → K o) ∧ (¬ x = Int32.ofInt lo → swT K d r (lo + 1) x) else False

def p1i (st : List Value) (f : Int32 → List Value → Prop) : Prop := match st with
  | .int x :: r => f x r
  | _ => False
theorem p1i_e {st : List Value} {f : Int32 → List Value → Prop} (h : p1i st f) : ∃ x r, st = .int x :: r ∧ f x r := by
  unfold p1i at h
  split at h
  · exact ⟨_, _, rfl, h⟩
  · exact h.elim
def p2i (st : List Value) (f : Int32 → Int32 → List Value → Prop) : Prop := match st with
  | .int y :: .int x :: r => f y x r
  | _ => False
theorem p2i_e {st : List Value} {f : Int32 → Int32 → List Value → Prop} (h : p2i st f) : ∃ y x r, st = .int y :: .int x :: r ∧ f y x r := by
  unfold p2i at h
  split at h
  · exact ⟨_, _, _, rfl, h⟩
  · exact h.elim
def p1l (st : List Value) (f : Int64 → List Value → Prop) : Prop := match st with
  | .long x :: r => f x r
  | _ => False
theorem p1l_e {st : List Value} {f : Int64 → List Value → Prop} (h : p1l st f) : ∃ x r, st = .long x :: r ∧ f x r := by
  unfold p1l at h
  split at h
  · exact ⟨_, _, rfl, h⟩
  · exact h.elim
def p2l (st : List Value) (f : Int64 → Int64 → List Value → Prop) : Prop := match st with
  | .long y :: .long x :: r => f y x r
  | _ => False
theorem p2l_e {st : List Value} {f : Int64 → Int64 → List Value → Prop} (h : p2l st f) : ∃ y x r, st = .long y :: .long x :: r ∧ f y x r := by
  unfold p2l at h
  split at h
  · exact ⟨_, _, _, rfl, h⟩
  · exact h.elim
def pil (st : List Value) (f : Int32 → Int64 → List Value → Prop) : Prop := match st with
  | .int y :: .long x :: r => f y x r
  | _ => False
theorem pil_e {st : List Value} {f : Int32 → Int64 → List Value → Prop} (h : pil st f) : ∃ y x r, st = .int y :: .long x :: r ∧ f y x r := by
  unfold pil at h
  split at h
  · exact ⟨_, _, _, rfl, h⟩
  · exact h.elim
def p1r (st : List Value) (f : Nat → List Value → Prop) : Prop := match st with
  | .ref a :: r => f a r
  | _ => False
theorem p1r_e {st : List Value} {f : Nat → List Value → Prop} (h : p1r st f) : ∃ a r, st = .ref a :: r ∧ f a r := by
  unfold p1r at h
  split at h
  · exact ⟨_, _, rfl, h⟩
  · exact h.elim
def pir (st : List Value) (f : Int32 → Nat → List Value → Prop) : Prop := match st with
  | .int j :: .ref a :: r => f j a r
  | _ => False
theorem pir_e {st : List Value} {f : Int32 → Nat → List Value → Prop} (h : pir st f) : ∃ j a r, st = .int j :: .ref a :: r ∧ f j a r := by
  unfold pir at h
  split at h
  · exact ⟨_, _, _, rfl, h⟩
  · exact h.elim
def piir (st : List Value) (f : Int32 → Int32 → Nat → List Value → Prop) : Prop := match st with
  | .int x :: .int j :: .ref a :: r => f x j a r
  | _ => False
theorem piir_e {st : List Value} {f : Int32 → Int32 → Nat → List Value → Prop} (h : piir st f) : ∃ x j a r, st = .int x :: .int j :: .ref a :: r ∧ f x j a r := by
  unfold piir at h
  split at h
  · exact ⟨_, _, _, _, rfl, h⟩
  · exact h.elim
def plir (st : List Value) (f : Int64 → Int32 → Nat → List Value → Prop) : Prop := match st with
  | .long x :: .int j :: .ref a :: r => f x j a r
  | _ => False
theorem plir_e {st : List Value} {f : Int64 → Int32 → Nat → List Value → Prop} (h : plir st f) : ∃ x j a r, st = .long x :: .int j :: .ref a :: r ∧ f x j a r := by
  unfold plir at h
  split at h
  · exact ⟨_, _, _, _, rfl, h⟩
  · exact h.elim
def p1v (st : List Value) (f : Value → List Value → Prop) : Prop := match st with
  | v :: r => bif cat1 v then f v r else False
  | _ => False
theorem p1v_e {st : List Value} {f : Value → List Value → Prop} (h : p1v st f) : ∃ v r, st = v :: r ∧ cat1 v = true ∧ f v r := by
  unfold p1v at h
  split at h
  · cases hc : cat1 ‹Value› <;> rw [hc] at h
    · exact h.elim
    · exact ⟨_, _, rfl, hc, h⟩
  · exact h.elim
def lki (lv : VL) (k : Nat) (f : Int32 → Prop) : Prop := match lk lv k with
  | some (.int x) => f x
  | _ => False
theorem lki_e {lv : VL} {k : Nat} {f : Int32 → Prop} (h : lki lv k f) : ∃ x, lk lv k = some (.int x) ∧ f x := by
  unfold lki at h
  split at h
  · exact ⟨_, by assumption, h⟩
  · exact h.elim
def lkl (lv : VL) (k : Nat) (f : Int64 → Prop) : Prop := match lk lv k with
  | some (.long x) => f x
  | _ => False
theorem lkl_e {lv : VL} {k : Nat} {f : Int64 → Prop} (h : lkl lv k f) : ∃ x, lk lv k = some (.long x) ∧ f x := by
  unfold lkl at h
  split at h
  · exact ⟨_, by assumption, h⟩
  · exact h.elim
def lkr (lv : VL) (k : Nat) (f : Nat → Prop) : Prop := match lk lv k with
  | some (.ref x) => f x
  | _ => False
theorem lkr_e {lv : VL} {k : Nat} {f : Nat → Prop} (h : lkr lv k f) : ∃ x, lk lv k = some (.ref x) ∧ f x := by
  unfold lkr at h
  split at h
  · exact ⟨_, by assumption, h⟩
  · exact h.elim
def onS {α : Type} (x : Option α) (f : α → Prop) : Prop := match x with
  | some a => f a
  | none => False
theorem onS_e {α : Type} {x : Option α} {f : α → Prop} (h : onS x f) : ∃ a, x = some a ∧ f a := by
  cases x with
  | none => exact h.elim
  | some a => exact ⟨a, rfl, h⟩
def onB (b : Bool) (p : Prop) : Prop := bif b then p else False
theorem onB_e {b : Bool} {p : Prop} (h : onB b p) : b = true ∧ p := by
  cases b with
  | false => exact h.elim
  | true => exact ⟨rfl, h⟩

def putK (ty : FieldType) (v : Int32) (p : Prop) : Prop := match ty with
  | .int => p
  | .boolean => nz v ∧ p
  | _ => False
def retI (ret : Option FieldType) (x : Int32) (p : Prop) : Prop := match ret with
  | some .int => p
  | some .boolean => nz x ∧ p
  | _ => False
def isLong (ret : Option FieldType) : Bool := match ret with
  | some .long => true
  | _ => false
def isObj (ret : Option FieldType) : Bool := match ret with
  | some (.object _) => true
  | _ => false
/-- one instruction -/
def sxs (w : Wd) (ft : Nat → Option (Nat × Nat)) (c32 : Nat → Option Int32) (c64 : Nat → Option Int64) (ce : Nat → Option (Nat × Option Nat × WP)) (sf : Nat → Option Nat) (ret : Option FieldType) (Q : Option Value → Sg → Prop) (K : Nat → VL → List Value → Sg → Prop) (pc : Nat) (i : Instr) (n : Nat) (lv : VL) (st : List Value) (σ : Sg) : Prop := match i with
  | .iconst v => K (pc + n) lv (.int (Int32.ofInt v) :: st) σ
  | .bipush v => K (pc + n) lv (.int (Int8.ofInt v).toInt32 :: st) σ
  | .sipush v => K (pc + n) lv (.int (Int16.ofInt v).toInt32 :: st) σ
  | .lconst v => K (pc + n) lv (.long (Int64.ofNat v) :: st) σ
  | .ldc x => onS (c32 x) (fun v => K (pc + n) lv (.int v :: st) σ)
  | .ldc2_w x => onS (c64 x) (fun v => K (pc + n) lv (.long v :: st) σ)
  | .iload_n k => lki lv k (fun x => K (pc + n) lv (.int x :: st) σ)
  | .iload k => lki lv k (fun x => K (pc + n) lv (.int x :: st) σ)
  | .lload_n k => lkl lv k (fun x => K (pc + n) lv (.long x :: st) σ)
  | .lload k => lkl lv k (fun x => K (pc + n) lv (.long x :: st) σ)
  | .aload_n k => lkr lv k (fun x => K (pc + n) lv (.ref x :: st) σ)
  | .aload k => lkr lv k (fun x => K (pc + n) lv (.ref x :: st) σ)
  | .istore_n k => p1i st (fun x r => K (pc + n) ((k, .int x) :: dl lv k) r σ)
  | .istore k => p1i st (fun x r => K (pc + n) ((k, .int x) :: dl lv k) r σ)
  | .astore_n k => p1r st (fun x r => K (pc + n) ((k, .ref x) :: dl lv k) r σ)
  | .astore k => p1r st (fun x r => K (pc + n) ((k, .ref x) :: dl lv k) r σ)
  | .lstore_n k => p1l st (fun x r => K (pc + n) ((k, .long x) :: dl2 lv k) r σ)
  | .lstore k => p1l st (fun x r => K (pc + n) ((k, .long x) :: dl2 lv k) r σ)
  | .iinc k v => lki lv k (fun x => K (pc + n) ((k, .int (x + Int32.ofInt v)) :: dl lv k) st σ)
  | .iadd => p2i st (fun y x r => K (pc + n) lv (.int (x + y) :: r) σ)
  | .isub => p2i st (fun y x r => K (pc + n) lv (.int (x - y) :: r) σ)
  | .imul => p2i st (fun y x r => K (pc + n) lv (.int (x * y) :: r) σ)
  | .iand => p2i st (fun y x r => K (pc + n) lv (.int (x &&& y) :: r) σ)
  | .ior => p2i st (fun y x r => K (pc + n) lv (.int (x ||| y) :: r) σ)
  | .ixor => p2i st (fun y x r => K (pc + n) lv (.int (x ^^^ y) :: r) σ)
  | .ishl => p2i st (fun y x r => K (pc + n) lv (.int (x <<< (y &&& 31)) :: r) σ)
  | .ishr => p2i st (fun y x r => K (pc + n) lv (.int (x >>> (y &&& 31)) :: r) σ)
  | .idiv => p2i st (fun y x r => ¬ y = 0 ∧ K (pc + n) lv (.int (x / y) :: r) σ)
  | .irem => p2i st (fun y x r => ¬ y = 0 ∧ K (pc + n) lv (.int (x - x / y * y) :: r) σ)
  | .ineg => p1i st (fun x r => K (pc + n) lv (.int (-x) :: r) σ)
  | .i2l => p1i st (fun x r => K (pc + n) lv (.long x.toInt64 :: r) σ)
  | .l2i => p1l st (fun x r => K (pc + n) lv (.int x.toInt32 :: r) σ)
  | .ladd => p2l st (fun y x r => K (pc + n) lv (.long (x + y) :: r) σ)
  | .lsub => p2l st (fun y x r => K (pc + n) lv (.long (x - y) :: r) σ)
  | .land => p2l st (fun y x r => K (pc + n) lv (.long (x &&& y) :: r) σ)
  | .lor => p2l st (fun y x r => K (pc + n) lv (.long (x ||| y) :: r) σ)
  | .lxor => p2l st (fun y x r => K (pc + n) lv (.long (x ^^^ y) :: r) σ)
  | .lneg => p1l st (fun x r => K (pc + n) lv (.long (-x) :: r) σ)
  | .lshl => pil st (fun y x r => K (pc + n) lv (.long (x <<< (y.toInt64 &&& 63)) :: r) σ)
  | .lushr => pil st (fun y x r => K (pc + n) lv (.long (x.toUInt64 >>> (y.toInt64.toUInt64 &&& Int64.toUInt64 63)).toInt64 :: r) σ)
  | .lcmp => p2l st (fun y x r => K (pc + n) lv (.int (lg_cmp x y) :: r) σ)
  | .dup => p1v st (fun v r => K (pc + n) lv (v :: v :: r) σ)
  | .dup2 => p1v st (fun v r1 => p1v r1 (fun u r => K (pc + n) lv (v :: u :: v :: u :: r) σ))
  | .pop => p1v st (fun _ r => K (pc + n) lv r σ)
  | .goto t => K t.toNat lv st σ
  | .ifCond .eq t => p1i st (fun x r => (x = 0 → K t.toNat lv r σ) ∧ (¬ x = 0 → K (pc + n) lv r σ))
  | .ifCond .ne t => p1i st (fun x r => (x = 0 → K (pc + n) lv r σ) ∧ (¬ x = 0 → K t.toNat lv r σ))
  | .ifCond .lt t => p1i st (fun x r => (x < 0 → K t.toNat lv r σ) ∧ (¬ x < 0 → K (pc + n) lv r σ))
  | .ifCond .ge t => p1i st (fun x r => (x < 0 → K (pc + n) lv r σ) ∧ (¬ x < 0 → K t.toNat lv r σ))
  | .ifCond .gt t => p1i st (fun x r => (0 < x → K t.toNat lv r σ) ∧ (¬ 0 < x → K (pc + n) lv r σ))
  | .ifCond .le t => p1i st (fun x r => (0 < x → K (pc + n) lv r σ) ∧ (¬ 0 < x → K t.toNat lv r σ))
  | .if_icmp .eq t => p2i st (fun y x r => (x = y → K t.toNat lv r σ) ∧ (¬ x = y → K (pc + n) lv r σ))
  | .if_icmp .ne t => p2i st (fun y x r => (x = y → K (pc + n) lv r σ) ∧ (¬ x = y → K t.toNat lv r σ))
  | .if_icmp .lt t => p2i st (fun y x r => (x < y → K t.toNat lv r σ) ∧ (¬ x < y → K (pc + n) lv r σ))
  | .if_icmp .ge t => p2i st (fun y x r => (x < y → K (pc + n) lv r σ) ∧ (¬ x < y → K t.toNat lv r σ))
  | .if_icmp .gt t => p2i st (fun y x r => (y < x → K t.toNat lv r σ) ∧ (¬ y < x → K (pc + n) lv r σ))
  | .if_icmp .le t => p2i st (fun y x r => (y < x → K (pc + n) lv r σ) ∧ (¬ y < x → K t.toNat lv r σ))
  | .lookupswitch d ps => p1i st (fun x r => onB ((ps.toList.zip (ps.toList.drop 1)).all (fun (a, next) => a.1 < next.1)) (swL (fun off => onB (decide (0 ≤ (pc : Int) + off)) (K ((pc : Int) + off).toNat lv r σ)) d ps.toList x))
  | .tableswitch d lo hi offs => p1i st (fun x r => onB (decide ((offs.size : Int) = hi - lo + 1)) (swT (fun off => onB (decide (0 ≤ (pc : Int) + off)) (K ((pc : Int) + off).toNat lv r σ)) d offs.toList lo x))
  | .getfield x => onS (ft x) (fun f => p1r st (fun a r => onB (isK w a f.1) (K (pc + n) lv (cV w σ (fty f.1 f.2) a f.2 :: r) σ)))
  | .putfield x => onS (ft x) (fun f => pir st (fun v a r => onB (isK w a f.1 && !ffin f.1 f.2) (putK (fty f.1 f.2) v (K (pc + n) lv r (sI σ a f.2 v)))))
  | .getstatic x => onS (sf x) (fun a => K (pc + n) lv (.ref a :: st) σ)
  | .arraylength => p1r st (fun a r => bif Nat.beq a 1000000 then K (pc + n) lv (.int 4 :: r) σ else bif Nat.beq a 1000001 then K (pc + n) lv (.int 6 :: r) σ else onB (Nat.ble 20 (wK w a) && (Nat.ble (wK w a) 24 && Nat.blt a (wS w))) (K (pc + n) lv (.int (nI (wN w a)) :: r) σ))
  | .iaload => pir st (fun j a r => bif Nat.beq a 1000000 then vp_in j 4 ∧ K (pc + n) lv (.int (inpL j.toNatClampNeg) :: r) σ else onB (isK w a 20) (vp_in j (wN w a) ∧ K (pc + n) lv (.int (gI σ a j.toNatClampNeg) :: r) σ))
  | .baload => pir st (fun j a r => onB (isK w a 21) (vp_in j (wN w a) ∧ K (pc + n) lv (.int (gI σ a j.toNatClampNeg) :: r) σ))
  | .laload => pir st (fun j a r => bif Nat.beq a 1000001 then vp_in j 6 ∧ K (pc + n) lv (.long (onesL j.toNatClampNeg) :: r) σ else onB (isK w a 22) (vp_in j (wN w a) ∧ K (pc + n) lv (.long (gL σ a j.toNatClampNeg) :: r) σ))
  | .aaload => pir st (fun j a r => onB (isK w a 23 || isK w a 24) (vp_in j (wN w a) ∧ K (pc + n) lv (.ref (wR w a j.toNatClampNeg) :: r) σ))
  | .iastore => piir st (fun x j a r => onB (isK w a 20) (vp_in j (wN w a) ∧ K (pc + n) lv r (sI σ a j.toNatClampNeg x)))
  | .bastore => piir st (fun x j a r => onB (isK w a 21) (vp_in j (wN w a) ∧ K (pc + n) lv r (sI σ a j.toNatClampNeg (vp_nar .boolean x))))
  | .lastore => plir st (fun x j a r => onB (isK w a 22) (vp_in j (wN w a) ∧ K (pc + n) lv r (sL σ a j.toNatClampNeg x)))
  | .invokevirtual x => onS (ce x) (fun q => onS q.2.1 (fun ci => onS (popA q.1 [] st) (fun z => p1r z.1 (fun a As => onB (isK w a ci && Nat.ble (catS z.2) 8) (q.2.2 (.ref a :: As) σ (fun v τ => K (pc + n) lv (v.toList ++ z.2) τ))))))
  | .invokestatic x => onS (ce x) (fun q => onB q.2.1.isNone (onS (popA q.1 [] st) (fun z => onB (Nat.ble (catS z.2) 8) (q.2.2 z.1 σ (fun v τ => K (pc + n) lv (v.toList ++ z.2) τ)))))
  | .ireturn => p1i st (fun x r => onB r.isEmpty (retI ret x (Q (some (.int x)) σ)))
  | .lreturn => p1l st (fun x r => onB (r.isEmpty && isLong ret) (Q (some (.long x)) σ))
  | .areturn => p1r st (fun a r => onB (r.isEmpty && isObj ret) (Q (some (.ref a)) σ))
  | .return_ => onB (st.isEmpty && ret.isNone) (Q none σ)
  | _ => False
/-- from a place to the next label -/
def sx (w : Wd) (ft : Nat → Option (Nat × Nat)) (c32 : Nat → Option Int32) (c64 : Nat → Option Int64) (ce : Nat → Option (Nat × Option Nat × WP)) (sf : Nat → Option Nat) (ret : Option FieldType) (tab : Tab) (lab : Nat → Option (List Nat)) (P : Nat → List Value → Sg → Prop) (Q : Option Value → Sg → Prop) : Nat → Nat → VL → List Value → Sg → Prop
  | 0, _, _, _, _ => False
  | f + 1, pc, lv, st, σ => match lab pc with
    | some ids => onB st.isEmpty (onS (pickL lv ids) (fun vs => P pc vs σ))
    | none => onS (tab pc) (fun q => sxs w ft c32 c64 ce sf ret Q (sx w ft c32 c64 ce sf ret tab lab P Q f) pc q.1 q.2 lv st σ)
/-- a label's body -/
def sxb (w : Wd) (ft : Nat → Option (Nat × Nat)) (c32 : Nat → Option Int32) (c64 : Nat → Option Int64) (ce : Nat → Option (Nat × Option Nat × WP)) (sf : Nat → Option Nat) (ret : Option FieldType) (tab : Tab) (lab : Nat → Option (List Nat)) (P : Nat → List Value → Sg → Prop) (Q : Option Value → Sg → Prop) (f : Nat) (pc : Nat) (vs : List Value) (σ : Sg) : Prop :=
  onS (lab pc) (fun ids => onS (tab pc) (fun q => sxs w ft c32 c64 ce sf ret Q (sx w ft c32 c64 ce sf ret tab lab P Q f) pc q.1 q.2 (zipL ids vs) [] σ))
/-- a method -/
def sxm (w : Wd) (ft : Nat → Option (Nat × Nat)) (c32 : Nat → Option Int32) (c64 : Nat → Option Int64) (ce : Nat → Option (Nat × Option Nat × WP)) (sf : Nat → Option Nat) (ret : Option FieldType) (tab : Tab) (lab : Nat → Option (List Nat)) (f : Nat) : WP := fun As σ Q =>
  ∀ P : Nat → List Value → Sg → Prop, (∀ pc vs τ, sxb w ft c32 c64 ce sf ret tab lab P Q f pc vs τ → P pc vs τ) → sx w ft c32 c64 ce sf ret tab lab P Q f 0 (arg0 0 As) [] σ
end
section
/-! SOUNDNESS of the executor over the machine -/
def rel (ad : Nat → Nat) (lv : VL) : VL := lv.map (fun q => (q.1, vr ad q.2))
theorem lk_mem : ∀ {lv : VL} {k : Nat} {v : Value}, lk lv k = some v → (k, v) ∈ lv
  | [], _, _, h => by cases h
  | (i, u) :: r, k, v, h => by
    unfold lk at h
    cases hb : Nat.beq i k <;> rw [hb] at h
    · exact List.mem_cons_of_mem _ (lk_mem h)
    · rw [← Nat.eq_of_beq_eq_true hb, ← Option.some.inj h]
      exact List.mem_cons_self
theorem rel_mem {ad : Nat → Nat} {lv : VL} {k : Nat} {v : Value} (h : (k, v) ∈ lv) : (k, vr ad v) ∈ rel ad lv := List.mem_map.mpr ⟨(k, v), h, rfl⟩
theorem lk_has {ad : Nat → Nat} {ls : Array Slot} {nL : Nat} {lv : VL} {k : Nat} {v : Value} (hl : lv_has ls nL (rel ad lv)) (h : lk lv k = some v) : ls[k]? = some (.val (vr ad v)) := hl.2.2 _ (rel_mem (lk_mem h))
theorem cat1_cat (ad : Nat → Nat) (v : Value) : ((vr ad v).category == 2) = !cat1 v := by cases v <;> rfl
theorem beq_nat (a b : Nat) : (a == b) = Nat.beq a b := by rw [Bool.eq_iff_iff, Nat.beq_eq, beq_iff_eq]
theorem dl_cons (j i : Nat) (v : Value) (r : VL) : dl ((j, v) :: r) i = bif Nat.beq j i || (Nat.beq (j + 1) i && !cat1 v) then dl r i else (j, v) :: dl r i := rfl
theorem dl2_cons (j i : Nat) (v : Value) (r : VL) : dl2 ((j, v) :: r) i = bif Nat.beq j i || (Nat.beq j (i + 1) || (Nat.beq (j + 1) i && !cat1 v)) then dl2 r i else (j, v) :: dl2 r i := rfl
theorem dl_eq (ad : Nat → Nat) (i : Nat) : ∀ lv : VL, (rel ad lv).filter (fun q => !(q.1 == i) && !(q.1 + 1 == i && q.2.category == 2)) = rel ad (dl lv i)
  | [] => rfl
  | (j, v) :: r => by
    have ih := dl_eq ad i r
    show List.filter _ ((j, vr ad v) :: rel ad r) = _
    rw [List.filter_cons, ih, dl_cons]
    simp only [cat1_cat]
    simp only [beq_nat]
    cases Nat.beq j i <;> cases Nat.beq (j + 1) i <;> cases cat1 v <;> rfl
theorem dl2_eq (ad : Nat → Nat) (i : Nat) : ∀ lv : VL, (rel ad lv).filter (fun q => !(q.1 == i) && (!(q.1 == i + 1) && !(q.1 + 1 == i && q.2.category == 2))) = rel ad (dl2 lv i)
  | [] => rfl
  | (j, v) :: r => by
    have ih := dl2_eq ad i r
    show List.filter _ ((j, vr ad v) :: rel ad r) = _
    rw [List.filter_cons, ih, dl2_cons]
    simp only [cat1_cat]
    simp only [beq_nat]
    cases Nat.beq j i <;> cases Nat.beq j (i + 1) <;> cases Nat.beq (j + 1) i <;> cases cat1 v <;> rfl
theorem pick_zip {ad : Nat → Nat} {ls : Array Slot} {nL : Nat} {lv : VL} (hl : lv_has ls nL (rel ad lv)) : ∀ {ids : List Nat} {vs : List Value}, pickL lv ids = some vs → lv_has ls nL (rel ad (zipL ids vs))
  | [], vs, h => by
    unfold pickL at h
    cases h
    exact ⟨hl.1, hl.2.1, fun q hq => by cases hq⟩
  | i :: r, vs, h => by
    unfold pickL at h
    split at h
    · rename_i v us h1 h2
      cases h
      have ih := pick_zip hl h2
      refine ⟨hl.1, hl.2.1, fun q hq => ?_⟩
      rcases List.mem_cons.mp hq with e | e
      · rw [e]; exact lk_has hl h1
      · exact ih.2.2 q e
    · cases h
theorem popA_e : ∀ {n : Nat} {acc st : List Value} {z : List Value × List Value}, popA n acc st = some z → ∃ pre, pre.length = n ∧ st = pre ++ z.2 ∧ z.1 = pre.reverse ++ acc
  | 0, acc, st, z, h => by
    unfold popA at h
    cases h
    exact ⟨[], rfl, rfl, rfl⟩
  | n + 1, acc, [], z, h => by cases h
  | n + 1, acc, v :: st, z, h => by
    unfold popA at h
    obtain ⟨pre, h1, h2, h3⟩ := popA_e h
    exact ⟨v :: pre, by simp [h1], by simp [h2], by simp [h3]⟩
theorem catS_eq (ad : Nat → Nat) : ∀ r : List Value, ((r.map (vr ad)).map fun v => v.category).sum = catS r
  | [] => rfl
  | v :: r => by
    have ih := catS_eq ad r
    simp only [List.map_cons, List.sum_cons, ih, catS]
    cases v <;> rfl
def rmh (h : Nat) : Room := { frames := h, cells := 0, slots := 0, locals := 34 * h }
def Qg (w : Wd) (D : va_G) (aC : Nat → ClassId) (ad : Nat → Nat) (Q : Option Value → Sg → Prop) : Array Value → State → Outcome → State → Prop := fun _ st oc t =>
  (∃ (r : Option Value) (τ : Sg), oc = .returned (r.map (vr ad)) ∧ Q r τ ∧ Pic D aC w ad τ t.heap) ∧ va_F (AW w ad) st t
/-- a method's contract -/
def Con (l : Launch) (w : Wd) (y : MethodName) (cc : ByteArray) (maxL : Nat) (ret : Option FieldType) (h : Nat) (wp : WP) : Prop :=
  ∀ (D : va_G) (aC : Nat → ClassId) (ad : Nat → Nat), (∀ a b, a < wS w → b < wS w → ad a = ad b → a = b) → ∀ (σ : Sg) (As : List Value) (Q : Option Value → Sg → Prop),
    Met l y (Cond.code y cc maxL ret :: big) (rmh h) (va_Pc (As.map (vr ad)) (fun U => KK D aC ad (AW w ad) U U.heap ∧ Pic D aC w ad σ U.heap ∧ wp As σ Q)) (Qg w D aC ad Q) 0 0 (AW w ad)
theorem Con.mono {l : Launch} {w : Wd} {y : MethodName} {cc : ByteArray} {maxL : Nat} {ret : Option FieldType} {h : Nat} {wp wp' : WP} (C : Con l w y cc maxL ret h wp) (hw : ∀ As σ Q, wp' As σ Q → wp As σ Q) : Con l w y cc maxL ret h wp' := by
  intro D aC ad hj σ As Q
  intro p e ha hc hk s m args below hf happ hP hKK
  exact C D aC ad hj σ As Q p e ha hc hk s m args below hf happ ⟨hP.1, hP.2.1, hP.2.2.1, hw _ _ _ hP.2.2.2⟩ hKK
/-- what a pool entry of a method says -/
def ceOK (l : Launch) (w : Wd) (own : String) (h idx n : Nat) (oc : Option Nat) (wp : WP) : Prop := ∃ (y : MethodName) (cc : ByteArray) (maxL : Nat) (ret : Option FieldType) (hc : Nat), Con l w y cc maxL ret hc wp ∧ hc + 1 ≤ h ∧ maxL ≤ 15 ∧ Cond.code y cc maxL ret ∈ big ∧ Cond.initialized y.cls ∈ big ∧
  match oc with
  | some ci => Cond.methodLink own idx y ∈ big ∧ Cond.instanceMethod y ∈ big ∧ Cond.selects y.cls y y ∈ big ∧ (∃ T N, vwCl[ci]? = some (y.cls, T, N)) ∧ ci < 11 ∧ (y.cls ≠ "java/lang/invoke/MethodHandle" ∧ y.cls ≠ "java/lang/invoke/VarHandle" ∧ (parseMethodDescriptor y.desc).map (fun d => d.parameters.length) = some (n - 1))
  | none => (Cond.methodLink own idx y ∈ big ∨ Cond.methodLinkNest own idx y "FrameProver" ∈ nestW) ∧ Cond.static y ∈ big ∧ (y.cls ≠ "java/lang/invoke/MethodHandle" ∧ y.cls ≠ "java/lang/invoke/VarHandle" ∧ (parseMethodDescriptor y.desc).map (fun d => d.parameters.length) = some n)
theorem blindC {w : Wd} {D : va_G} {aC : Nat → ClassId} {ad : Nat → Nat} {σ : Sg} {av : List Value} {X : Prop} : FrameBlind (va_Pc av (fun U => KK D aC ad (AW w ad) U U.heap ∧ Pic D aC w ad σ U.heap ∧ X)) := by
  intro a U g mk ⟨h1, h2, h3, h4⟩
  exact ⟨h1, h2.blind g mk a, h3, h4⟩
section SND
variable {p : Program} {l : Launch} {e : Env} {R : Room} {s : State} {m : MethodId} {args : Array Value} {below : List Frame} {meth : Method} {c : Code} {H : Heap} {locs : List Loc} {cells slots : Nat} {QQ : State → Prop}
variable {cc : ByteArray} {pc : Nat} {ls : Array Slot} {D : va_G} {aC : Nat → ClassId} {ad : Nat → Nat} {w : Wd} {σ : Sg} {own : String} {H0 : Heap} {nL : Nat}
/-- behind a call -/
theorem pw_call {mc ms : Nat} {rest : List Value} {st0 : List Value} {a : Array Value} {Q' : Option Value → Sg → Prop} (hr : va_Run p l e R s m args below meth c H locs cells slots 0 0 (F0 m pc ls st0) rest (Qg w D aC ad Q' a) (AW w ad)) (hS : va_S (AW w ad) H0 H locs)
    (kk : ∀ (r : Option Value) (τ : Sg) (H1 : Heap) (locs1 : List Loc), Q' r τ → Pic D aC w ad τ H1 → va_S (AW w ad) H0 H1 locs1 → W p l e R s m args below meth c H1 locs1 cells slots QQ (F0 m (pc + 3) ls ((r.map (vr ad)).toList ++ rest))) : W p l e R s m args below meth c H locs cells slots QQ (F0 m pc ls st0) := by
  intro T hT X
  obtain ⟨v, st₀, t, T', L, h0, X', hL, e1, e2, ⟨⟨r, τ, hv, hq, hb⟩, hz, hk⟩, st⟩ := hr T hT X
  cases hv
  rw [h0] at hz hk
  obtain ⟨t2, a1, b1⟩ := kk r τ T'.heap (locs ++ L) hq (by rw [e1]; exact hb)
    ⟨Nat.le_trans hS.1 (by rw [e1]; exact hz), fun q h1 h2 => by rw [e1, hk q (Nat.lt_of_lt_of_le h1 hS.1) h2]; exact hS.2.1 q h1 h2, fun q hq => by
      rcases List.mem_append.mp hq with h | h
      · exact hS.2.2 q h
      · exact hL q h⟩ T' rfl X'
  exact ⟨t2, st t2 a1, b1⟩
theorem Pic.recv (hK : va_K D vwCl (tysA aC) s) (hP : Pic D aC w ad σ H) {a ci : Nat} (hk : isK w a ci = true) (hci : ci < 11) {C : String} {T : u_T} {N : Nat} (hc : vwCl[ci]? = some (C, T, N)) : ∃ cell : Cell, H[ad a]? = some cell ∧ cell.vm.isStatics = false ∧ s.vm.findClass C = some cell.cls := by
  have h0 := isK_1 hk
  obtain ⟨r, h1, cell, q1, q2, q3, -⟩ := (hP a (isK_2 hk)).1 (by rw [h0]; exact hci)
  rw [h0] at h1 q2
  exact ⟨cell, q1, by rw [q3]; rfl, by rw [q2]; exact (hK.1 ci _ hc).2.1⟩
/-- a call, whichever -/
theorem pw_inv {y0 : MethodName} {ml0 : Nat} {ret0 : Option FieldType} {h : Nat} (hx : p.tables.exec = Jvm.exec) (hb : c.code = cc) (hml : c.maxLocals = nL) (hown : s.vm.findClass own = some m.cls) (hts : ∀ x ∈ Cond.code y0 cc ml0 ret0 :: big, x.before args s = true) (hK : KK D aC ad (AW w ad) s s.heap) (hj : ∀ a b, a < wS w → b < wS w → ad a = ad b → a = b) (hP : Pic D aC w ad σ H) (hS : va_S (AW w ad) s.heap H locs) (hR : R = rmh h) (hsz : ls.size = nL) (hcs : cells = 0 ∧ slots = 0)
    {idx n : Nat} {oc : Option Nat} {wp : WP} (hce : ceOK l w own h idx n oc wp) {As rest : List Value} (hlen : As.length = n) (hcat : catS rest ≤ 8) {Q' : Option Value → Sg → Prop} (hw : wp As σ Q')
    (hdg : match oc with
      | some ci => decode cc pc = .ok (.invokevirtual idx, 3) ∧ ∃ a As', As = .ref a :: As' ∧ isK w a ci = true
      | none => decode cc pc = .ok (.invokestatic idx, 3))
    (kk : ∀ (r : Option Value) (τ : Sg) (H1 : Heap) (locs1 : List Loc), Q' r τ → Pic D aC w ad τ H1 → va_S (AW w ad) s.heap H1 locs1 → W p l e R s m args below meth c H1 locs1 cells slots QQ (F0 m (pc + 3) ls ((r.map (vr ad)).toList ++ rest.map (vr ad)))) : W p l e R s m args below meth c H locs cells slots QQ (F0 m pc ls ((As.map (vr ad)).reverse ++ rest.map (vr ad))) := by
  obtain ⟨y, yc, maxL, ret, hc, C, hh, hmx, hcode, hini, hk⟩ := hce
  obtain ⟨rfl, rfl⟩ := hcs
  subst hR
  have hG := big_good (y := y0) (cc := cc) (maxL := ml0) (ret := ret0) hcode
  have hM := C D aC ad hj σ As Q'
  have hbt : ∀ x ∈ big, x.before args s = true := fun x h => hts x (List.mem_cons_of_mem _ h)
  have hroom : (rmh hc).frames + 1 ≤ (rmh h).frames ∧ 8 + (maxL + 11) + (rmh hc).locals ≤ (rmh h).locals := by
    refine ⟨hh, ?_⟩
    show 8 + (maxL + 11) + 34 * hc ≤ 34 * h
    omega
  have hcat2 : 2 * (F0 m pc ls ((As.map (vr ad)).reverse ++ rest.map (vr ad))).monitorRoom + ((rest.map (vr ad)).map fun v => v.category).sum ≤ 8 := lv_room (by rw [catS_eq]; exact hcat)
  have hpre : ∀ U : State, U.heap = H → s.WarmedH U.vm → va_Pc (As.map (vr ad)) (fun U => KK D aC ad (AW w ad) U U.heap ∧ Pic D aC w ad σ U.heap ∧ wp As σ Q') (As.map (vr ad)).toArray U := fun U hU hW => ⟨rfl, hK.to hS hU hW, by rw [hU]; exact hP, hw⟩
  cases oc with
  | none =>
    obtain ⟨hl, hst, hd⟩ := hk
    rcases hl with hl | hl
    · exact pw_call (mc := 0) (ms := 0) (va_runS (As := As.map (vr ad)) (rest := rest.map (vr ad)) ⟨hx, hb, hml, hown, hts⟩ hM ⟨callB_of n hts hG rfl rfl rfl (hbt _ hini) (hbt _ hl) hd hroom, hbt _ hst⟩ ⟨blindC, hpre⟩ rfl (by simp [hlen]) hsz rfl hcat2 hdg ⟨Nat.zero_le _, Nat.zero_le _⟩) hS kk
    · exact pw_call (mc := 0) (ms := 0) (va_runSN (As := As.map (vr ad)) (rest := rest.map (vr ad)) (host := "FrameProver") ⟨hx, hb, hml, hown, hts⟩ hM ⟨va_cnB n hts hG rfl rfl rfl (hK.2.1 _ hl) (hbt _ hini) hd hroom, hbt _ hst, trivial⟩ ⟨blindC, hpre⟩ rfl (by simp [hlen]) hsz rfl hcat2 hdg ⟨Nat.zero_le _, Nat.zero_le _⟩) hS kk
  | some ci =>
    obtain ⟨hl, hin, hse, ⟨T, N, hcl⟩, hci, hd⟩ := hk
    obtain ⟨hdec, a, As', rfl, hka⟩ := hdg
    have hn1 : As'.length = n - 1 := by rw [← hlen]; simp
    have hstk : ((Value.ref a :: As').map (vr ad)).reverse ++ rest.map (vr ad) = (As'.map (vr ad)).reverse ++ .ref (ad a) :: rest.map (vr ad) := by simp [vr]
    rw [hstk] at hcat2 ⊢
    exact pw_call (mc := 0) (ms := 0) (va_runV (As := As'.map (vr ad)) (rest := rest.map (vr ad)) (C := y.cls) (b := ad a) ⟨hx, hb, hml, hown, hts⟩ hM ⟨callB_of (n - 1) hts hG rfl rfl rfl (hbt _ hini) (hbt _ hl) hd hroom, hbt _ hin, hbt _ hse⟩ ⟨blindC, hP.recv hK.1 hka hci hcl, hpre⟩ rfl (by simp [hn1]) hsz rfl hcat2 hdec ⟨Nat.zero_le _, Nat.zero_le _⟩) hS kk
end SND
end
section
/-! SOUNDNESS: each instruction -/
theorem ok_e {p : Prop} [Decidable p] {n k : Nat} {b : Bool} (h : ((decide p && Nat.beq n k) && b) = true) : (p ∧ n = k) ∧ b = true := by
  simp only [Bool.and_eq_true, decide_eq_true_eq, Nat.beq_eq] at h
  exact h
theorem ok_j {p q : Prop} [Decidable p] [Decidable q] {n k : Nat} (h : (decide p && decide q && Nat.beq n k) = true) : (p ∧ q) ∧ n = k := by
  simp only [Bool.and_eq_true, decide_eq_true_eq, Nat.beq_eq] at h
  exact h
theorem i_le_nlt {x y : Int32} (h : x ≤ y) : ¬ y < x := Int32.not_lt.mpr h
theorem i_nle_lt {x y : Int32} (h : ¬ x ≤ y) : y < x := Int32.not_le.mp h
theorem cat1_1 (ad : Nat → Nat) {v : Value} (h : cat1 v = true) : (vr ad v).category = 1 := by cases v <;> first | rfl | cases h
theorem map_tl (ad : Nat → Nat) (v : Option Value) (r : List Value) : (v.toList ++ r).map (vr ad) = (v.map (vr ad)).toList ++ r.map (vr ad) := by cases v <;> rfl
theorem putK_e {ty : FieldType} {v : Int32} {p : Prop} (h : putK ty v p) : (ty = .int ∨ (ty = .boolean ∧ nz v)) ∧ p := by
  unfold putK at h
  split at h
  · exact ⟨Or.inl rfl, h⟩
  · exact ⟨Or.inr ⟨rfl, h.1⟩, h.2⟩
  · exact h.elim
theorem retI_e {ret : Option FieldType} {x : Int32} {p : Prop} (h : retI ret x p) : (ret = some .int ∧ p) ∨ (ret = some .boolean ∧ nz x ∧ p) := by
  unfold retI at h
  split at h
  · exact Or.inl ⟨rfl, h⟩
  · exact Or.inr ⟨rfl, h⟩
  · exact h.elim
theorem isLong_e {ret : Option FieldType} (h : isLong ret = true) : ret = some .long := by
  unfold isLong at h
  split at h
  · rfl
  · cases h
theorem isObj_e {ret : Option FieldType} (h : isObj ret = true) : ∃ C, ret = some (.object C) := by
  unfold isObj at h
  split at h
  · exact ⟨_, rfl⟩
  · cases h
theorem swL_e {K : Int → Prop} {d : Int} : ∀ {ps : List (Int × Int)} {x : Int32}, swL K d ps x → K (Op.lookupswitch.offset ps d x.toInt)
  | [], x, h => h
  | (a, o) :: r, x, h => by
    unfold swL at h
    rw [Op.lookupswitch.offset_cons]
    cases hb : decide ((Int32.ofInt a).toInt = a) <;> rw [hb] at h
    · exact h.elim
    · have hb := of_decide_eq_true hb
      by_cases e : x = Int32.ofInt a
      · rw [if_pos (by rw [e]; exact hb.symm)]
        exact h.1 e
      · rw [if_neg (fun z => e (by rw [z]; exact (Int32.ofInt_toInt x).symm))]
        exact swL_e (h.2 e)
theorem swT_e {K : Int → Prop} {d : Int} : ∀ {l : List Int} {lo : Int} {x : Int32}, swT K d l lo x → (∃ (j : Nat) (o : Int), x.toInt = lo + j ∧ l[j]? = some o ∧ K o) ∨ ((x.toInt < lo ∨ lo + (l.length : Int) ≤ x.toInt) ∧ K d)
  | [], lo, x, h => Or.inr ⟨by simp only [List.length_nil]; omega, h⟩
  | o :: r, lo, x, h => by
    unfold swT at h
    cases hb : decide ((Int32.ofInt lo).toInt = lo) <;> rw [hb] at h
    · exact h.elim
    · have hb := of_decide_eq_true hb
      by_cases e : x = Int32.ofInt lo
      · exact Or.inl ⟨0, o, by rw [e, hb]; simp, rfl, h.1 e⟩
      · have hne : x.toInt ≠ lo := fun z => e (by rw [← z]; exact (Int32.ofInt_toInt x).symm)
        rcases swT_e (h.2 e) with ⟨j, o', h1, h2, h3⟩ | ⟨h1, h3⟩
        · exact Or.inl ⟨j + 1, o', by rw [h1]; omega, by simpa using h2, h3⟩
        · refine Or.inr ⟨?_, h3⟩
          simp only [List.length_cons]
          omega
set_option maxHeartbeats 4000000 in
set_option maxRecDepth 20000 in
theorem sxs_ok {p : Program} {l : Launch} {e : Env} {s : State} {m : MethodId} {args : Array Value} {below : List Frame} {meth : Method} {c : Code} {H : Heap} {locs : List Loc}
    {cc : ByteArray} {pc : Nat} {ls : Array Slot} {D : va_G} {aC : Nat → ClassId} {ad : Nat → Nat} {w : Wd} {σ : Sg} {own : String} {nL hh : Nat} {y0 : MethodName} {ml0 : Nat}
    {ft : Nat → Option (Nat × Nat)} {c32 : Nat → Option Int32} {c64 : Nat → Option Int64} {ce : Nat → Option (Nat × Option Nat × WP)} {sf : Nat → Option Nat} {ret : Option FieldType} {Q : Option Value → Sg → Prop} {K : Nat → VL → List Value → Sg → Prop}
    (hx : p.tables.exec = Jvm.exec) (hb : c.code = cc) (hml : c.maxLocals = nL) (hr : meth.sig.returnType = ret) (hlocks : meth.locks = false) (hown : s.vm.findClass own = some m.cls) (hts : ∀ x ∈ Cond.code y0 cc ml0 ret :: big, x.before args s = true) (hK : KK D aC ad (AW w ad) s s.heap) (hj : ∀ a b, a < wS w → b < wS w → ad a = ad b → a = b)
    (hft : ∀ x f, ft x = some f → ftOK own x f.1 f.2) (h32 : ∀ x v, c32 x = some v → Cond.constant own x v ∈ big) (h64 : ∀ x v, c64 x = some v → Cond.constantLong own x v ∈ big) (hce : ∀ x q, ce x = some q → ceOK l w own hh x q.1 q.2.1 q.2.2)
    (hsf : ∀ x a, sf x = some a → (a = 1000000 ∧ Cond.fieldLink own x "FrameProver$Machine" "INPUT_LANES" "[I" ∈ big) ∨ (a = 1000001 ∧ Cond.fieldLink own x "FrameProver$StateSet" "ONES" "[J" ∈ big))
    (hkK : ∀ (pc : Nat) (lv : VL) (st : List Value) (τ : Sg) (H : Heap) (locs : List Loc) (ls : Array Slot), lv_has ls nL (rel ad lv) → Pic D aC w ad τ H → va_S (AW w ad) s.heap H locs → K pc lv st τ → W p l e (rmh hh) s m args below meth c H locs 0 0 (MQ below (Qg w D aC ad Q) args s 0 0 (AW w ad)) (F0 m pc ls (st.map (vr ad))))
    {i : Instr} {n : Nat} {lv : VL} {st : List Value} (hok : okI cc nL pc i n = true) (hl : lv_has ls nL (rel ad lv)) (hP : Pic D aC w ad σ H) (hS : va_S (AW w ad) s.heap H locs) (h : sxs w ft c32 c64 ce sf ret Q K pc i n lv st σ) :
    W p l e (rmh hh) s m args below meth c H locs 0 0 (MQ below (Qg w D aC ad Q) args s 0 0 (AW w ad)) (F0 m pc ls (st.map (vr ad))) := by
  have hbt : ∀ x ∈ big, x.before args s = true := fun x h => hts x (List.mem_cons_of_mem _ h)
  cases i with
  | iconst v =>
    obtain ⟨⟨hd, hn⟩, hst⟩ := ok_e hok
    have hn : n = 1 := hn
    subst hn
    exact lv_iconst hx hb hd rfl (hkK _ _ _ _ _ _ _ hl hP hS h)
  | bipush v =>
    obtain ⟨⟨hd, hn⟩, hst⟩ := ok_e hok
    have hn : n = 2 := hn
    subst hn
    exact lv_bipush hx hb hd rfl (hkK _ _ _ _ _ _ _ hl hP hS h)
  | sipush v =>
    obtain ⟨⟨hd, hn⟩, hst⟩ := ok_e hok
    have hn : n = 3 := hn
    subst hn
    exact lv_sipush hx hb hd rfl (hkK _ _ _ _ _ _ _ hl hP hS h)
  | lconst v =>
    obtain ⟨⟨hd, hn⟩, hst⟩ := ok_e hok
    have hn : n = 1 := hn
    subst hn
    exact lv_lconst hx hb hd rfl (hkK _ _ _ _ _ _ _ hl hP hS h)
  | ldc x =>
    obtain ⟨⟨hd, hn⟩, hst⟩ := ok_e hok
    have hn : n = 2 := hn
    subst hn
    obtain ⟨v, hv, h⟩ := onS_e h
    exact lv_ldc hx hb hown (hbt _ (h32 _ _ hv)) hd (hkK _ _ _ _ _ _ _ hl hP hS h)
  | ldc2_w x =>
    obtain ⟨⟨hd, hn⟩, hst⟩ := ok_e hok
    have hn : n = 3 := hn
    subst hn
    obtain ⟨v, hv, h⟩ := onS_e h
    exact lv_ldc2 hx hb hown (hbt _ (h64 _ _ hv)) hd (hkK _ _ _ _ _ _ _ hl hP hS h)
  | iload_n k =>
    obtain ⟨⟨hd, hn⟩, hst⟩ := ok_e hok
    have hn : n = 1 := hn
    subst hn
    obtain ⟨x, hv, h⟩ := lki_e h
    exact lv_iload_n hx hb hd rfl (lk_has hl hv) (hkK _ _ _ _ _ _ _ hl hP hS h)
  | iload k =>
    obtain ⟨⟨hd, hn⟩, hst⟩ := ok_e hok
    have hn : n = 2 := hn
    subst hn
    obtain ⟨x, hv, h⟩ := lki_e h
    exact lv_iload hx hb hd (lk_has hl hv) (hkK _ _ _ _ _ _ _ hl hP hS h)
  | lload_n k =>
    obtain ⟨⟨hd, hn⟩, hst⟩ := ok_e hok
    have hn : n = 1 := hn
    subst hn
    obtain ⟨x, hv, h⟩ := lkl_e h
    exact lv_lload_n hx hb hd rfl (lk_has hl hv) (hkK _ _ _ _ _ _ _ hl hP hS h)
  | lload k =>
    obtain ⟨⟨hd, hn⟩, hst⟩ := ok_e hok
    have hn : n = 2 := hn
    subst hn
    obtain ⟨x, hv, h⟩ := lkl_e h
    exact lv_lload hx hb hd (lk_has hl hv) (hkK _ _ _ _ _ _ _ hl hP hS h)
  | aload_n k =>
    obtain ⟨⟨hd, hn⟩, hst⟩ := ok_e hok
    have hn : n = 1 := hn
    subst hn
    obtain ⟨x, hv, h⟩ := lkr_e h
    exact lv_aload_n hx hb hd rfl (lk_has hl hv) (hkK _ _ _ _ _ _ _ hl hP hS h)
  | aload k =>
    obtain ⟨⟨hd, hn⟩, hst⟩ := ok_e hok
    have hn : n = 2 := hn
    subst hn
    obtain ⟨x, hv, h⟩ := lkr_e h
    exact lv_aload hx hb hd (lk_has hl hv) (hkK _ _ _ _ _ _ _ hl hP hS h)
  | istore_n k =>
    obtain ⟨⟨hd, hn⟩, hst⟩ := ok_e hok
    have hn : n = 1 := hn
    subst hn
    obtain ⟨x, r, rfl, h⟩ := p1i_e h
    exact lv_istore_n (lv' := rel ad (((k : Nat), .int x) :: dl lv (k : Nat))) hx hb hd rfl hl (Nat.blt_eq.mp hst) (congrArg (fun z => ((k : Nat), Value.int x) :: z) (dl_eq ad (k : Nat) lv)) (fun ls hl => hkK _ _ _ _ _ _ _ hl hP hS h)
  | istore k =>
    obtain ⟨⟨hd, hn⟩, hst⟩ := ok_e hok
    have hn : n = 2 := hn
    subst hn
    obtain ⟨x, r, rfl, h⟩ := p1i_e h
    exact lv_istore (lv' := rel ad ((k, .int x) :: dl lv k)) hx hb hd hl (Nat.blt_eq.mp hst) (congrArg (fun z => (k, Value.int x) :: z) (dl_eq ad k lv)) (fun ls hl => hkK _ _ _ _ _ _ _ hl hP hS h)
  | astore_n k =>
    obtain ⟨⟨hd, hn⟩, hst⟩ := ok_e hok
    have hn : n = 1 := hn
    subst hn
    obtain ⟨x, r, rfl, h⟩ := p1r_e h
    exact lv_astore_n (lv' := rel ad (((k : Nat), .ref x) :: dl lv (k : Nat))) hx hb hd rfl hl (Nat.blt_eq.mp hst) (congrArg (fun z => ((k : Nat), Value.ref (ad x)) :: z) (dl_eq ad (k : Nat) lv)) (fun ls hl => hkK _ _ _ _ _ _ _ hl hP hS h)
  | astore k =>
    obtain ⟨⟨hd, hn⟩, hst⟩ := ok_e hok
    have hn : n = 2 := hn
    subst hn
    obtain ⟨x, r, rfl, h⟩ := p1r_e h
    exact lv_astore (lv' := rel ad ((k, .ref x) :: dl lv k)) hx hb hd hl (Nat.blt_eq.mp hst) (congrArg (fun z => (k, Value.ref (ad x)) :: z) (dl_eq ad k lv)) (fun ls hl => hkK _ _ _ _ _ _ _ hl hP hS h)
  | lstore_n k =>
    obtain ⟨⟨hd, hn⟩, hst⟩ := ok_e hok
    have hn : n = 1 := hn
    subst hn
    obtain ⟨x, r, rfl, h⟩ := p1l_e h
    exact lv_lstore_n (lv' := rel ad (((k : Nat), .long x) :: dl2 lv (k : Nat))) hx hb hd rfl hl (Nat.blt_eq.mp hst) (congrArg (fun z => ((k : Nat), Value.long x) :: z) (dl2_eq ad (k : Nat) lv)) (fun ls hl => hkK _ _ _ _ _ _ _ hl hP hS h)
  | lstore k =>
    obtain ⟨⟨hd, hn⟩, hst⟩ := ok_e hok
    have hn : n = 2 := hn
    subst hn
    obtain ⟨x, r, rfl, h⟩ := p1l_e h
    exact lv_lstore (lv' := rel ad ((k, .long x) :: dl2 lv k)) hx hb hd hl (Nat.blt_eq.mp hst) (congrArg (fun z => (k, Value.long x) :: z) (dl2_eq ad k lv)) (fun ls hl => hkK _ _ _ _ _ _ _ hl hP hS h)
  | iinc k v =>
    obtain ⟨⟨hd, hn⟩, hst⟩ := ok_e hok
    have hn : n = 3 := hn
    subst hn
    obtain ⟨x, hv, h⟩ := lki_e h
    obtain ⟨q, hq⟩ := List.getElem?_of_mem (rel_mem (ad := ad) (lk_mem hv))
    exact lv_iinc (lv' := rel ad ((k, .int (x + Int32.ofInt v)) :: dl lv k)) hx hb hd hl hq rfl (Nat.blt_eq.mp hst) (congrArg (fun z => (k, Value.int (x + Int32.ofInt v)) :: z) (dl_eq ad k lv)) (fun ls hl => hkK _ _ _ _ _ _ _ hl hP hS h)
  | iadd =>
    obtain ⟨⟨hd, hn⟩, hst⟩ := ok_e hok
    have hn : n = 1 := hn
    subst hn
    obtain ⟨y, x, r, rfl, h⟩ := p2i_e h
    exact lv_iadd hx hb hd (hkK _ _ _ _ _ _ _ hl hP hS h)
  | isub =>
    obtain ⟨⟨hd, hn⟩, hst⟩ := ok_e hok
    have hn : n = 1 := hn
    subst hn
    obtain ⟨y, x, r, rfl, h⟩ := p2i_e h
    exact lv_isub hx hb hd (hkK _ _ _ _ _ _ _ hl hP hS h)
  | imul =>
    obtain ⟨⟨hd, hn⟩, hst⟩ := ok_e hok
    have hn : n = 1 := hn
    subst hn
    obtain ⟨y, x, r, rfl, h⟩ := p2i_e h
    exact lv_imul hx hb hd (hkK _ _ _ _ _ _ _ hl hP hS h)
  | iand =>
    obtain ⟨⟨hd, hn⟩, hst⟩ := ok_e hok
    have hn : n = 1 := hn
    subst hn
    obtain ⟨y, x, r, rfl, h⟩ := p2i_e h
    exact lv_iand hx hb hd (hkK _ _ _ _ _ _ _ hl hP hS h)
  | ior =>
    obtain ⟨⟨hd, hn⟩, hst⟩ := ok_e hok
    have hn : n = 1 := hn
    subst hn
    obtain ⟨y, x, r, rfl, h⟩ := p2i_e h
    exact lv_ior hx hb hd (hkK _ _ _ _ _ _ _ hl hP hS h)
  | ixor =>
    obtain ⟨⟨hd, hn⟩, hst⟩ := ok_e hok
    have hn : n = 1 := hn
    subst hn
    obtain ⟨y, x, r, rfl, h⟩ := p2i_e h
    exact lv_ixor hx hb hd (hkK _ _ _ _ _ _ _ hl hP hS h)
  | ishl =>
    obtain ⟨⟨hd, hn⟩, hst⟩ := ok_e hok
    have hn : n = 1 := hn
    subst hn
    obtain ⟨y, x, r, rfl, h⟩ := p2i_e h
    exact lv_ishl hx hb hd (hkK _ _ _ _ _ _ _ hl hP hS h)
  | ishr =>
    obtain ⟨⟨hd, hn⟩, hst⟩ := ok_e hok
    have hn : n = 1 := hn
    subst hn
    obtain ⟨y, x, r, rfl, h⟩ := p2i_e h
    exact lv_ishr hx hb hd (hkK _ _ _ _ _ _ _ hl hP hS h)
  | idiv =>
    obtain ⟨⟨hd, hn⟩, hst⟩ := ok_e hok
    have hn : n = 1 := hn
    subst hn
    obtain ⟨y, x, r, rfl, h0, h⟩ := p2i_e h
    exact lv_idiv hx hb hd h0 (hkK _ _ _ _ _ _ _ hl hP hS h)
  | irem =>
    obtain ⟨⟨hd, hn⟩, hst⟩ := ok_e hok
    have hn : n = 1 := hn
    subst hn
    obtain ⟨y, x, r, rfl, h0, h⟩ := p2i_e h
    exact lv_irem hx hb hd h0 (hkK _ _ _ _ _ _ _ hl hP hS h)
  | ladd =>
    obtain ⟨⟨hd, hn⟩, hst⟩ := ok_e hok
    have hn : n = 1 := hn
    subst hn
    obtain ⟨y, x, r, rfl, h⟩ := p2l_e h
    exact lv_ladd hx hb hd (hkK _ _ _ _ _ _ _ hl hP hS h)
  | lsub =>
    obtain ⟨⟨hd, hn⟩, hst⟩ := ok_e hok
    have hn : n = 1 := hn
    subst hn
    obtain ⟨y, x, r, rfl, h⟩ := p2l_e h
    exact lv_lsub hx hb hd (hkK _ _ _ _ _ _ _ hl hP hS h)
  | land =>
    obtain ⟨⟨hd, hn⟩, hst⟩ := ok_e hok
    have hn : n = 1 := hn
    subst hn
    obtain ⟨y, x, r, rfl, h⟩ := p2l_e h
    exact lv_land hx hb hd (hkK _ _ _ _ _ _ _ hl hP hS h)
  | lor =>
    obtain ⟨⟨hd, hn⟩, hst⟩ := ok_e hok
    have hn : n = 1 := hn
    subst hn
    obtain ⟨y, x, r, rfl, h⟩ := p2l_e h
    exact lv_lor hx hb hd (hkK _ _ _ _ _ _ _ hl hP hS h)
  | lxor =>
    obtain ⟨⟨hd, hn⟩, hst⟩ := ok_e hok
    have hn : n = 1 := hn
    subst hn
    obtain ⟨y, x, r, rfl, h⟩ := p2l_e h
    exact lv_lxor hx hb hd (hkK _ _ _ _ _ _ _ hl hP hS h)
  | ineg =>
    obtain ⟨⟨hd, hn⟩, hst⟩ := ok_e hok
    have hn : n = 1 := hn
    subst hn
    obtain ⟨x, r, rfl, h⟩ := p1i_e h
    exact lv_ineg hx hb hd (hkK _ _ _ _ _ _ _ hl hP hS h)
  | lneg =>
    obtain ⟨⟨hd, hn⟩, hst⟩ := ok_e hok
    have hn : n = 1 := hn
    subst hn
    obtain ⟨x, r, rfl, h⟩ := p1l_e h
    exact lv_lneg hx hb hd (hkK _ _ _ _ _ _ _ hl hP hS h)
  | i2l =>
    obtain ⟨⟨hd, hn⟩, hst⟩ := ok_e hok
    have hn : n = 1 := hn
    subst hn
    obtain ⟨x, r, rfl, h⟩ := p1i_e h
    exact lv_i2l hx hb hd rfl (hkK _ _ _ _ _ _ _ hl hP hS h)
  | l2i =>
    obtain ⟨⟨hd, hn⟩, hst⟩ := ok_e hok
    have hn : n = 1 := hn
    subst hn
    obtain ⟨x, r, rfl, h⟩ := p1l_e h
    exact lv_l2i hx hb hd rfl (hkK _ _ _ _ _ _ _ hl hP hS h)
  | lshl =>
    obtain ⟨⟨hd, hn⟩, hst⟩ := ok_e hok
    have hn : n = 1 := hn
    subst hn
    obtain ⟨y, x, r, rfl, h⟩ := pil_e h
    exact lv_lshl hx hb hd rfl (hkK _ _ _ _ _ _ _ hl hP hS h)
  | lushr =>
    obtain ⟨⟨hd, hn⟩, hst⟩ := ok_e hok
    have hn : n = 1 := hn
    subst hn
    obtain ⟨y, x, r, rfl, h⟩ := pil_e h
    exact lv_lushr hx hb hd rfl (hkK _ _ _ _ _ _ _ hl hP hS h)
  | lcmp =>
    obtain ⟨⟨hd, hn⟩, hst⟩ := ok_e hok
    have hn : n = 1 := hn
    subst hn
    obtain ⟨y, x, r, rfl, h⟩ := p2l_e h
    exact W.lcmp hx hb hd (hkK _ _ _ _ _ _ _ hl hP hS h)
  | dup =>
    obtain ⟨⟨hd, hn⟩, hst⟩ := ok_e hok
    have hn : n = 1 := hn
    subst hn
    obtain ⟨v, r, rfl, hc, h⟩ := p1v_e h
    exact lv_dup hx hb hd (cat1_1 ad hc) (hkK _ _ _ _ _ _ _ hl hP hS h)
  | dup2 =>
    obtain ⟨⟨hd, hn⟩, hst⟩ := ok_e hok
    have hn : n = 1 := hn
    subst hn
    obtain ⟨v, r1, rfl, hc, h⟩ := p1v_e h
    obtain ⟨u, r, rfl, hc2, h⟩ := p1v_e h
    exact lv_dup2_11 hx hb hd (cat1_1 ad hc) (cat1_1 ad hc2) (hkK _ _ _ _ _ _ _ hl hP hS h)
  | pop =>
    obtain ⟨⟨hd, hn⟩, hst⟩ := ok_e hok
    have hn : n = 1 := hn
    subst hn
    obtain ⟨v, r, rfl, hc, h⟩ := p1v_e h
    exact lv_pop hx hb hd (cat1_1 ad hc) (hkK _ _ _ _ _ _ _ hl hP hS h)
  | goto t =>
    obtain ⟨⟨ht, hd⟩, hn⟩ := ok_j hok
    exact lv_goto (tgt := t.toNat) hx hb hd (by omega) (hkK _ _ _ _ _ _ _ hl hP hS h)
  | ifCond k t =>
    obtain ⟨⟨ht, hd⟩, hn⟩ := ok_j hok
    subst hn
    cases k with
    | eq =>
      obtain ⟨x, r, rfl, h⟩ := p1i_e h
      exact lv_if_eq (tgt := t.toNat) hx hb hd (by omega) (fun q => (hkK _ _ _ _ _ _ _ hl hP hS (h.1 q))) (fun q => (hkK _ _ _ _ _ _ _ hl hP hS (h.2 q)))
    | ne =>
      obtain ⟨x, r, rfl, h⟩ := p1i_e h
      exact lv_if_ne (tgt := t.toNat) hx hb hd (by omega) (fun q => (hkK _ _ _ _ _ _ _ hl hP hS (h.2 q))) (fun q => (hkK _ _ _ _ _ _ _ hl hP hS (h.1 q)))
    | lt =>
      obtain ⟨x, r, rfl, h⟩ := p1i_e h
      exact lv_if_lt (tgt := t.toNat) hx hb hd (by omega) (fun q => (hkK _ _ _ _ _ _ _ hl hP hS (h.1 q))) (fun q => (hkK _ _ _ _ _ _ _ hl hP hS (h.2 q)))
    | ge =>
      obtain ⟨x, r, rfl, h⟩ := p1i_e h
      exact lv_if_ge (tgt := t.toNat) hx hb hd (by omega) (fun q => (hkK _ _ _ _ _ _ _ hl hP hS (h.2 (i_le_nlt q)))) (fun q => (hkK _ _ _ _ _ _ _ hl hP hS (h.1 (i_nle_lt q))))
    | gt =>
      obtain ⟨x, r, rfl, h⟩ := p1i_e h
      exact lv_if_gt (tgt := t.toNat) hx hb hd (by omega) (fun q => (hkK _ _ _ _ _ _ _ hl hP hS (h.1 q))) (fun q => (hkK _ _ _ _ _ _ _ hl hP hS (h.2 q)))
    | le =>
      obtain ⟨x, r, rfl, h⟩ := p1i_e h
      exact lv_if_le (tgt := t.toNat) hx hb hd (by omega) (fun q => (hkK _ _ _ _ _ _ _ hl hP hS (h.2 (i_le_nlt q)))) (fun q => (hkK _ _ _ _ _ _ _ hl hP hS (h.1 (i_nle_lt q))))
  | if_icmp k t =>
    obtain ⟨⟨ht, hd⟩, hn⟩ := ok_j hok
    subst hn
    cases k with
    | eq =>
      obtain ⟨y, x, r, rfl, h⟩ := p2i_e h
      exact lv_icmp_eq (tgt := t.toNat) hx hb hd (by omega) (fun q => (hkK _ _ _ _ _ _ _ hl hP hS (h.1 q))) (fun q => (hkK _ _ _ _ _ _ _ hl hP hS (h.2 q)))
    | ne =>
      obtain ⟨y, x, r, rfl, h⟩ := p2i_e h
      exact lv_icmp_ne (tgt := t.toNat) hx hb hd (by omega) (fun q => (hkK _ _ _ _ _ _ _ hl hP hS (h.2 q))) (fun q => (hkK _ _ _ _ _ _ _ hl hP hS (h.1 q)))
    | lt =>
      obtain ⟨y, x, r, rfl, h⟩ := p2i_e h
      exact lv_icmp_lt (tgt := t.toNat) hx hb hd (by omega) (fun q => (hkK _ _ _ _ _ _ _ hl hP hS (h.1 q))) (fun q => (hkK _ _ _ _ _ _ _ hl hP hS (h.2 q)))
    | ge =>
      obtain ⟨y, x, r, rfl, h⟩ := p2i_e h
      exact lv_icmp_ge (tgt := t.toNat) hx hb hd (by omega) (fun q => (hkK _ _ _ _ _ _ _ hl hP hS (h.2 (i_le_nlt q)))) (fun q => (hkK _ _ _ _ _ _ _ hl hP hS (h.1 (i_nle_lt q))))
    | gt =>
      obtain ⟨y, x, r, rfl, h⟩ := p2i_e h
      exact lv_icmp_gt (tgt := t.toNat) hx hb hd (by omega) (fun q => (hkK _ _ _ _ _ _ _ hl hP hS (h.1 q))) (fun q => (hkK _ _ _ _ _ _ _ hl hP hS (h.2 q)))
    | le =>
      obtain ⟨y, x, r, rfl, h⟩ := p2i_e h
      exact lv_icmp_le (tgt := t.toNat) hx hb hd (by omega) (fun q => (hkK _ _ _ _ _ _ _ hl hP hS (h.2 (i_le_nlt q)))) (fun q => (hkK _ _ _ _ _ _ _ hl hP hS (h.1 (i_nle_lt q))))
  | lookupswitch d ps =>
    have hd := of_decide_eq_true hok
    obtain ⟨x, r, rfl, h⟩ := p1i_e h
    obtain ⟨hs, h⟩ := onB_e h
    have h1 := swL_e h
    obtain ⟨h2, h3⟩ := onB_e h1
    exact lv_lookup (tgt := ((pc : Int) + Op.lookupswitch.offset ps.toList d x.toInt).toNat) hx hb hd hs rfl (Int.toNat_of_nonneg (of_decide_eq_true h2)).symm (hkK _ _ _ _ _ _ _ hl hP hS (h3))
  | tableswitch d lo hi offs =>
    have hd := of_decide_eq_true hok
    obtain ⟨x, r, rfl, h⟩ := p1i_e h
    obtain ⟨hs, h⟩ := onB_e h
    have hs := of_decide_eq_true hs
    rcases swT_e h with ⟨j, o, h1, h2, h3⟩ | ⟨h1, h3⟩
    · obtain ⟨h4, h5⟩ := onB_e h3
      have hj : j < offs.size := by simpa using (List.getElem?_eq_some_iff.mp h2).1
      refine lv_tableIn (off := o) (tgt := ((pc : Int) + o).toNat) hx hb hd (by omega) (by omega) ?_ (Int.toNat_of_nonneg (of_decide_eq_true h4)).symm (hkK _ _ _ _ _ _ _ hl hP hS (h5))
      rw [show (x.toInt - lo).toNat = j by omega, ← h2, Array.getElem?_toList]
    · obtain ⟨h4, h5⟩ := onB_e h3
      exact lv_tableOut (tgt := ((pc : Int) + d).toNat) hx hb hd (by simp only [Array.length_toList] at h1; omega) (Int.toNat_of_nonneg (of_decide_eq_true h4)).symm (hkK _ _ _ _ _ _ _ hl hP hS (h5))
  | getfield x =>
    obtain ⟨⟨hd, hn⟩, hst⟩ := ok_e hok
    have hn : n = 3 := hn
    subst hn
    obtain ⟨f, hf, h⟩ := onS_e h
    obtain ⟨a, r, rfl, h⟩ := p1r_e h
    obtain ⟨hk, h⟩ := onB_e h
    exact pw_get hx hb hbt hown hK.1 hP (hft _ _ hf) (isK_1 hk) (isK_2 hk) hd (hkK _ _ _ _ _ _ _ hl hP hS h)
  | putfield x =>
    obtain ⟨⟨hd, hn⟩, hst⟩ := ok_e hok
    have hn : n = 3 := hn
    subst hn
    obtain ⟨f, hf, h⟩ := onS_e h
    obtain ⟨v, a, r, rfl, h⟩ := pir_e h
    obtain ⟨hk, h⟩ := onB_e h
    rw [Bool.and_eq_true] at hk
    obtain ⟨hty, h⟩ := putK_e h
    exact pw_put hx hb hbt hown hK.1 hP hj hS (hft _ _ hf) (by simpa using hk.2) (isK_1 hk.1) (isK_2 hk.1) hty hd (fun H1 locs1 hP hS => hkK _ _ _ _ _ _ _ hl hP hS h)
  | getstatic x =>
    obtain ⟨⟨hd, hn⟩, hst⟩ := ok_e hok
    have hn : n = 3 := hn
    subst hn
    obtain ⟨a, ha, h⟩ := onS_e h
    rcases hsf _ _ ha with ⟨rfl, hm⟩ | ⟨rfl, hm⟩
    · exact va_gets hx hb hK.2.2.1.1 hS hown (hbt _ hm) (fun _ z => z) hd (hkK _ _ _ _ _ _ _ hl hP hS h)
    · exact va_gets hx hb hK.2.2.2.1 hS hown (hbt _ hm) (fun _ z => z) hd (hkK _ _ _ _ _ _ _ hl hP hS h)
  | arraylength =>
    obtain ⟨⟨hd, hn⟩, hst⟩ := ok_e hok
    have hn : n = 1 := hn
    subst hn
    replace h := p1r_e h
    obtain ⟨a, r, rfl, h⟩ := h
    cases h0 : Nat.beq a 1000000 <;> rw [h0] at h
    · cases h1 : Nat.beq a 1000001 <;> rw [h1] at h
      · obtain ⟨hk, h⟩ := onB_e h
        simp only [Bool.and_eq_true, Nat.ble_eq, Nat.blt_eq] at hk
        exact pw_alen hx hb hK.1 hP hk.1 hk.2.1 hk.2.2 hd (hkK _ _ _ _ _ _ _ hl hP hS h)
      · have e1 := Nat.eq_of_beq_eq_true h1
        subst e1
        exact va_tlen hx hb hK.2.2.2.2 hS rfl hd (hkK _ _ _ _ _ _ _ hl hP hS h)
    · have e1 := Nat.eq_of_beq_eq_true h0
      subst e1
      exact va_tlen hx hb hK.2.2.1.2 hS rfl hd (hkK _ _ _ _ _ _ _ hl hP hS h)
  | iaload =>
    obtain ⟨⟨hd, hn⟩, hst⟩ := ok_e hok
    have hn : n = 1 := hn
    subst hn
    replace h := pir_e h
    obtain ⟨j, a, r, rfl, h⟩ := h
    cases h0 : Nat.beq a 1000000 <;> rw [h0] at h
    · obtain ⟨hk, h9, h⟩ := onB_e h
      exact pw_iald hx hb hK.1 hP hk h9 hd (hkK _ _ _ _ _ _ _ hl hP hS h)
    · have e1 := Nat.eq_of_beq_eq_true h0
      subst e1
      obtain ⟨h9, h⟩ := h
      exact va_ti hx hb hK.2.2.1.2 hS h9 rfl hd (hkK _ _ _ _ _ _ _ hl hP hS h)
  | baload =>
    obtain ⟨⟨hd, hn⟩, hst⟩ := ok_e hok
    have hn : n = 1 := hn
    subst hn
    replace h := pir_e h
    obtain ⟨j, a, r, rfl, h⟩ := h
    obtain ⟨hk, h9, h⟩ := onB_e h
    exact pw_zald hx hb hK.1 hP hk h9 hd (hkK _ _ _ _ _ _ _ hl hP hS h)
  | laload =>
    obtain ⟨⟨hd, hn⟩, hst⟩ := ok_e hok
    have hn : n = 1 := hn
    subst hn
    replace h := pir_e h
    obtain ⟨j, a, r, rfl, h⟩ := h
    cases h0 : Nat.beq a 1000001 <;> rw [h0] at h
    · obtain ⟨hk, h9, h⟩ := onB_e h
      exact pw_lald hx hb hK.1 hP hk h9 hd (hkK _ _ _ _ _ _ _ hl hP hS h)
    · have e1 := Nat.eq_of_beq_eq_true h0
      subst e1
      obtain ⟨h9, h⟩ := h
      exact va_tl hx hb hK.2.2.2.2 hS h9 rfl hd (hkK _ _ _ _ _ _ _ hl hP hS h)
  | aaload =>
    obtain ⟨⟨hd, hn⟩, hst⟩ := ok_e hok
    have hn : n = 1 := hn
    subst hn
    obtain ⟨j, a, r, rfl, h⟩ := pir_e h
    obtain ⟨hk, h9, h⟩ := onB_e h
    rcases Bool.or_eq_true _ _ ▸ hk with hk | hk
    · exact pw_aald3 hx hb hK.1 hP hk h9 hd (hkK _ _ _ _ _ _ _ hl hP hS h)
    · exact pw_aald4 hx hb hK.1 hP hk h9 hd (hkK _ _ _ _ _ _ _ hl hP hS h)
  | iastore =>
    obtain ⟨⟨hd, hn⟩, hst⟩ := ok_e hok
    have hn : n = 1 := hn
    subst hn
    obtain ⟨x, j, a, r, rfl, h⟩ := piir_e h
    obtain ⟨hk, h9, h⟩ := onB_e h
    exact pw_iast hx hb hK.1 hP hj hS hk h9 hd (fun H1 locs1 hP hS => hkK _ _ _ _ _ _ _ hl hP hS h)
  | bastore =>
    obtain ⟨⟨hd, hn⟩, hst⟩ := ok_e hok
    have hn : n = 1 := hn
    subst hn
    obtain ⟨x, j, a, r, rfl, h⟩ := piir_e h
    obtain ⟨hk, h9, h⟩ := onB_e h
    exact pw_zast hx hb hK.1 hP hj hS hk h9 hd (fun H1 locs1 hP hS => hkK _ _ _ _ _ _ _ hl hP hS h)
  | lastore =>
    obtain ⟨⟨hd, hn⟩, hst⟩ := ok_e hok
    have hn : n = 1 := hn
    subst hn
    obtain ⟨x, j, a, r, rfl, h⟩ := plir_e h
    obtain ⟨hk, h9, h⟩ := onB_e h
    exact pw_last hx hb hK.1 hP hj hS hk h9 hd (fun H1 locs1 hP hS => hkK _ _ _ _ _ _ _ hl hP hS h)
  | invokevirtual x =>
    obtain ⟨⟨hd, hn⟩, hst⟩ := ok_e hok
    have hn : n = 3 := hn
    subst hn
    obtain ⟨q, hq, h⟩ := onS_e h
    obtain ⟨ci, hci, h⟩ := onS_e h
    obtain ⟨z, hz, h⟩ := onS_e h
    obtain ⟨a, As, hz1, h⟩ := p1r_e h
    obtain ⟨hk, h⟩ := onB_e h
    rw [Bool.and_eq_true] at hk
    obtain ⟨pre, e1, e2, e3⟩ := popA_e hz
    have hst2 : st.map (vr ad) = ((Value.ref a :: As).map (vr ad)).reverse ++ z.2.map (vr ad) := by
      rw [e2, List.map_append, ← List.map_reverse, ← hz1, e3]
      simp
    rw [hst2]
    have hq2 := hce _ _ hq
    rw [hci] at hq2
    exact pw_inv (y0 := y0) (ml0 := ml0) (ret0 := ret) (h := hh) hx hb hml hown hts hK hj hP hS rfl hl.1 ⟨rfl, rfl⟩ hq2 (by rw [← hz1, e3]; simp [e1]) (Nat.le_of_ble_eq_true hk.2) h ⟨hd, a, As, rfl, hk.1⟩ (fun v τ H1 locs1 h hP hS => by have h2 := hkK _ _ _ _ _ _ _ hl hP hS h; rw [map_tl] at h2; exact h2)
  | invokestatic x =>
    obtain ⟨⟨hd, hn⟩, hst⟩ := ok_e hok
    have hn : n = 3 := hn
    subst hn
    obtain ⟨q, hq, h⟩ := onS_e h
    obtain ⟨hn, h⟩ := onB_e h
    obtain ⟨z, hz, h⟩ := onS_e h
    obtain ⟨hk, h⟩ := onB_e h
    obtain ⟨pre, e1, e2, e3⟩ := popA_e hz
    have hst2 : st.map (vr ad) = (z.1.map (vr ad)).reverse ++ z.2.map (vr ad) := by
      rw [e2, List.map_append, ← List.map_reverse, e3]
      simp
    rw [hst2]
    have hq2 := hce _ _ hq
    rw [Option.isNone_iff_eq_none.mp hn] at hq2
    exact pw_inv (y0 := y0) (ml0 := ml0) (ret0 := ret) (h := hh) hx hb hml hown hts hK hj hP hS rfl hl.1 ⟨rfl, rfl⟩ hq2 (by rw [e3]; simp [e1]) (Nat.le_of_ble_eq_true hk) h hd (fun v τ H1 locs1 h hP hS => by have h2 := hkK _ _ _ _ _ _ _ hl hP hS h; rw [map_tl] at h2; exact h2)
  | ireturn =>
    obtain ⟨⟨hd, hn⟩, hst⟩ := ok_e hok
    have hn : n = 1 := hn
    subst hn
    obtain ⟨x, r, rfl, h⟩ := p1i_e h
    obtain ⟨hr0, h⟩ := onB_e h
    have hr0 := List.isEmpty_iff.mp hr0
    subst hr0
    rcases retI_e h with ⟨hr1, h⟩ | ⟨hr1, h0, h⟩
    · exact W.iret hx hb (hr.trans hr1) (fun t ht hW => ⟨⟨some (.int x), σ, rfl, h, by rw [ht]; exact hP⟩, hS.F ht⟩) hS.2.2 hd hlocks
    · exact W.zret hx hb (hr.trans hr1) (by rcases h0 with rfl | rfl <;> rfl) (fun t ht hW => ⟨⟨some (.int x), σ, rfl, h, by rw [ht]; exact hP⟩, hS.F ht⟩) hS.2.2 hd hlocks
  | lreturn =>
    obtain ⟨⟨hd, hn⟩, hst⟩ := ok_e hok
    have hn : n = 1 := hn
    subst hn
    replace h := p1l_e h
    obtain ⟨x, r, rfl, h⟩ := h
    replace h := onB_e h
    obtain ⟨hr0, h⟩ := h
    rw [Bool.and_eq_true] at hr0
    have hr1 := List.isEmpty_iff.mp hr0.1
    subst hr1
    exact W.lret hx hb (hr.trans (isLong_e hr0.2)) (fun t ht hW => ⟨⟨some (.long x), σ, rfl, h, by rw [ht]; exact hP⟩, hS.F ht⟩) hS.2.2 hd hlocks
  | areturn =>
    obtain ⟨⟨hd, hn⟩, hst⟩ := ok_e hok
    have hn : n = 1 := hn
    subst hn
    replace h := p1r_e h
    obtain ⟨a, r, rfl, h⟩ := h
    replace h := onB_e h
    obtain ⟨hr0, h⟩ := h
    rw [Bool.and_eq_true] at hr0
    have hr1 := List.isEmpty_iff.mp hr0.1
    subst hr1
    obtain ⟨C, hC⟩ := isObj_e hr0.2
    exact W.aret hx hb (hr.trans hC) (Or.inl ⟨C, rfl⟩) (Or.inr ⟨ad a, rfl⟩) (fun t ht hW => ⟨⟨some (.ref a), σ, rfl, h, by rw [ht]; exact hP⟩, hS.F ht⟩) hS.2.2 hd hlocks
  | return_ =>
    obtain ⟨⟨hd, hn⟩, hst⟩ := ok_e hok
    have hn : n = 1 := hn
    subst hn
    replace h := onB_e h
    obtain ⟨hr0, h⟩ := h
    rw [Bool.and_eq_true] at hr0
    have hr1 := List.isEmpty_iff.mp hr0.1
    subst hr1
    exact W.vret hx hb (hr.trans (Option.isNone_iff_eq_none.mp hr0.2)) (fun t ht hW => ⟨⟨none, σ, rfl, h, by rw [ht]; exact hP⟩, hS.F ht⟩) hS.2.2 hd hlocks
  | _ => exact False.elim h
end
section
theorem lg_len (ad : Nat → Nat) : ∀ As : List Value, (lg_sl (As.map (vr ad))).length = (lg_sl As).length
  | [] => rfl
  | v :: r => by
    have ih := lg_len ad r
    cases v <;> simp_all [lg_sl, vr, Value.category]
theorem lv_args_rel (ad : Nat → Nat) : ∀ (As : List Value) (k : Nat), lv_args k (As.map (vr ad)) = rel ad (arg0 k As)
  | [], _ => rfl
  | v :: r, k => by
    have e : (if (vr ad v).category = 2 then k + 2 else k + 1) = (bif cat1 v then k + 1 else k + 2) := by cases v <;> rfl
    show (k, vr ad v) :: lv_args (if (vr ad v).category = 2 then k + 2 else k + 1) (r.map (vr ad)) = (k, vr ad v) :: rel ad (arg0 (bif cat1 v then k + 1 else k + 2) r)
    rw [e, lv_args_rel ad r]
set_option maxHeartbeats 4000000 in
/-- from a place on, given the labels -/
theorem sx_ok {p : Program} {l : Launch} {e : Env} {s : State} {m : MethodId} {args : Array Value} {below : List Frame} {meth : Method} {c : Code}
    {cc : ByteArray} {D : va_G} {aC : Nat → ClassId} {ad : Nat → Nat} {w : Wd} {own : String} {nL hh : Nat} {y0 : MethodName} {ml0 : Nat}
    {ft : Nat → Option (Nat × Nat)} {c32 : Nat → Option Int32} {c64 : Nat → Option Int64} {ce : Nat → Option (Nat × Option Nat × WP)} {sf : Nat → Option Nat} {ret : Option FieldType} {Q : Option Value → Sg → Prop} {tab : Tab} {lab : Nat → Option (List Nat)} {P : Nat → List Value → Sg → Prop}
    (hx : p.tables.exec = Jvm.exec) (hb : c.code = cc) (hml : c.maxLocals = nL) (hr : meth.sig.returnType = ret) (hlocks : meth.locks = false) (hown : s.vm.findClass own = some m.cls) (hts : ∀ x ∈ Cond.code y0 cc ml0 ret :: big, x.before args s = true) (hK : KK D aC ad (AW w ad) s s.heap) (hj : ∀ a b, a < wS w → b < wS w → ad a = ad b → a = b)
    (hft : ∀ x f, ft x = some f → ftOK own x f.1 f.2) (h32 : ∀ x v, c32 x = some v → Cond.constant own x v ∈ big) (h64 : ∀ x v, c64 x = some v → Cond.constantLong own x v ∈ big) (hce : ∀ x q, ce x = some q → ceOK l w own hh x q.1 q.2.1 q.2.2)
    (hsf : ∀ x a, sf x = some a → (a = 1000000 ∧ Cond.fieldLink own x "FrameProver$Machine" "INPUT_LANES" "[I" ∈ big) ∨ (a = 1000001 ∧ Cond.fieldLink own x "FrameProver$StateSet" "ONES" "[J" ∈ big))
    (htab : ∀ pc q, tab pc = some q → okI cc nL pc q.1 q.2 = true)
    (hP9 : ∀ (pc : Nat) (ids : List Nat) (vs : List Value) (τ : Sg) (H : Heap) (locs : List Loc) (ls : Array Slot), lab pc = some ids → P pc vs τ → lv_has ls nL (rel ad (zipL ids vs)) → Pic D aC w ad τ H → va_S (AW w ad) s.heap H locs → W p l e (rmh hh) s m args below meth c H locs 0 0 (MQ below (Qg w D aC ad Q) args s 0 0 (AW w ad)) (F0 m pc ls [])) :
    ∀ (f pc : Nat) (lv : VL) (st : List Value) (σ : Sg) (H : Heap) (locs : List Loc) (ls : Array Slot), lv_has ls nL (rel ad lv) → Pic D aC w ad σ H → va_S (AW w ad) s.heap H locs → sx w ft c32 c64 ce sf ret tab lab P Q f pc lv st σ →
      W p l e (rmh hh) s m args below meth c H locs 0 0 (MQ below (Qg w D aC ad Q) args s 0 0 (AW w ad)) (F0 m pc ls (st.map (vr ad))) := by
  intro f
  induction f with
  | zero => intro pc lv st σ H locs ls _ _ _ h; exact h.elim
  | succ f ih =>
    intro pc lv st σ H locs ls hl hP hS h
    unfold sx at h
    cases hlab : lab pc with
    | some ids =>
      rw [hlab] at h
      obtain ⟨h1, h2⟩ := onB_e h
      obtain ⟨vs, h3, h4⟩ := onS_e h2
      rw [List.isEmpty_iff.mp h1]
      exact hP9 pc ids vs σ H locs ls hlab h4 (pick_zip hl h3) hP hS
    | none =>
      rw [hlab] at h
      obtain ⟨q, h1, h2⟩ := onS_e h
      exact sxs_ok hx hb hml hr hlocks hown hts hK hj hft h32 h64 hce hsf ih (htab _ _ h1) hl hP hS h2
set_option maxHeartbeats 4000000 in
/-- a method's contract out of its executor -/
theorem sxm_ok (l : Launch) {w : Wd} {y : MethodName} {cc : ByteArray} {nL : Nat} {ret : Option FieldType} {hh : Nat} {N : Nat}
    {ft : Nat → Option (Nat × Nat)} {c32 : Nat → Option Int32} {c64 : Nat → Option Int64} {ce : Nat → Option (Nat × Option Nat × WP)} {sf : Nat → Option Nat} {tab : Tab} {lab : Nat → Option (List Nat)}
    (hy : plainName y.cls = true) (hft : ∀ x f, ft x = some f → ftOK y.cls x f.1 f.2) (h32 : ∀ x v, c32 x = some v → Cond.constant y.cls x v ∈ big) (h64 : ∀ x v, c64 x = some v → Cond.constantLong y.cls x v ∈ big) (hce : ∀ x q, ce x = some q → ceOK l w y.cls hh x q.1 q.2.1 q.2.2)
    (hsf : ∀ x a, sf x = some a → (a = 1000000 ∧ Cond.fieldLink y.cls x "FrameProver$Machine" "INPUT_LANES" "[I" ∈ big) ∨ (a = 1000001 ∧ Cond.fieldLink y.cls x "FrameProver$StateSet" "ONES" "[J" ∈ big))
    (htab : tabOK cc nL tab N = true) (hN : ∀ pc, N ≤ pc → tab pc = none) (f : Nat) (hlen : ∀ (σ : Sg) (As : List Value) (Q : Option Value → Sg → Prop), sxm w ft c32 c64 ce sf ret tab lab f As σ Q → (lg_sl As).length ≤ nL) :
    Con l w y cc nL ret hh (sxm w ft c32 c64 ce sf ret tab lab f) := by
  intro D aC ad hj σ As Q
  refine Met.ofW (cc := cc) (maxL := nL) (ret := ret) hy rfl ?_
  intro p e s m args below meth c s₁ B hml hv
  obtain ⟨rfl, hK, hP, h⟩ := hv
  have hts := atoms_spec (ws := Cond.code y cc nL ret :: big) B.pre
  have hown : s.vm.findClass y.cls = some m.cls := findClass_of_methodNamed B.named
  have htb : ∀ pc q, tab pc = some q → okI cc nL pc q.1 q.2 = true := by
    intro pc q hq
    by_cases hlt : pc < N
    · have h1 := List.all_eq_true.mp htab pc (List.mem_range.mpr hlt)
      rw [hq] at h1
      exact h1
    · rw [hN pc (Nat.le_of_not_lt hlt)] at hq
      cases hq
  have hlg : (lg_sl (As.map (vr ad))).length = (lg_sl As).length := lg_len ad As
  have hl := lv_entry (As.map (vr ad)) (n := nL) (by rw [hlg]; exact hlen σ As Q h)
  rw [lg_entry_eq]
  generalize (lg_sl (As.map (vr ad)) ++ List.replicate (nL - (lg_sl (As.map (vr ad))).length) Slot.unset).toArray = ls at hl ⊢
  have hl : lv_has ls nL (rel ad (arg0 0 As)) := by rw [← lv_args_rel]; exact hl
  let P : Nat → List Value → Sg → Prop := fun pc vs τ => ∀ (ids : List Nat) (H : Heap) (locs : List Loc) (ls : Array Slot), lab pc = some ids → lv_has ls nL (rel ad (zipL ids vs)) → Pic D aC w ad τ H → va_S (AW w ad) s.heap H locs → W p l e (rmh hh) s m (As.map (vr ad)).toArray below meth c H locs 0 0 (MQ below (Qg w D aC ad Q) (As.map (vr ad)).toArray s 0 0 (AW w ad)) (F0 m pc ls [])
  have key := sx_ok (P := P) (lab := lab) (tab := tab) (Q := Q) B.exec B.bytes hml B.returns B.notSynchronized hown hts hK hj hft h32 h64 hce hsf htb (fun pc ids vs τ H locs ls h1 h2 h3 h4 h5 => h2 ids H locs ls h1 h3 h4 h5) f
  refine key 0 (arg0 0 As) [] σ s.heap [] ls hl hP va_S.rf (h P ?_)
  intro pc vs τ hb ids H locs ls h1 h3 h4 h5
  unfold sxb at hb
  rw [h1] at hb
  obtain ⟨ids2, h6, h7⟩ := onS_e hb
  cases h6
  obtain ⟨q, h6, h7⟩ := onS_e h7
  exact sxs_ok (st := []) B.exec B.bytes hml B.returns B.notSynchronized hown hts hK hj hft h32 h64 hce hsf key (htb _ _ h6) h3 h4 h5 h7
end
