/-! the words that every method's contract stands on: one list for all -/
def big : List Cond := lw_tbl.filter goodWord
theorem big_in {w : Cond} (i : Nat) (h : lw_tbl[i]? = some w) (g : goodWord w = true) : w ∈ big := List.mem_filter.mpr ⟨List.mem_of_getElem? h, g⟩
theorem big_inL {ws : List Cond} (ps : List Nat) (h : ws = ps.filterMap (fun i => lw_tbl[i]?)) (g : ws.all goodWord = true) : ∀ w ∈ ws, w ∈ big := by
  intro w hw
  have h1 := List.all_eq_true.mp g w hw
  rw [h] at hw
  obtain ⟨i, -, hi⟩ := List.mem_filterMap.mp hw
  exact big_in i hi h1
theorem big_good {y : MethodName} {cc : ByteArray} {maxL : Nat} {ret : Option FieldType} {y2 : MethodName} {c2 : ByteArray} {m2 : Nat} {r2 : Option FieldType} (h : Cond.code y2 c2 m2 r2 ∈ big) : GoodIn (Cond.code y cc maxL ret :: big) (Cond.code y2 c2 m2 r2 :: big) := by
  intro w hw
  have hb : w ∈ big := by
    rcases List.mem_cons.mp hw with e | e
    · rw [e]; exact h
    · exact e
  exact ⟨List.mem_cons_of_mem _ hb, good_of_word (List.mem_filter.mp hb).2⟩

theorem lay0 : ∀ w ∈ u_ws RX0 TX0 4, w ∈ big := big_inL [247, 249, 251, 253] (by decide +kernel) (by decide +kernel)
theorem lay1 : ∀ w ∈ u_ws RX1 TX1 6, w ∈ big := big_inL [264, 266, 268, 270, 272, 274] (by decide +kernel) (by decide +kernel)
theorem lay2 : ∀ w ∈ u_ws RX2 TX2 5, w ∈ big := big_inL [332, 334, 336, 338, 340] (by decide +kernel) (by decide +kernel)
theorem lay3 : ∀ w ∈ u_ws RX3 TX3 14, w ∈ big := big_inL [136, 138, 140, 142, 144, 146, 148, 150, 152, 154, 156, 158, 160, 162] (by decide +kernel) (by decide +kernel)
theorem lay4 : ∀ w ∈ u_ws RX4 TX4 10, w ∈ big := big_inL [296, 298, 300, 302, 304, 306, 308, 310, 312, 314] (by decide +kernel) (by decide +kernel)
theorem lay5 : ∀ w ∈ u_ws RX5 TX5 3, w ∈ big := big_inL [354, 356, 358] (by decide +kernel) (by decide +kernel)
theorem lay6 : ∀ w ∈ u_ws RX6 TX6 2, w ∈ big := big_inL [101, 103] (by decide +kernel) (by decide +kernel)
theorem lay7 : ∀ w ∈ u_ws RX7 TX7 1, w ∈ big := big_inL [179] (by decide +kernel) (by decide +kernel)
theorem lay8 : ∀ w ∈ u_ws RX8 TX8 11, w ∈ big := big_inL [197, 199, 201, 203, 205, 207, 209, 211, 213, 215, 217] (by decide +kernel) (by decide +kernel)
theorem lay9 : ∀ w ∈ u_ws RX9 TX9 9, w ∈ big := big_inL [410, 412, 414, 416, 418, 420, 422, 424, 426] (by decide +kernel) (by decide +kernel)
theorem lay10 : ∀ w ∈ u_ws RX10 TX10 47, w ∈ big := big_inL [1130, 1132, 1134, 1136, 1138, 1140, 1142, 1144, 1146, 1148, 1150, 1152, 1154, 1156, 1158, 1160, 1162, 1164, 1166, 1168, 1170, 1172, 1174, 1176, 1178, 1180, 1182, 1184, 1186, 1188, 1190, 1192, 1194, 1196, 1198, 1200, 1202, 1204, 1206, 1208, 1210, 1212, 1214, 1216, 1218, 1220, 1222] (by decide +kernel) (by decide +kernel)
def nestW : List Cond := [(Jvm.Cond.methodLinkNest "FrameProver" (9 : Nat) ({ cls := "FrameProver$Machine", name := "<init>", desc := "()V" } : Jvm.MethodName) "FrameProver"), (Jvm.Cond.methodLinkNest "FrameProver$Steps" (20 : Nat) ({ cls := "FrameProver$StateSet", name := "<init>", desc := "()V" } : Jvm.MethodName) "FrameProver"), (Jvm.Cond.methodLinkNest "FrameProver$Clauses" (9 : Nat) ({ cls := "FrameProver$StateSet", name := "<init>", desc := "()V" } : Jvm.MethodName) "FrameProver"), (Jvm.Cond.methodLinkNest "FrameProver$Frames" (26 : Nat) ({ cls := "FrameProver$StateSet", name := "<init>", desc := "()V" } : Jvm.MethodName) "FrameProver"), (Jvm.Cond.methodLinkNest "FrameProver" (63 : Nat) ({ cls := "FrameProver$Row", name := "<init>", desc := "()V" } : Jvm.MethodName) "FrameProver"), (Jvm.Cond.methodLinkNest "FrameProver$StateSet" (24 : Nat) ({ cls := "FrameProver", name := "maskOf", desc := "(I)I" } : Jvm.MethodName) "FrameProver"), (Jvm.Cond.methodLinkNest "FrameProver$StateSet" (28 : Nat) ({ cls := "FrameProver", name := "valuesOf", desc := "(I)I" } : Jvm.MethodName) "FrameProver"), (Jvm.Cond.methodLinkNest "FrameProver$Proof" (103 : Nat) ({ cls := "FrameProver", name := "cubeOf", desc := "(II)I" } : Jvm.MethodName) "FrameProver"), (Jvm.Cond.methodLinkNest "FrameProver$Frames" (72 : Nat) ({ cls := "FrameProver", name := "isInCube", desc := "(II)Z" } : Jvm.MethodName) "FrameProver"), (Jvm.Cond.methodLinkNest "FrameProver$Frames" (93 : Nat) ({ cls := "FrameProver", name := "maskOf", desc := "(I)I" } : Jvm.MethodName) "FrameProver"), (Jvm.Cond.methodLinkNest "FrameProver$Frames" (97 : Nat) ({ cls := "FrameProver", name := "valuesOf", desc := "(I)I" } : Jvm.MethodName) "FrameProver"), (Jvm.Cond.methodLinkNest "FrameProver$Frames" (100 : Nat) ({ cls := "FrameProver", name := "cubeOf", desc := "(II)I" } : Jvm.MethodName) "FrameProver")]
theorem nestW_in : ∀ w ∈ nestW, w ∈ lw_tbl := by
  intro w hw
  have h : nestW = ([83, 174, 234, 257, 345, 670, 673, 708, 720, 734, 735, 736].filterMap (fun i => lw_tbl[i]?)) := by decide +kernel
  rw [h] at hw
  obtain ⟨i, -, hi⟩ := List.mem_filterMap.mp hw
  exact List.mem_of_getElem? hi
