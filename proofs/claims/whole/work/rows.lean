section
-- ===== PART A: goes FIRST, ahead of the names: the tables' words, and 'selects' of the private methods out of them =====
/-- a private method of a class that the tables say can be made, by its rows of tables_1 -/
def lw_okq (q : MethodName × Nat) : Prop := (q.1.cls ≠ "java/lang/invoke/MethodHandle" ∧ q.1.cls ≠ "java/lang/invoke/VarHandle") ∧ Cond.instantiable q.1.cls q.2 ∈ tables_1 ∧ Cond.privateMethod q.1 ∈ tables_1 ∧ Cond.instanceMethod q.1 ∈ tables_1
theorem lw_p0 : lw_okq (⟨"PavedYards", "startYard", "(II)V"⟩, 10) := ⟨⟨by decide +kernel, by decide +kernel⟩, List.mem_of_getElem? (i := 18) (by decide +kernel), List.mem_of_getElem? (i := 307) (by decide +kernel), List.mem_of_getElem? (i := 308) (by decide +kernel)⟩
theorem lw_p1 : lw_okq (⟨"PavedYards", "yardChanged", "()V"⟩, 10) := ⟨⟨by decide +kernel, by decide +kernel⟩, List.mem_of_getElem? (i := 18) (by decide +kernel), List.mem_of_getElem? (i := 318) (by decide +kernel), List.mem_of_getElem? (i := 319) (by decide +kernel)⟩
theorem lw_p2 : lw_okq (⟨"PavedYards", "changeCell", "(IZ)Z"⟩, 10) := ⟨⟨by decide +kernel, by decide +kernel⟩, List.mem_of_getElem? (i := 18) (by decide +kernel), List.mem_of_getElem? (i := 338) (by decide +kernel), List.mem_of_getElem? (i := 339) (by decide +kernel)⟩
theorem lw_p3 : lw_okq (⟨"PavedYards", "sheetFault", "(II)I"⟩, 10) := ⟨⟨by decide +kernel, by decide +kernel⟩, List.mem_of_getElem? (i := 18) (by decide +kernel), List.mem_of_getElem? (i := 407) (by decide +kernel), List.mem_of_getElem? (i := 408) (by decide +kernel)⟩
theorem lw_p4 : lw_okq (⟨"PavedYards", "heldSlots", "()I"⟩, 10) := ⟨⟨by decide +kernel, by decide +kernel⟩, List.mem_of_getElem? (i := 18) (by decide +kernel), List.mem_of_getElem? (i := 443) (by decide +kernel), List.mem_of_getElem? (i := 444) (by decide +kernel)⟩
theorem lw_p5 : lw_okq (⟨"PavedYards", "slotFault", "(I)I"⟩, 10) := ⟨⟨by decide +kernel, by decide +kernel⟩, List.mem_of_getElem? (i := 18) (by decide +kernel), List.mem_of_getElem? (i := 548) (by decide +kernel), List.mem_of_getElem? (i := 549) (by decide +kernel)⟩
theorem lw_p6 : lw_okq (⟨"PavedYards", "slotsFault", "(II)I"⟩, 10) := ⟨⟨by decide +kernel, by decide +kernel⟩, List.mem_of_getElem? (i := 18) (by decide +kernel), List.mem_of_getElem? (i := 552) (by decide +kernel), List.mem_of_getElem? (i := 553) (by decide +kernel)⟩
theorem lw_p7 : lw_okq (⟨"PavedYards", "wholeFault", "(II)I"⟩, 10) := ⟨⟨by decide +kernel, by decide +kernel⟩, List.mem_of_getElem? (i := 18) (by decide +kernel), List.mem_of_getElem? (i := 724) (by decide +kernel), List.mem_of_getElem? (i := 725) (by decide +kernel)⟩
theorem lw_p8 : lw_okq (⟨"PavedYards", "ringFault", "(III)I"⟩, 10) := ⟨⟨by decide +kernel, by decide +kernel⟩, List.mem_of_getElem? (i := 18) (by decide +kernel), List.mem_of_getElem? (i := 849) (by decide +kernel), List.mem_of_getElem? (i := 850) (by decide +kernel)⟩
theorem lw_p9 : lw_okq (⟨"PavedYardsModel", "begins", "(II)V"⟩, 28) := ⟨⟨by decide +kernel, by decide +kernel⟩, List.mem_of_getElem? (i := 895) (by decide +kernel), List.mem_of_getElem? (i := 901) (by decide +kernel), List.mem_of_getElem? (i := 902) (by decide +kernel)⟩
theorem lw_p10 : lw_okq (⟨"PavedYardsModel", "emptySlots", "()V"⟩, 28) := ⟨⟨by decide +kernel, by decide +kernel⟩, List.mem_of_getElem? (i := 895) (by decide +kernel), List.mem_of_getElem? (i := 905) (by decide +kernel), List.mem_of_getElem? (i := 906) (by decide +kernel)⟩
theorem lw_p11 : lw_okq (⟨"PavedYardsModel", "isCell", "(I)Z"⟩, 28) := ⟨⟨by decide +kernel, by decide +kernel⟩, List.mem_of_getElem? (i := 895) (by decide +kernel), List.mem_of_getElem? (i := 1006) (by decide +kernel), List.mem_of_getElem? (i := 1007) (by decide +kernel)⟩
theorem lw_p12 : lw_okq (⟨"PavedYardsModel", "sets", "(IZ)V"⟩, 28) := ⟨⟨by decide +kernel, by decide +kernel⟩, List.mem_of_getElem? (i := 895) (by decide +kernel), List.mem_of_getElem? (i := 1010) (by decide +kernel), List.mem_of_getElem? (i := 1011) (by decide +kernel)⟩
theorem lw_p13 : lw_okq (⟨"PavedYardsModel", "frees", "(I)V"⟩, 28) := ⟨⟨by decide +kernel, by decide +kernel⟩, List.mem_of_getElem? (i := 895) (by decide +kernel), List.mem_of_getElem? (i := 1014) (by decide +kernel), List.mem_of_getElem? (i := 1015) (by decide +kernel)⟩
theorem lw_p14 : lw_okq (⟨"PavedYardsModel", "next", "()I"⟩, 28) := ⟨⟨by decide +kernel, by decide +kernel⟩, List.mem_of_getElem? (i := 895) (by decide +kernel), List.mem_of_getElem? (i := 1029) (by decide +kernel), List.mem_of_getElem? (i := 1030) (by decide +kernel)⟩
theorem lw_p15 : lw_okq (⟨"PavedYardsModel", "openMany", "()I"⟩, 28) := ⟨⟨by decide +kernel, by decide +kernel⟩, List.mem_of_getElem? (i := 895) (by decide +kernel), List.mem_of_getElem? (i := 1033) (by decide +kernel), List.mem_of_getElem? (i := 1034) (by decide +kernel)⟩
def lw_privs_1 : List (MethodName × Nat) := [(⟨"PavedYards", "startYard", "(II)V"⟩, 10), (⟨"PavedYards", "yardChanged", "()V"⟩, 10), (⟨"PavedYards", "changeCell", "(IZ)Z"⟩, 10), (⟨"PavedYards", "sheetFault", "(II)I"⟩, 10), (⟨"PavedYards", "heldSlots", "()I"⟩, 10), (⟨"PavedYards", "slotFault", "(I)I"⟩, 10), (⟨"PavedYards", "slotsFault", "(II)I"⟩, 10), (⟨"PavedYards", "wholeFault", "(II)I"⟩, 10), (⟨"PavedYards", "ringFault", "(III)I"⟩, 10), (⟨"PavedYardsModel", "begins", "(II)V"⟩, 28), (⟨"PavedYardsModel", "emptySlots", "()V"⟩, 28), (⟨"PavedYardsModel", "isCell", "(I)Z"⟩, 28), (⟨"PavedYardsModel", "sets", "(IZ)V"⟩, 28), (⟨"PavedYardsModel", "frees", "(I)V"⟩, 28), (⟨"PavedYardsModel", "next", "()I"⟩, 28), (⟨"PavedYardsModel", "openMany", "()I"⟩, 28)]
theorem lw_r1 : ∀ q ∈ lw_privs_1, lw_okq q := List.forall_mem_cons.mpr ⟨lw_p0, List.forall_mem_cons.mpr ⟨lw_p1, List.forall_mem_cons.mpr ⟨lw_p2, List.forall_mem_cons.mpr ⟨lw_p3, List.forall_mem_cons.mpr ⟨lw_p4, List.forall_mem_cons.mpr ⟨lw_p5, List.forall_mem_cons.mpr ⟨lw_p6, List.forall_mem_cons.mpr ⟨lw_p7, List.forall_mem_cons.mpr ⟨lw_p8, List.forall_mem_cons.mpr ⟨lw_p9, List.forall_mem_cons.mpr ⟨lw_p10, List.forall_mem_cons.mpr ⟨lw_p11, List.forall_mem_cons.mpr ⟨lw_p12, List.forall_mem_cons.mpr ⟨lw_p13, List.forall_mem_cons.mpr ⟨lw_p14, List.forall_mem_cons.mpr ⟨lw_p15, fun _ h => absurd h List.not_mem_nil⟩⟩⟩⟩⟩⟩⟩⟩⟩⟩⟩⟩⟩⟩⟩⟩
theorem lw_p16 : lw_okq (⟨"PavedYardsModel", "finds", "(IIII)I"⟩, 28) := ⟨⟨by decide +kernel, by decide +kernel⟩, List.mem_of_getElem? (i := 895) (by decide +kernel), List.mem_of_getElem? (i := 1045) (by decide +kernel), List.mem_of_getElem? (i := 1046) (by decide +kernel)⟩
theorem lw_p17 : lw_okq (⟨"PavedYardsModel", "isDarkCell", "(I)Z"⟩, 28) := ⟨⟨by decide +kernel, by decide +kernel⟩, List.mem_of_getElem? (i := 895) (by decide +kernel), List.mem_of_getElem? (i := 1053) (by decide +kernel), List.mem_of_getElem? (i := 1054) (by decide +kernel)⟩
theorem lw_p18 : lw_okq (⟨"PavedYardsModel", "isBrick", "(I)Z"⟩, 28) := ⟨⟨by decide +kernel, by decide +kernel⟩, List.mem_of_getElem? (i := 895) (by decide +kernel), List.mem_of_getElem? (i := 1060) (by decide +kernel), List.mem_of_getElem? (i := 1061) (by decide +kernel)⟩
theorem lw_p19 : lw_okq (⟨"PavedYardsModel", "otherOf", "(I)I"⟩, 28) := ⟨⟨by decide +kernel, by decide +kernel⟩, List.mem_of_getElem? (i := 895) (by decide +kernel), List.mem_of_getElem? (i := 1064) (by decide +kernel), List.mem_of_getElem? (i := 1065) (by decide +kernel)⟩
theorem lw_p20 : lw_okq (⟨"PavedYardsModel", "allows", "(Z)V"⟩, 28) := ⟨⟨by decide +kernel, by decide +kernel⟩, List.mem_of_getElem? (i := 895) (by decide +kernel), List.mem_of_getElem? (i := 1082) (by decide +kernel), List.mem_of_getElem? (i := 1083) (by decide +kernel)⟩
theorem lw_p21 : lw_okq (⟨"PavedYardsModel", "musts", "(I)V"⟩, 28) := ⟨⟨by decide +kernel, by decide +kernel⟩, List.mem_of_getElem? (i := 895) (by decide +kernel), List.mem_of_getElem? (i := 1086) (by decide +kernel), List.mem_of_getElem? (i := 1087) (by decide +kernel)⟩
theorem lw_p22 : lw_okq (⟨"PavedYardsModel", "countAll", "()J"⟩, 28) := ⟨⟨by decide +kernel, by decide +kernel⟩, List.mem_of_getElem? (i := 895) (by decide +kernel), List.mem_of_getElem? (i := 1090) (by decide +kernel), List.mem_of_getElem? (i := 1091) (by decide +kernel)⟩
theorem lw_p23 : lw_okq (⟨"PavedYardsModel", "countOn", "()V"⟩, 28) := ⟨⟨by decide +kernel, by decide +kernel⟩, List.mem_of_getElem? (i := 895) (by decide +kernel), List.mem_of_getElem? (i := 1094) (by decide +kernel), List.mem_of_getElem? (i := 1095) (by decide +kernel)⟩
theorem lw_p24 : lw_okq (⟨"PavedYardsModel", "canEast", "(II)Z"⟩, 28) := ⟨⟨by decide +kernel, by decide +kernel⟩, List.mem_of_getElem? (i := 895) (by decide +kernel), List.mem_of_getElem? (i := 1098) (by decide +kernel), List.mem_of_getElem? (i := 1099) (by decide +kernel)⟩
theorem lw_p25 : lw_okq (⟨"PavedYardsModel", "shareOf", "(I)J"⟩, 28) := ⟨⟨by decide +kernel, by decide +kernel⟩, List.mem_of_getElem? (i := 895) (by decide +kernel), List.mem_of_getElem? (i := 1106) (by decide +kernel), List.mem_of_getElem? (i := 1107) (by decide +kernel)⟩
theorem lw_p26 : lw_okq (⟨"PavedYardsModel", "lays", "(II)V"⟩, 28) := ⟨⟨by decide +kernel, by decide +kernel⟩, List.mem_of_getElem? (i := 895) (by decide +kernel), List.mem_of_getElem? (i := 1123) (by decide +kernel), List.mem_of_getElem? (i := 1124) (by decide +kernel)⟩
theorem lw_p27 : lw_okq (⟨"PavedYardsModel", "sums", "()V"⟩, 28) := ⟨⟨by decide +kernel, by decide +kernel⟩, List.mem_of_getElem? (i := 895) (by decide +kernel), List.mem_of_getElem? (i := 1141) (by decide +kernel), List.mem_of_getElem? (i := 1142) (by decide +kernel)⟩
theorem lw_p28 : lw_okq (⟨"PavedYardsModel", "eastSum", "(II)I"⟩, 28) := ⟨⟨by decide +kernel, by decide +kernel⟩, List.mem_of_getElem? (i := 895) (by decide +kernel), List.mem_of_getElem? (i := 1146) (by decide +kernel), List.mem_of_getElem? (i := 1147) (by decide +kernel)⟩
theorem lw_p29 : lw_okq (⟨"PavedYardsModel", "sumBy", "(III)I"⟩, 28) := ⟨⟨by decide +kernel, by decide +kernel⟩, List.mem_of_getElem? (i := 895) (by decide +kernel), List.mem_of_getElem? (i := 1150) (by decide +kernel), List.mem_of_getElem? (i := 1151) (by decide +kernel)⟩
theorem lw_p30 : lw_okq (⟨"PavedYardsModel", "matches", "()I"⟩, 28) := ⟨⟨by decide +kernel, by decide +kernel⟩, List.mem_of_getElem? (i := 895) (by decide +kernel), List.mem_of_getElem? (i := 1170) (by decide +kernel), List.mem_of_getElem? (i := 1171) (by decide +kernel)⟩
theorem lw_p31 : lw_okq (⟨"PavedYardsModel", "forgets", "()V"⟩, 28) := ⟨⟨by decide +kernel, by decide +kernel⟩, List.mem_of_getElem? (i := 895) (by decide +kernel), List.mem_of_getElem? (i := 1174) (by decide +kernel), List.mem_of_getElem? (i := 1175) (by decide +kernel)⟩
def lw_privs_2 : List (MethodName × Nat) := [(⟨"PavedYardsModel", "finds", "(IIII)I"⟩, 28), (⟨"PavedYardsModel", "isDarkCell", "(I)Z"⟩, 28), (⟨"PavedYardsModel", "isBrick", "(I)Z"⟩, 28), (⟨"PavedYardsModel", "otherOf", "(I)I"⟩, 28), (⟨"PavedYardsModel", "allows", "(Z)V"⟩, 28), (⟨"PavedYardsModel", "musts", "(I)V"⟩, 28), (⟨"PavedYardsModel", "countAll", "()J"⟩, 28), (⟨"PavedYardsModel", "countOn", "()V"⟩, 28), (⟨"PavedYardsModel", "canEast", "(II)Z"⟩, 28), (⟨"PavedYardsModel", "shareOf", "(I)J"⟩, 28), (⟨"PavedYardsModel", "lays", "(II)V"⟩, 28), (⟨"PavedYardsModel", "sums", "()V"⟩, 28), (⟨"PavedYardsModel", "eastSum", "(II)I"⟩, 28), (⟨"PavedYardsModel", "sumBy", "(III)I"⟩, 28), (⟨"PavedYardsModel", "matches", "()I"⟩, 28), (⟨"PavedYardsModel", "forgets", "()V"⟩, 28)]
theorem lw_r2 : ∀ q ∈ lw_privs_2, lw_okq q := List.forall_mem_cons.mpr ⟨lw_p16, List.forall_mem_cons.mpr ⟨lw_p17, List.forall_mem_cons.mpr ⟨lw_p18, List.forall_mem_cons.mpr ⟨lw_p19, List.forall_mem_cons.mpr ⟨lw_p20, List.forall_mem_cons.mpr ⟨lw_p21, List.forall_mem_cons.mpr ⟨lw_p22, List.forall_mem_cons.mpr ⟨lw_p23, List.forall_mem_cons.mpr ⟨lw_p24, List.forall_mem_cons.mpr ⟨lw_p25, List.forall_mem_cons.mpr ⟨lw_p26, List.forall_mem_cons.mpr ⟨lw_p27, List.forall_mem_cons.mpr ⟨lw_p28, List.forall_mem_cons.mpr ⟨lw_p29, List.forall_mem_cons.mpr ⟨lw_p30, List.forall_mem_cons.mpr ⟨lw_p31, fun _ h => absurd h List.not_mem_nil⟩⟩⟩⟩⟩⟩⟩⟩⟩⟩⟩⟩⟩⟩⟩⟩
theorem lw_p32 : lw_okq (⟨"PavedYardsModel", "searches", "(I)I"⟩, 28) := ⟨⟨by decide +kernel, by decide +kernel⟩, List.mem_of_getElem? (i := 895) (by decide +kernel), List.mem_of_getElem? (i := 1178) (by decide +kernel), List.mem_of_getElem? (i := 1179) (by decide +kernel)⟩
theorem lw_p33 : lw_okq (⟨"PavedYardsModel", "beside", "(II)I"⟩, 28) := ⟨⟨by decide +kernel, by decide +kernel⟩, List.mem_of_getElem? (i := 895) (by decide +kernel), List.mem_of_getElem? (i := 1182) (by decide +kernel), List.mem_of_getElem? (i := 1183) (by decide +kernel)⟩
theorem lw_p34 : lw_okq (⟨"PavedYardsModel", "isOpenAt", "(II)Z"⟩, 28) := ⟨⟨by decide +kernel, by decide +kernel⟩, List.mem_of_getElem? (i := 895) (by decide +kernel), List.mem_of_getElem? (i := 1186) (by decide +kernel), List.mem_of_getElem? (i := 1187) (by decide +kernel)⟩
theorem lw_p35 : lw_okq (⟨"PavedYardsModel", "doubtAll", "(I)V"⟩, 28) := ⟨⟨by decide +kernel, by decide +kernel⟩, List.mem_of_getElem? (i := 895) (by decide +kernel), List.mem_of_getElem? (i := 1194) (by decide +kernel), List.mem_of_getElem? (i := 1195) (by decide +kernel)⟩
theorem lw_p36 : lw_okq (⟨"PavedYardsModel", "isWhole", "()Z"⟩, 28) := ⟨⟨by decide +kernel, by decide +kernel⟩, List.mem_of_getElem? (i := 895) (by decide +kernel), List.mem_of_getElem? (i := 1206) (by decide +kernel), List.mem_of_getElem? (i := 1207) (by decide +kernel)⟩
theorem lw_p37 : lw_okq (⟨"PavedYardsModel", "meets", "(IZ)I"⟩, 28) := ⟨⟨by decide +kernel, by decide +kernel⟩, List.mem_of_getElem? (i := 895) (by decide +kernel), List.mem_of_getElem? (i := 1210) (by decide +kernel), List.mem_of_getElem? (i := 1211) (by decide +kernel)⟩
theorem lw_p38 : lw_okq (⟨"PavedYardsModel", "isOpenFrame", "(I)Z"⟩, 28) := ⟨⟨by decide +kernel, by decide +kernel⟩, List.mem_of_getElem? (i := 895) (by decide +kernel), List.mem_of_getElem? (i := 1214) (by decide +kernel), List.mem_of_getElem? (i := 1215) (by decide +kernel)⟩
theorem lw_p39 : lw_okq (⟨"PavedYardsModel", "isCorner", "(II)Z"⟩, 28) := ⟨⟨by decide +kernel, by decide +kernel⟩, List.mem_of_getElem? (i := 895) (by decide +kernel), List.mem_of_getElem? (i := 1222) (by decide +kernel), List.mem_of_getElem? (i := 1223) (by decide +kernel)⟩
theorem lw_p40 : lw_okq (⟨"PavedYardsModel", "refuses", "(I)I"⟩, 28) := ⟨⟨by decide +kernel, by decide +kernel⟩, List.mem_of_getElem? (i := 895) (by decide +kernel), List.mem_of_getElem? (i := 1226) (by decide +kernel), List.mem_of_getElem? (i := 1227) (by decide +kernel)⟩
theorem lw_p41 : lw_okq (⟨"PavedYardsModel", "rises", "(I)V"⟩, 28) := ⟨⟨by decide +kernel, by decide +kernel⟩, List.mem_of_getElem? (i := 895) (by decide +kernel), List.mem_of_getElem? (i := 1230) (by decide +kernel), List.mem_of_getElem? (i := 1231) (by decide +kernel)⟩
theorem lw_p42 : lw_okq (⟨"PavedYardsModel", "steps", "(IIII)I"⟩, 28) := ⟨⟨by decide +kernel, by decide +kernel⟩, List.mem_of_getElem? (i := 895) (by decide +kernel), List.mem_of_getElem? (i := 1234) (by decide +kernel), List.mem_of_getElem? (i := 1235) (by decide +kernel)⟩
theorem lw_p43 : lw_okq (⟨"PavedYardsModel", "isBarred", "(IIIII)Z"⟩, 28) := ⟨⟨by decide +kernel, by decide +kernel⟩, List.mem_of_getElem? (i := 895) (by decide +kernel), List.mem_of_getElem? (i := 1238) (by decide +kernel), List.mem_of_getElem? (i := 1239) (by decide +kernel)⟩
theorem lw_p44 : lw_okq (⟨"PavedYardsModel", "turnOf", "(III)I"⟩, 28) := ⟨⟨by decide +kernel, by decide +kernel⟩, List.mem_of_getElem? (i := 895) (by decide +kernel), List.mem_of_getElem? (i := 1246) (by decide +kernel), List.mem_of_getElem? (i := 1247) (by decide +kernel)⟩
theorem lw_p45 : lw_okq (⟨"PavedYardsModel", "across", "(III)V"⟩, 28) := ⟨⟨by decide +kernel, by decide +kernel⟩, List.mem_of_getElem? (i := 895) (by decide +kernel), List.mem_of_getElem? (i := 1250) (by decide +kernel), List.mem_of_getElem? (i := 1251) (by decide +kernel)⟩
theorem lw_p46 : lw_okq (⟨"PavedYardsModel", "turnMany", "(II)I"⟩, 28) := ⟨⟨by decide +kernel, by decide +kernel⟩, List.mem_of_getElem? (i := 895) (by decide +kernel), List.mem_of_getElem? (i := 1258) (by decide +kernel), List.mem_of_getElem? (i := 1259) (by decide +kernel)⟩
theorem lw_p47 : lw_okq (⟨"PavedYardsModel", "refusesBoth", "(II)I"⟩, 28) := ⟨⟨by decide +kernel, by decide +kernel⟩, List.mem_of_getElem? (i := 895) (by decide +kernel), List.mem_of_getElem? (i := 1270) (by decide +kernel), List.mem_of_getElem? (i := 1271) (by decide +kernel)⟩
def lw_privs_3 : List (MethodName × Nat) := [(⟨"PavedYardsModel", "searches", "(I)I"⟩, 28), (⟨"PavedYardsModel", "beside", "(II)I"⟩, 28), (⟨"PavedYardsModel", "isOpenAt", "(II)Z"⟩, 28), (⟨"PavedYardsModel", "doubtAll", "(I)V"⟩, 28), (⟨"PavedYardsModel", "isWhole", "()Z"⟩, 28), (⟨"PavedYardsModel", "meets", "(IZ)I"⟩, 28), (⟨"PavedYardsModel", "isOpenFrame", "(I)Z"⟩, 28), (⟨"PavedYardsModel", "isCorner", "(II)Z"⟩, 28), (⟨"PavedYardsModel", "refuses", "(I)I"⟩, 28), (⟨"PavedYardsModel", "rises", "(I)V"⟩, 28), (⟨"PavedYardsModel", "steps", "(IIII)I"⟩, 28), (⟨"PavedYardsModel", "isBarred", "(IIIII)Z"⟩, 28), (⟨"PavedYardsModel", "turnOf", "(III)I"⟩, 28), (⟨"PavedYardsModel", "across", "(III)V"⟩, 28), (⟨"PavedYardsModel", "turnMany", "(II)I"⟩, 28), (⟨"PavedYardsModel", "refusesBoth", "(II)I"⟩, 28)]
theorem lw_r3 : ∀ q ∈ lw_privs_3, lw_okq q := List.forall_mem_cons.mpr ⟨lw_p32, List.forall_mem_cons.mpr ⟨lw_p33, List.forall_mem_cons.mpr ⟨lw_p34, List.forall_mem_cons.mpr ⟨lw_p35, List.forall_mem_cons.mpr ⟨lw_p36, List.forall_mem_cons.mpr ⟨lw_p37, List.forall_mem_cons.mpr ⟨lw_p38, List.forall_mem_cons.mpr ⟨lw_p39, List.forall_mem_cons.mpr ⟨lw_p40, List.forall_mem_cons.mpr ⟨lw_p41, List.forall_mem_cons.mpr ⟨lw_p42, List.forall_mem_cons.mpr ⟨lw_p43, List.forall_mem_cons.mpr ⟨lw_p44, List.forall_mem_cons.mpr ⟨lw_p45, List.forall_mem_cons.mpr ⟨lw_p46, List.forall_mem_cons.mpr ⟨lw_p47, fun _ h => absurd h List.not_mem_nil⟩⟩⟩⟩⟩⟩⟩⟩⟩⟩⟩⟩⟩⟩⟩⟩
theorem lw_p48 : lw_okq (⟨"PavedYardsModel", "farOf", "(II)I"⟩, 28) := ⟨⟨by decide +kernel, by decide +kernel⟩, List.mem_of_getElem? (i := 895) (by decide +kernel), List.mem_of_getElem? (i := 1274) (by decide +kernel), List.mem_of_getElem? (i := 1275) (by decide +kernel)⟩
theorem lw_p49 : lw_okq (⟨"PavedYardsModel", "isCrossed", "(II)Z"⟩, 28) := ⟨⟨by decide +kernel, by decide +kernel⟩, List.mem_of_getElem? (i := 895) (by decide +kernel), List.mem_of_getElem? (i := 1286) (by decide +kernel), List.mem_of_getElem? (i := 1287) (by decide +kernel)⟩
theorem lw_p50 : lw_okq (⟨"PavedYardsModel", "ringMany", "(II)I"⟩, 28) := ⟨⟨by decide +kernel, by decide +kernel⟩, List.mem_of_getElem? (i := 895) (by decide +kernel), List.mem_of_getElem? (i := 1298) (by decide +kernel), List.mem_of_getElem? (i := 1299) (by decide +kernel)⟩
theorem lw_p51 : lw_okq (⟨"PavedYardsModel", "mateIn", "(II)I"⟩, 28) := ⟨⟨by decide +kernel, by decide +kernel⟩, List.mem_of_getElem? (i := 895) (by decide +kernel), List.mem_of_getElem? (i := 1302) (by decide +kernel), List.mem_of_getElem? (i := 1303) (by decide +kernel)⟩
theorem lw_p52 : lw_okq (⟨"PavedYardsModel", "ringSize", "(I)I"⟩, 28) := ⟨⟨by decide +kernel, by decide +kernel⟩, List.mem_of_getElem? (i := 895) (by decide +kernel), List.mem_of_getElem? (i := 1310) (by decide +kernel), List.mem_of_getElem? (i := 1311) (by decide +kernel)⟩
def lw_privs_4 : List (MethodName × Nat) := [(⟨"PavedYardsModel", "farOf", "(II)I"⟩, 28), (⟨"PavedYardsModel", "isCrossed", "(II)Z"⟩, 28), (⟨"PavedYardsModel", "ringMany", "(II)I"⟩, 28), (⟨"PavedYardsModel", "mateIn", "(II)I"⟩, 28), (⟨"PavedYardsModel", "ringSize", "(I)I"⟩, 28)]
theorem lw_r4 : ∀ q ∈ lw_privs_4, lw_okq q := List.forall_mem_cons.mpr ⟨lw_p48, List.forall_mem_cons.mpr ⟨lw_p49, List.forall_mem_cons.mpr ⟨lw_p50, List.forall_mem_cons.mpr ⟨lw_p51, List.forall_mem_cons.mpr ⟨lw_p52, fun _ h => absurd h List.not_mem_nil⟩⟩⟩⟩⟩
def lw_privs : List (MethodName × Nat) := lw_privs_1 ++ (lw_privs_2 ++ (lw_privs_3 ++ (lw_privs_4)))
def lw_tbl : List Cond := k2_sels lw_privs ++ tables_1
theorem lw_privs_ok : ∀ q ∈ lw_privs, lw_okq q := by
  show ∀ q ∈ lw_privs_1 ++ (lw_privs_2 ++ (lw_privs_3 ++ (lw_privs_4))), lw_okq q
  exact List.forall_mem_append.mpr ⟨lw_r1, List.forall_mem_append.mpr ⟨lw_r2, List.forall_mem_append.mpr ⟨lw_r3, lw_r4⟩⟩⟩
-- ===== end of PART A; then your names; then what follows =====
end
section
/-! ===== BEGIN printed: names, fields, word lists, decode rows ===== -/
def RX0 : String := "PavedYards$Crossing"
def TX0 : u_T := fun k => match k with
  | 0 => ("PavedYards$Crossing", "now", "[J", false)
  | _ => ("PavedYards$Crossing", "next", "[J", false)
def tyX0 : Nat → FieldType := fun k => match k with
  | 0 => .array .long
  | _ => .array .long
theorem nmX0 : ∀ a, a < 2 → ∀ b, b < 2 → a ≠ b → (TX0 a).2.1 ≠ (TX0 b).2.1 := by decide +kernel
theorem tyX0_ok : ∀ k, k < 2 → parseFieldDescriptor (TX0 k).2.2.1 = some (tyX0 k) := by decide +kernel
abbrev cX0_init : ByteArray := prog_2_method_1_code
def yX0_init : MethodName := ⟨RX0, "<init>", "()V"⟩
abbrev cX0_countSound : ByteArray := prog_2_method_2_code
def yX0_countSound : MethodName := ⟨RX0, "countSound", "(LPavedYards$Yard;)J"⟩
abbrev cX0_pass : ByteArray := prog_2_method_3_code
def yX0_pass : MethodName := ⟨RX0, "pass", "(LPavedYards$Yard;II)V"⟩
def RX1 : String := "PavedYards$Heights"
def TX1 : u_T := fun k => match k with
  | 0 => ("PavedYards$Heights", "first", "[I", true)
  | 1 => ("PavedYards$Heights", "second", "[I", true)
  | _ => ("PavedYards$Heights", "wave", "LPavedYards$Wave;", true)
def tyX1 : Nat → FieldType := fun k => match k with
  | 0 => .array .int
  | 1 => .array .int
  | _ => .object "PavedYards$Wave"
theorem nmX1 : ∀ a, a < 3 → ∀ b, b < 3 → a ≠ b → (TX1 a).2.1 ≠ (TX1 b).2.1 := by decide +kernel
theorem tyX1_ok : ∀ k, k < 3 → parseFieldDescriptor (TX1 k).2.2.1 = some (tyX1 k) := by decide +kernel
abbrev cX1_init : ByteArray := prog_3_method_1_code
def yX1_init : MethodName := ⟨RX1, "<init>", "()V"⟩
abbrev cX1_measure : ByteArray := prog_3_method_2_code
def yX1_measure : MethodName := ⟨RX1, "measure", "(LPavedYards$Yard;LPavedYards$Paving;[I)V"⟩
abbrev cX1_cornerBeside : ByteArray := prog_3_method_3_code
def yX1_cornerBeside : MethodName := ⟨RX1, "cornerBeside", "(II)I"⟩
abbrev cX1_stepFrom : ByteArray := prog_3_method_4_code
def yX1_stepFrom : MethodName := ⟨RX1, "stepFrom", "(LPavedYards$Yard;LPavedYards$Paving;III)I"⟩
abbrev cX1_stepEast : ByteArray := prog_3_method_5_code
def yX1_stepEast : MethodName := ⟨RX1, "stepEast", "(LPavedYards$Yard;LPavedYards$Paving;II)I"⟩
abbrev cX1_stepSouth : ByteArray := prog_3_method_6_code
def yX1_stepSouth : MethodName := ⟨RX1, "stepSouth", "(LPavedYards$Yard;LPavedYards$Paving;II)I"⟩
abbrev cX1_canGoBetween : ByteArray := prog_3_method_7_code
def yX1_canGoBetween : MethodName := ⟨RX1, "canGoBetween", "(LPavedYards$Paving;II)Z"⟩
abbrev cX1_wayOfTurn : ByteArray := prog_3_method_8_code
def yX1_wayOfTurn : MethodName := ⟨RX1, "wayOfTurn", "(LPavedYards$Yard;LPavedYards$Paving;II)I"⟩
abbrev cX1_makeTurn : ByteArray := prog_3_method_9_code
def yX1_makeTurn : MethodName := ⟨RX1, "makeTurn", "(LPavedYards$Yard;LPavedYards$Paving;II)V"⟩
abbrev cX1_turnsOfWay : ByteArray := prog_3_method_10_code
def yX1_turnsOfWay : MethodName := ⟨RX1, "turnsOfWay", "(LPavedYards$Yard;LPavedYards$Paving;I)I"⟩
abbrev cX1_turnAll : ByteArray := prog_3_method_11_code
def yX1_turnAll : MethodName := ⟨RX1, "turnAll", "(LPavedYards$Yard;LPavedYards$Paving;I)I"⟩
abbrev cX1_distance : ByteArray := prog_3_method_12_code
def yX1_distance : MethodName := ⟨RX1, "distance", "(LPavedYards$Yard;LPavedYards$Paving;LPavedYards$Paving;)I"⟩
abbrev cX1_turnToward : ByteArray := prog_3_method_13_code
def yX1_turnToward : MethodName := ⟨RX1, "turnToward", "(LPavedYards$Yard;LPavedYards$Paving;LPavedYards$Paving;)I"⟩
def RX2 : String := "PavedYards$Match"
def TX2 : u_T := fun k => match k with
  | 0 => ("PavedYards$Match", "mate", "[I", true)
  | 1 => ("PavedYards$Match", "from", "[I", true)
  | 2 => ("PavedYards$Match", "marks", "[I", true)
  | _ => ("PavedYards$Match", "wave", "LPavedYards$Wave;", true)
def tyX2 : Nat → FieldType := fun k => match k with
  | 0 => .array .int
  | 1 => .array .int
  | 2 => .array .int
  | _ => .object "PavedYards$Wave"
theorem nmX2 : ∀ a, a < 4 → ∀ b, b < 4 → a ≠ b → (TX2 a).2.1 ≠ (TX2 b).2.1 := by decide +kernel
theorem tyX2_ok : ∀ k, k < 4 → parseFieldDescriptor (TX2 k).2.2.1 = some (tyX2 k) := by decide +kernel
abbrev cX2_init : ByteArray := prog_4_method_1_code
def yX2_init : MethodName := ⟨RX2, "<init>", "()V"⟩
abbrev cX2_find : ByteArray := prog_4_method_2_code
def yX2_find : MethodName := ⟨RX2, "find", "(LPavedYards$Yard;)I"⟩
abbrev cX2_findMateFor : ByteArray := prog_4_method_3_code
def yX2_findMateFor : MethodName := ⟨RX2, "findMateFor", "(LPavedYards$Yard;I)Z"⟩
abbrev cX2_swapPath : ByteArray := prog_4_method_4_code
def yX2_swapPath : MethodName := ⟨RX2, "swapPath", "(I)V"⟩
abbrev cX2_markBar : ByteArray := prog_4_method_5_code
def yX2_markBar : MethodName := ⟨RX2, "markBar", "(LPavedYards$Yard;Z)V"⟩
abbrev cX2_marked : ByteArray := prog_4_method_6_code
def yX2_marked : MethodName := ⟨RX2, "marked", "(LPavedYards$Yard;I)I"⟩
def RX3 : String := "PavedYards$Paving"
def TX3 : u_T := fun k => match k with
  | 0 => ("PavedYards$Paving", "held", "Z", false)
  | _ => ("PavedYards$Paving", "on", "[I", true)
def tyX3 : Nat → FieldType := fun k => match k with
  | 0 => .boolean
  | _ => .array .int
theorem nmX3 : ∀ a, a < 2 → ∀ b, b < 2 → a ≠ b → (TX3 a).2.1 ≠ (TX3 b).2.1 := by decide +kernel
theorem tyX3_ok : ∀ k, k < 2 → parseFieldDescriptor (TX3 k).2.2.1 = some (tyX3 k) := by decide +kernel
abbrev cX3_init : ByteArray := prog_5_method_1_code
def yX3_init : MethodName := ⟨RX3, "<init>", "()V"⟩
abbrev cX3_put : ByteArray := prog_5_method_2_code
def yX3_put : MethodName := ⟨RX3, "put", "(LPavedYards$Yard;I)V"⟩
abbrev cX3_take : ByteArray := prog_5_method_3_code
def yX3_take : MethodName := ⟨RX3, "take", "(LPavedYards$Paving;)V"⟩
abbrev cX3_takeBricks : ByteArray := prog_5_method_4_code
def yX3_takeBricks : MethodName := ⟨RX3, "takeBricks", "(LPavedYards$Yard;LPavedYards$Sheet;)Z"⟩
abbrev cX3_startsAt : ByteArray := prog_5_method_5_code
def yX3_startsAt : MethodName := ⟨RX3, "startsAt", "(LPavedYards$Yard;I)Z"⟩
abbrev cX3_sumOfPrices : ByteArray := prog_5_method_6_code
def yX3_sumOfPrices : MethodName := ⟨RX3, "sumOfPrices", "(LPavedYards$Yard;)I"⟩
abbrev cX3_linesNotCrossed : ByteArray := prog_5_method_7_code
def yX3_linesNotCrossed : MethodName := ⟨RX3, "linesNotCrossed", "(LPavedYards$Yard;)I"⟩
def RX4 : String := "PavedYards$Rings"
def TX4 : u_T := fun k => match k with
  | 0 => ("PavedYards$Rings", "sizes", "[I", true)
  | _ => ("PavedYards$Rings", "ringOf", "[I", true)
def tyX4 : Nat → FieldType := fun k => match k with
  | 0 => .array .int
  | _ => .array .int
theorem nmX4 : ∀ a, a < 2 → ∀ b, b < 2 → a ≠ b → (TX4 a).2.1 ≠ (TX4 b).2.1 := by decide +kernel
theorem tyX4_ok : ∀ k, k < 2 → parseFieldDescriptor (TX4 k).2.2.1 = some (tyX4 k) := by decide +kernel
abbrev cX4_init : ByteArray := prog_6_method_1_code
def yX4_init : MethodName := ⟨RX4, "<init>", "()V"⟩
abbrev cX4_trace : ByteArray := prog_6_method_2_code
def yX4_trace : MethodName := ⟨RX4, "trace", "(LPavedYards$Yard;LPavedYards$Paving;LPavedYards$Paving;)I"⟩
abbrev cX4_goRound : ByteArray := prog_6_method_3_code
def yX4_goRound : MethodName := ⟨RX4, "goRound", "(LPavedYards$Yard;LPavedYards$Paving;LPavedYards$Paving;II)I"⟩
abbrev cX4_otherEnd : ByteArray := prog_6_method_4_code
def yX4_otherEnd : MethodName := ⟨RX4, "otherEnd", "(LPavedYards$Yard;II)I"⟩
abbrev cX4_takeOver : ByteArray := prog_6_method_5_code
def yX4_takeOver : MethodName := ⟨RX4, "takeOver", "(LPavedYards$Yard;LPavedYards$Paving;LPavedYards$Paving;I)V"⟩
def RX5 : String := "PavedYards$Shape"
def TX5 : u_T := fun k => match k with
  | _ => ("PavedYards$Shape", "wave", "LPavedYards$Wave;", true)
def tyX5 : Nat → FieldType := fun k => match k with
  | _ => .object "PavedYards$Wave"
theorem nmX5 : ∀ a, a < 1 → ∀ b, b < 1 → a ≠ b → (TX5 a).2.1 ≠ (TX5 b).2.1 := by decide +kernel
theorem tyX5_ok : ∀ k, k < 1 → parseFieldDescriptor (TX5 k).2.2.1 = some (tyX5 k) := by decide +kernel
abbrev cX5_init : ByteArray := prog_7_method_1_code
def yX5_init : MethodName := ⟨RX5, "<init>", "()V"⟩
abbrev cX5_isWhole : ByteArray := prog_7_method_2_code
def yX5_isWhole : MethodName := ⟨RX5, "isWhole", "(LPavedYards$Yard;)Z"⟩
abbrev cX5_openIsOne : ByteArray := prog_7_method_3_code
def yX5_openIsOne : MethodName := ⟨RX5, "openIsOne", "(LPavedYards$Yard;)Z"⟩
abbrev cX5_closedIsOne : ByteArray := prog_7_method_4_code
def yX5_closedIsOne : MethodName := ⟨RX5, "closedIsOne", "(LPavedYards$Yard;)Z"⟩
abbrev cX5_isClosed : ByteArray := prog_7_method_5_code
def yX5_isClosed : MethodName := ⟨RX5, "isClosed", "(LPavedYards$Yard;II)Z"⟩
abbrev cX5_touchesByCorner : ByteArray := prog_7_method_6_code
def yX5_touchesByCorner : MethodName := ⟨RX5, "touchesByCorner", "(LPavedYards$Yard;)Z"⟩
def RX6 : String := "PavedYards$Sheet"
def TX6 : u_T := fun k => match k with
  | 0 => ("PavedYards$Sheet", "held", "Z", false)
  | 1 => ("PavedYards$Sheet", "lane", "I", false)
  | 2 => ("PavedYards$Sheet", "size", "I", false)
  | _ => ("PavedYards$Sheet", "items", "[I", true)
def tyX6 : Nat → FieldType := fun k => match k with
  | 0 => .boolean
  | 1 => .int
  | 2 => .int
  | _ => .array .int
theorem nmX6 : ∀ a, a < 4 → ∀ b, b < 4 → a ≠ b → (TX6 a).2.1 ≠ (TX6 b).2.1 := by decide +kernel
theorem tyX6_ok : ∀ k, k < 4 → parseFieldDescriptor (TX6 k).2.2.1 = some (tyX6 k) := by decide +kernel
abbrev cX6_init : ByteArray := prog_8_method_1_code
def yX6_init : MethodName := ⟨RX6, "<init>", "()V"⟩
abbrev cX6_start : ByteArray := prog_8_method_2_code
def yX6_start : MethodName := ⟨RX6, "start", "(II)V"⟩
abbrev cX6_put : ByteArray := prog_8_method_3_code
def yX6_put : MethodName := ⟨RX6, "put", "(II)V"⟩
abbrev cX6_hasStretch : ByteArray := prog_8_method_4_code
def yX6_hasStretch : MethodName := ⟨RX6, "hasStretch", "(II)Z"⟩
def RX7 : String := "PavedYards$Sweep"
def TX7 : u_T := fun k => match k with
  | 0 => ("PavedYards$Sweep", "table", "[J", true)
  | 1 => ("PavedYards$Sweep", "shares", "[J", true)
  | 2 => ("PavedYards$Sweep", "fits", "[Z", true)
  | 3 => ("PavedYards$Sweep", "now", "[J", false)
  | 4 => ("PavedYards$Sweep", "next", "[J", false)
  | 5 => ("PavedYards$Sweep", "holds", "I", false)
  | _ => ("PavedYards$Sweep", "holdsShares", "Z", false)
def tyX7 : Nat → FieldType := fun k => match k with
  | 0 => .array .long
  | 1 => .array .long
  | 2 => .array .boolean
  | 3 => .array .long
  | 4 => .array .long
  | 5 => .int
  | _ => .boolean
theorem nmX7 : ∀ a, a < 7 → ∀ b, b < 7 → a ≠ b → (TX7 a).2.1 ≠ (TX7 b).2.1 := by decide +kernel
theorem tyX7_ok : ∀ k, k < 7 → parseFieldDescriptor (TX7 k).2.2.1 = some (tyX7 k) := by decide +kernel
abbrev cX7_init : ByteArray := prog_9_method_1_code
def yX7_init : MethodName := ⟨RX7, "<init>", "()V"⟩
abbrev cX7_forget : ByteArray := prog_9_method_2_code
def yX7_forget : MethodName := ⟨RX7, "forget", "()V"⟩
abbrev cX7_total : ByteArray := prog_9_method_3_code
def yX7_total : MethodName := ⟨RX7, "total", "(LPavedYards$Yard;)J"⟩
abbrev cX7_leastCost : ByteArray := prog_9_method_4_code
def yX7_leastCost : MethodName := ⟨RX7, "leastCost", "(LPavedYards$Yard;)J"⟩
abbrev cX7_findFits : ByteArray := prog_9_method_5_code
def yX7_findFits : MethodName := ⟨RX7, "findFits", "(LPavedYards$Yard;)V"⟩
abbrev cX7_dropOthers : ByteArray := prog_9_method_6_code
def yX7_dropOthers : MethodName := ⟨RX7, "dropOthers", "(LPavedYards$Yard;II)V"⟩
abbrev cX7_fillWays : ByteArray := prog_9_method_7_code
def yX7_fillWays : MethodName := ⟨RX7, "fillWays", "(LPavedYards$Yard;)V"⟩
abbrev cX7_fillCosts : ByteArray := prog_9_method_8_code
def yX7_fillCosts : MethodName := ⟨RX7, "fillCosts", "(LPavedYards$Yard;)V"⟩
abbrev cX7_startTable : ByteArray := prog_9_method_9_code
def yX7_startTable : MethodName := ⟨RX7, "startTable", "(LPavedYards$Yard;JJ)V"⟩
abbrev cX7_fillWaysAt : ByteArray := prog_9_method_10_code
def yX7_fillWaysAt : MethodName := ⟨RX7, "fillWaysAt", "(LPavedYards$Yard;I)V"⟩
abbrev cX7_fillCostsAt : ByteArray := prog_9_method_11_code
def yX7_fillCostsAt : MethodName := ⟨RX7, "fillCostsAt", "(LPavedYards$Yard;I)V"⟩
abbrev cX7_canEast : ByteArray := prog_9_method_12_code
def yX7_canEast : MethodName := ⟨RX7, "canEast", "(LPavedYards$Yard;II)Z"⟩
abbrev cX7_costEast : ByteArray := prog_9_method_13_code
def yX7_costEast : MethodName := ⟨RX7, "costEast", "(LPavedYards$Yard;II)J"⟩
abbrev cX7_costSouth : ByteArray := prog_9_method_14_code
def yX7_costSouth : MethodName := ⟨RX7, "costSouth", "(LPavedYards$Yard;II)J"⟩
abbrev cX7_waysEast : ByteArray := prog_9_method_15_code
def yX7_waysEast : MethodName := ⟨RX7, "waysEast", "(LPavedYards$Yard;II)J"⟩
abbrev cX7_layByRank : ByteArray := prog_9_method_16_code
def yX7_layByRank : MethodName := ⟨RX7, "layByRank", "(LPavedYards$Yard;JLPavedYards$Paving;)V"⟩
abbrev cX7_layCheapest : ByteArray := prog_9_method_17_code
def yX7_layCheapest : MethodName := ⟨RX7, "layCheapest", "(LPavedYards$Yard;LPavedYards$Paving;)V"⟩
abbrev cX7_isBare : ByteArray := prog_9_method_18_code
def yX7_isBare : MethodName := ⟨RX7, "isBare", "(LPavedYards$Yard;II)Z"⟩
abbrev cX7_maskBehind : ByteArray := prog_9_method_19_code
def yX7_maskBehind : MethodName := ⟨RX7, "maskBehind", "(LPavedYards$Yard;IIZ)I"⟩
abbrev cX7_rankOf : ByteArray := prog_9_method_20_code
def yX7_rankOf : MethodName := ⟨RX7, "rankOf", "(LPavedYards$Yard;LPavedYards$Paving;)J"⟩
abbrev cX7_fillShares : ByteArray := prog_9_method_21_code
def yX7_fillShares : MethodName := ⟨RX7, "fillShares", "(LPavedYards$Yard;)V"⟩
abbrev cX7_shareAt : ByteArray := prog_9_method_22_code
def yX7_shareAt : MethodName := ⟨RX7, "shareAt", "(LPavedYards$Yard;I)V"⟩
abbrev cX7_bricksWithShare : ByteArray := prog_9_method_23_code
def yX7_bricksWithShare : MethodName := ⟨RX7, "bricksWithShare", "(LPavedYards$Yard;J)I"⟩
def RX8 : String := "PavedYards$Tape"
def TX8 : u_T := fun k => match k with
  | 0 => ("PavedYards$Tape", "typed", "[I", true)
  | 1 => ("PavedYards$Tape", "told", "[Z", true)
  | 2 => ("PavedYards$Tape", "size", "I", false)
  | 3 => ("PavedYards$Tape", "wide", "I", false)
  | _ => ("PavedYards$Tape", "high", "I", false)
def tyX8 : Nat → FieldType := fun k => match k with
  | 0 => .array .int
  | 1 => .array .boolean
  | 2 => .int
  | 3 => .int
  | _ => .int
theorem nmX8 : ∀ a, a < 5 → ∀ b, b < 5 → a ≠ b → (TX8 a).2.1 ≠ (TX8 b).2.1 := by decide +kernel
theorem tyX8_ok : ∀ k, k < 5 → parseFieldDescriptor (TX8 k).2.2.1 = some (tyX8 k) := by decide +kernel
abbrev cX8_init : ByteArray := prog_10_method_1_code
def yX8_init : MethodName := ⟨RX8, "<init>", "()V"⟩
abbrev cX8_byteAt : ByteArray := prog_10_method_2_code
def yX8_byteAt : MethodName := ⟨RX8, "byteAt", "(JI)I"⟩
abbrev cX8_canType : ByteArray := prog_10_method_3_code
def yX8_canType : MethodName := ⟨RX8, "canType", "(JI)Z"⟩
abbrev cX8_append : ByteArray := prog_10_method_4_code
def yX8_append : MethodName := ⟨RX8, "append", "(JI)I"⟩
abbrev cX8_isOpenAt : ByteArray := prog_10_method_5_code
def yX8_isOpenAt : MethodName := ⟨RX8, "isOpenAt", "(II)Z"⟩
abbrev cX8_parse : ByteArray := prog_10_method_6_code
def yX8_parse : MethodName := ⟨RX8, "parse", "()I"⟩
abbrev cX8_isRowEnd : ByteArray := prog_10_method_7_code
def yX8_isRowEnd : MethodName := ⟨RX8, "isRowEnd", "(II)Z"⟩
def RX9 : String := "PavedYards$Wave"
def TX9 : u_T := fun k => match k with
  | 0 => ("PavedYards$Wave", "seen", "[Z", true)
  | 1 => ("PavedYards$Wave", "places", "[I", true)
  | _ => ("PavedYards$Wave", "size", "I", false)
def tyX9 : Nat → FieldType := fun k => match k with
  | 0 => .array .boolean
  | 1 => .array .int
  | _ => .int
theorem nmX9 : ∀ a, a < 3 → ∀ b, b < 3 → a ≠ b → (TX9 a).2.1 ≠ (TX9 b).2.1 := by decide +kernel
theorem tyX9_ok : ∀ k, k < 3 → parseFieldDescriptor (TX9 k).2.2.1 = some (tyX9 k) := by decide +kernel
abbrev cX9_init : ByteArray := prog_11_method_1_code
def yX9_init : MethodName := ⟨RX9, "<init>", "()V"⟩
abbrev cX9_clear : ByteArray := prog_11_method_2_code
def yX9_clear : MethodName := ⟨RX9, "clear", "()V"⟩
abbrev cX9_reach : ByteArray := prog_11_method_3_code
def yX9_reach : MethodName := ⟨RX9, "reach", "(I)Z"⟩
def RX10 : String := "PavedYards$Yard"
def TX10 : u_T := fun k => match k with
  | 0 => ("PavedYards$Yard", "w", "I", false)
  | 1 => ("PavedYards$Yard", "h", "I", false)
  | 2 => ("PavedYards$Yard", "open", "[Z", true)
  | 3 => ("PavedYards$Yard", "want", "[I", true)
  | _ => ("PavedYards$Yard", "price", "[I", true)
def tyX10 : Nat → FieldType := fun k => match k with
  | 0 => .int
  | 1 => .int
  | 2 => .array .boolean
  | 3 => .array .int
  | _ => .array .int
theorem nmX10 : ∀ a, a < 5 → ∀ b, b < 5 → a ≠ b → (TX10 a).2.1 ≠ (TX10 b).2.1 := by decide +kernel
theorem tyX10_ok : ∀ k, k < 5 → parseFieldDescriptor (TX10 k).2.2.1 = some (tyX10 k) := by decide +kernel
abbrev cX10_init : ByteArray := prog_12_method_1_code
def yX10_init : MethodName := ⟨RX10, "<init>", "()V"⟩
abbrev cX10_start : ByteArray := prog_12_method_2_code
def yX10_start : MethodName := ⟨RX10, "start", "(II)V"⟩
abbrev cX10_change : ByteArray := prog_12_method_3_code
def yX10_change : MethodName := ⟨RX10, "change", "(IZ)V"⟩
abbrev cX10_brickOn : ByteArray := prog_12_method_4_code
def yX10_brickOn : MethodName := ⟨RX10, "brickOn", "(II)I"⟩
abbrev cX10_cells : ByteArray := prog_12_method_5_code
def yX10_cells : MethodName := ⟨RX10, "cells", "()I"⟩
abbrev cX10_column : ByteArray := prog_12_method_6_code
def yX10_column : MethodName := ⟨RX10, "column", "(I)I"⟩
abbrev cX10_row : ByteArray := prog_12_method_7_code
def yX10_row : MethodName := ⟨RX10, "row", "(I)I"⟩
abbrev cX10_isDark : ByteArray := prog_12_method_8_code
def yX10_isDark : MethodName := ⟨RX10, "isDark", "(I)Z"⟩
abbrev cX10_isCell : ByteArray := prog_12_method_9_code
def yX10_isCell : MethodName := ⟨RX10, "isCell", "(I)Z"⟩
abbrev cX10_isOpen : ByteArray := prog_12_method_10_code
def yX10_isOpen : MethodName := ⟨RX10, "isOpen", "(I)Z"⟩
abbrev cX10_openAt : ByteArray := prog_12_method_11_code
def yX10_openAt : MethodName := ⟨RX10, "openAt", "(II)I"⟩
abbrev cX10_beside : ByteArray := prog_12_method_12_code
def yX10_beside : MethodName := ⟨RX10, "beside", "(II)I"⟩
abbrev cX10_secondCell : ByteArray := prog_12_method_13_code
def yX10_secondCell : MethodName := ⟨RX10, "secondCell", "(I)I"⟩
abbrev cX10_stands : ByteArray := prog_12_method_14_code
def yX10_stands : MethodName := ⟨RX10, "stands", "(I)Z"⟩
abbrev cX10_isCorner : ByteArray := prog_12_method_15_code
def yX10_isCorner : MethodName := ⟨RX10, "isCorner", "(II)Z"⟩
abbrev cX10_openCells : ByteArray := prog_12_method_16_code
def yX10_openCells : MethodName := ⟨RX10, "openCells", "()I"⟩
abbrev cX10_darkCells : ByteArray := prog_12_method_17_code
def yX10_darkCells : MethodName := ⟨RX10, "darkCells", "()I"⟩
abbrev cX10_standingBricks : ByteArray := prog_12_method_18_code
def yX10_standingBricks : MethodName := ⟨RX10, "standingBricks", "()I"⟩
abbrev cX10_wantedBricks : ByteArray := prog_12_method_19_code
def yX10_wantedBricks : MethodName := ⟨RX10, "wantedBricks", "(I)I"⟩
def RX11 : String := "PavedYards"
def TX11 : u_T := fun k => match k with
  | 0 => ("PavedYards", "yard", "LPavedYards$Yard;", true)
  | 1 => ("PavedYards", "tape", "LPavedYards$Tape;", true)
  | 2 => ("PavedYards", "sweep", "LPavedYards$Sweep;", true)
  | 3 => ("PavedYards", "crossing", "LPavedYards$Crossing;", true)
  | 4 => ("PavedYards", "match", "LPavedYards$Match;", true)
  | 5 => ("PavedYards", "shape", "LPavedYards$Shape;", true)
  | 6 => ("PavedYards", "heights", "LPavedYards$Heights;", true)
  | 7 => ("PavedYards", "rounds", "LPavedYards$Rings;", true)
  | 8 => ("PavedYards", "slots", "[LPavedYards$Paving;", true)
  | _ => ("PavedYards", "sheets", "[LPavedYards$Sheet;", true)
def tyX11 : Nat → FieldType := fun k => match k with
  | 0 => .object "PavedYards$Yard"
  | 1 => .object "PavedYards$Tape"
  | 2 => .object "PavedYards$Sweep"
  | 3 => .object "PavedYards$Crossing"
  | 4 => .object "PavedYards$Match"
  | 5 => .object "PavedYards$Shape"
  | 6 => .object "PavedYards$Heights"
  | 7 => .object "PavedYards$Rings"
  | 8 => .array (.object "PavedYards$Paving")
  | _ => .array (.object "PavedYards$Sheet")
theorem nmX11 : ∀ a, a < 10 → ∀ b, b < 10 → a ≠ b → (TX11 a).2.1 ≠ (TX11 b).2.1 := by decide +kernel
theorem tyX11_ok : ∀ k, k < 10 → parseFieldDescriptor (TX11 k).2.2.1 = some (tyX11 k) := by decide +kernel
abbrev cX11_init : ByteArray := prog_1_method_1_code
def yX11_init : MethodName := ⟨RX11, "<init>", "()V"⟩
abbrev cX11_yard : ByteArray := prog_1_method_2_code
def yX11_yard : MethodName := ⟨RX11, "yard", "(II)I"⟩
abbrev cX11_cell : ByteArray := prog_1_method_3_code
def yX11_cell : MethodName := ⟨RX11, "cell", "(IZ)I"⟩
abbrev cX11_type : ByteArray := prog_1_method_4_code
def yX11_type : MethodName := ⟨RX11, "type", "(JI)I"⟩
abbrev cX11_read : ByteArray := prog_1_method_5_code
def yX11_read : MethodName := ⟨RX11, "read", "()I"⟩
abbrev cX11_lay : ByteArray := prog_1_method_6_code
def yX11_lay : MethodName := ⟨RX11, "lay", "(III)I"⟩
abbrev cX11_count : ByteArray := prog_1_method_7_code
def yX11_count : MethodName := ⟨RX11, "count", "(I)I"⟩
abbrev cX11_want : ByteArray := prog_1_method_8_code
def yX11_want : MethodName := ⟨RX11, "want", "(II)I"⟩
abbrev cX11_price : ByteArray := prog_1_method_9_code
def yX11_price : MethodName := ⟨RX11, "price", "(II)I"⟩
abbrev cX11_pavings : ByteArray := prog_1_method_10_code
def yX11_pavings : MethodName := ⟨RX11, "pavings", "()J"⟩
abbrev cX11_share : ByteArray := prog_1_method_11_code
def yX11_share : MethodName := ⟨RX11, "share", "(I)J"⟩
abbrev cX11_sure : ByteArray := prog_1_method_12_code
def yX11_sure : MethodName := ⟨RX11, "sure", "(I)I"⟩
abbrev cX11_place : ByteArray := prog_1_method_13_code
def yX11_place : MethodName := ⟨RX11, "place", "(IJ)I"⟩
abbrev cX11_rank : ByteArray := prog_1_method_14_code
def yX11_rank : MethodName := ⟨RX11, "rank", "(I)J"⟩
abbrev cX11_brick : ByteArray := prog_1_method_15_code
def yX11_brick : MethodName := ⟨RX11, "brick", "(II)I"⟩
abbrev cX11_cheapest : ByteArray := prog_1_method_16_code
def yX11_cheapest : MethodName := ⟨RX11, "cheapest", "(I)I"⟩
abbrev cX11_cost : ByteArray := prog_1_method_17_code
def yX11_cost : MethodName := ⟨RX11, "cost", "(I)I"⟩
abbrev cX11_keep : ByteArray := prog_1_method_18_code
def yX11_keep : MethodName := ⟨RX11, "keep", "(II)I"⟩
abbrev cX11_bricks : ByteArray := prog_1_method_19_code
def yX11_bricks : MethodName := ⟨RX11, "bricks", "(III)I"⟩
abbrev cX11_most : ByteArray := prog_1_method_20_code
def yX11_most : MethodName := ⟨RX11, "most", "()I"⟩
abbrev cX11_bar : ByteArray := prog_1_method_21_code
def yX11_bar : MethodName := ⟨RX11, "bar", "(II)I"⟩
abbrev cX11_bars : ByteArray := prog_1_method_22_code
def yX11_bars : MethodName := ⟨RX11, "bars", "(II)I"⟩
abbrev cX11_whole : ByteArray := prog_1_method_23_code
def yX11_whole : MethodName := ⟨RX11, "whole", "()I"⟩
abbrev cX11_height : ByteArray := prog_1_method_24_code
def yX11_height : MethodName := ⟨RX11, "height", "(III)I"⟩
abbrev cX11_turn : ByteArray := prog_1_method_25_code
def yX11_turn : MethodName := ⟨RX11, "turn", "(III)I"⟩
abbrev cX11_turns : ByteArray := prog_1_method_26_code
def yX11_turns : MethodName := ⟨RX11, "turns", "(II)I"⟩
abbrev cX11_settle : ByteArray := prog_1_method_27_code
def yX11_settle : MethodName := ⟨RX11, "settle", "(II)I"⟩
abbrev cX11_far : ByteArray := prog_1_method_28_code
def yX11_far : MethodName := ⟨RX11, "far", "(II)I"⟩
abbrev cX11_toward : ByteArray := prog_1_method_29_code
def yX11_toward : MethodName := ⟨RX11, "toward", "(II)I"⟩
abbrev cX11_lines : ByteArray := prog_1_method_30_code
def yX11_lines : MethodName := ⟨RX11, "lines", "(I)I"⟩
abbrev cX11_sound : ByteArray := prog_1_method_31_code
def yX11_sound : MethodName := ⟨RX11, "sound", "()J"⟩
abbrev cX11_rings : ByteArray := prog_1_method_32_code
def yX11_rings : MethodName := ⟨RX11, "rings", "(II)I"⟩
abbrev cX11_ring : ByteArray := prog_1_method_33_code
def yX11_ring : MethodName := ⟨RX11, "ring", "(III)I"⟩
abbrev cX11_wind : ByteArray := prog_1_method_34_code
def yX11_wind : MethodName := ⟨RX11, "wind", "(III)I"⟩
abbrev cX11_sheet : ByteArray := prog_1_method_35_code
def yX11_sheet : MethodName := ⟨RX11, "sheet", "(III)I"⟩
abbrev cX11_drop : ByteArray := prog_1_method_36_code
def yX11_drop : MethodName := ⟨RX11, "drop", "(I)I"⟩
abbrev cX11_item : ByteArray := prog_1_method_37_code
def yX11_item : MethodName := ⟨RX11, "item", "(IIII)I"⟩
abbrev cX11_copy : ByteArray := prog_1_method_38_code
def yX11_copy : MethodName := ⟨RX11, "copy", "(IIIII)I"⟩
abbrev cX11_bit : ByteArray := prog_1_method_39_code
def yX11_bit : MethodName := ⟨RX11, "bit", "(Z)I"⟩
abbrev cX11_isSlot : ByteArray := prog_1_method_40_code
def yX11_isSlot : MethodName := ⟨RX11, "isSlot", "(I)Z"⟩
abbrev cX11_isSheet : ByteArray := prog_1_method_41_code
def yX11_isSheet : MethodName := ⟨RX11, "isSheet", "(I)Z"⟩
abbrev cX11_isLane : ByteArray := prog_1_method_42_code
def yX11_isLane : MethodName := ⟨RX11, "isLane", "(I)Z"⟩
abbrev cX11_startYard : ByteArray := prog_1_method_43_code
def yX11_startYard : MethodName := ⟨RX11, "startYard", "(II)V"⟩
abbrev cX11_changeCell : ByteArray := prog_1_method_44_code
def yX11_changeCell : MethodName := ⟨RX11, "changeCell", "(IZ)Z"⟩
abbrev cX11_yardChanged : ByteArray := prog_1_method_45_code
def yX11_yardChanged : MethodName := ⟨RX11, "yardChanged", "()V"⟩
abbrev cX11_heldSlots : ByteArray := prog_1_method_46_code
def yX11_heldSlots : MethodName := ⟨RX11, "heldSlots", "()I"⟩
abbrev cX11_slotFault : ByteArray := prog_1_method_47_code
def yX11_slotFault : MethodName := ⟨RX11, "slotFault", "(I)I"⟩
abbrev cX11_slotsFault : ByteArray := prog_1_method_48_code
def yX11_slotsFault : MethodName := ⟨RX11, "slotsFault", "(II)I"⟩
abbrev cX11_wholeFault : ByteArray := prog_1_method_49_code
def yX11_wholeFault : MethodName := ⟨RX11, "wholeFault", "(II)I"⟩
abbrev cX11_ringFault : ByteArray := prog_1_method_50_code
def yX11_ringFault : MethodName := ⟨RX11, "ringFault", "(III)I"⟩
abbrev cX11_sheetFault : ByteArray := prog_1_method_51_code
def yX11_sheetFault : MethodName := ⟨RX11, "sheetFault", "(II)I"⟩
def RX12 : String := "PavedYardsModel"
def TX12 : u_T := fun k => match k with
  | 0 => ("PavedYardsModel", "w", "I", false)
  | 1 => ("PavedYardsModel", "h", "I", false)
  | 2 => ("PavedYardsModel", "isOpen", "[Z", true)
  | 3 => ("PavedYardsModel", "wants", "[I", true)
  | 4 => ("PavedYardsModel", "prices", "[I", true)
  | 5 => ("PavedYardsModel", "isHeld", "[Z", true)
  | 6 => ("PavedYardsModel", "laid", "[I", true)
  | 7 => ("PavedYardsModel", "tape", "[I", true)
  | 8 => ("PavedYardsModel", "taped", "I", false)
  | 9 => ("PavedYardsModel", "at", "I", false)
  | 10 => ("PavedYardsModel", "drawn", "[Z", true)
  | 11 => ("PavedYardsModel", "may", "[Z", true)
  | 12 => ("PavedYardsModel", "goOn", "[J", true)
  | 13 => ("PavedYardsModel", "least", "[I", true)
  | 14 => ("PavedYardsModel", "isOn", "[Z", true)
  | 15 => ("PavedYardsModel", "mates", "[I", true)
  | 16 => ("PavedYardsModel", "cameFrom", "[I", true)
  | 17 => ("PavedYardsModel", "queue", "[I", true)
  | 18 => ("PavedYardsModel", "doubts", "[I", true)
  | 19 => ("PavedYardsModel", "isMet", "[Z", true)
  | 20 => ("PavedYardsModel", "path", "[I", true)
  | 21 => ("PavedYardsModel", "heights", "[I", true)
  | 22 => ("PavedYardsModel", "others", "[I", true)
  | 23 => ("PavedYardsModel", "ringOf", "[I", true)
  | 24 => ("PavedYardsModel", "lanes", "[I", true)
  | 25 => ("PavedYardsModel", "sizes", "[I", true)
  | 26 => ("PavedYardsModel", "items", "[I", true)
  | _ => ("PavedYardsModel", "moved", "[I", true)
def tyX12 : Nat → FieldType := fun k => match k with
  | 0 => .int
  | 1 => .int
  | 2 => .array .boolean
  | 3 => .array .int
  | 4 => .array .int
  | 5 => .array .boolean
  | 6 => .array .int
  | 7 => .array .int
  | 8 => .int
  | 9 => .int
  | 10 => .array .boolean
  | 11 => .array .boolean
  | 12 => .array .long
  | 13 => .array .int
  | 14 => .array .boolean
  | 15 => .array .int
  | 16 => .array .int
  | 17 => .array .int
  | 18 => .array .int
  | 19 => .array .boolean
  | 20 => .array .int
  | 21 => .array .int
  | 22 => .array .int
  | 23 => .array .int
  | 24 => .array .int
  | 25 => .array .int
  | 26 => .array .int
  | _ => .array .int
theorem nmX12 : ∀ a, a < 28 → ∀ b, b < 28 → a ≠ b → (TX12 a).2.1 ≠ (TX12 b).2.1 := by decide +kernel
theorem tyX12_ok : ∀ k, k < 28 → parseFieldDescriptor (TX12 k).2.2.1 = some (tyX12 k) := by decide +kernel
abbrev cX12_in : ByteArray := prog_14_method_2_code
def yX12_in : MethodName := ⟨RX12, "in", "(JJJ)Z"⟩
abbrev cX12_init : ByteArray := prog_14_method_3_code
def yX12_init : MethodName := ⟨RX12, "<init>", "()V"⟩
abbrev cX12_emptySlots : ByteArray := prog_14_method_4_code
def yX12_emptySlots : MethodName := ⟨RX12, "emptySlots", "()V"⟩
abbrev cX12_begins : ByteArray := prog_14_method_5_code
def yX12_begins : MethodName := ⟨RX12, "begins", "(II)V"⟩
abbrev cX12_yard : ByteArray := prog_14_method_6_code
def yX12_yard : MethodName := ⟨RX12, "yard", "(II)I"⟩
abbrev cX12_isCell : ByteArray := prog_14_method_7_code
def yX12_isCell : MethodName := ⟨RX12, "isCell", "(I)Z"⟩
abbrev cX12_isOpenAt : ByteArray := prog_14_method_8_code
def yX12_isOpenAt : MethodName := ⟨RX12, "isOpenAt", "(II)Z"⟩
abbrev cX12_isDark : ByteArray := prog_14_method_9_code
def yX12_isDark : MethodName := ⟨RX12, "isDark", "(II)Z"⟩
abbrev cX12_isDarkCell : ByteArray := prog_14_method_10_code
def yX12_isDarkCell : MethodName := ⟨RX12, "isDarkCell", "(I)Z"⟩
abbrev cX12_otherOf : ByteArray := prog_14_method_11_code
def yX12_otherOf : MethodName := ⟨RX12, "otherOf", "(I)I"⟩
abbrev cX12_isBrick : ByteArray := prog_14_method_12_code
def yX12_isBrick : MethodName := ⟨RX12, "isBrick", "(I)Z"⟩
abbrev cX12_frees : ByteArray := prog_14_method_13_code
def yX12_frees : MethodName := ⟨RX12, "frees", "(I)V"⟩
abbrev cX12_sets : ByteArray := prog_14_method_14_code
def yX12_sets : MethodName := ⟨RX12, "sets", "(IZ)V"⟩
abbrev cX12_cell : ByteArray := prog_14_method_15_code
def yX12_cell : MethodName := ⟨RX12, "cell", "(IZ)I"⟩
abbrev cX12_type : ByteArray := prog_14_method_16_code
def yX12_type : MethodName := ⟨RX12, "type", "(JI)I"⟩
abbrev cX12_next : ByteArray := prog_14_method_17_code
def yX12_next : MethodName := ⟨RX12, "next", "()I"⟩
abbrev cX12_openMany : ByteArray := prog_14_method_18_code
def yX12_openMany : MethodName := ⟨RX12, "openMany", "()I"⟩
abbrev cX12_read : ByteArray := prog_14_method_19_code
def yX12_read : MethodName := ⟨RX12, "read", "()I"⟩
abbrev cX12_lay : ByteArray := prog_14_method_20_code
def yX12_lay : MethodName := ⟨RX12, "lay", "(III)I"⟩
abbrev cX12_count : ByteArray := prog_14_method_21_code
def yX12_count : MethodName := ⟨RX12, "count", "(I)I"⟩
abbrev cX12_want : ByteArray := prog_14_method_22_code
def yX12_want : MethodName := ⟨RX12, "want", "(II)I"⟩
abbrev cX12_price : ByteArray := prog_14_method_23_code
def yX12_price : MethodName := ⟨RX12, "price", "(II)I"⟩
abbrev cX12_allows : ByteArray := prog_14_method_24_code
def yX12_allows : MethodName := ⟨RX12, "allows", "(Z)V"⟩
abbrev cX12_musts : ByteArray := prog_14_method_25_code
def yX12_musts : MethodName := ⟨RX12, "musts", "(I)V"⟩
abbrev cX12_canEast : ByteArray := prog_14_method_26_code
def yX12_canEast : MethodName := ⟨RX12, "canEast", "(II)Z"⟩
abbrev cX12_countOn : ByteArray := prog_14_method_27_code
def yX12_countOn : MethodName := ⟨RX12, "countOn", "()V"⟩
abbrev cX12_countAll : ByteArray := prog_14_method_28_code
def yX12_countAll : MethodName := ⟨RX12, "countAll", "()J"⟩
abbrev cX12_pavings : ByteArray := prog_14_method_29_code
def yX12_pavings : MethodName := ⟨RX12, "pavings", "()J"⟩
abbrev cX12_shareOf : ByteArray := prog_14_method_30_code
def yX12_shareOf : MethodName := ⟨RX12, "shareOf", "(I)J"⟩
abbrev cX12_share : ByteArray := prog_14_method_31_code
def yX12_share : MethodName := ⟨RX12, "share", "(I)J"⟩
abbrev cX12_sure : ByteArray := prog_14_method_32_code
def yX12_sure : MethodName := ⟨RX12, "sure", "(I)I"⟩
abbrev cX12_isSlot : ByteArray := prog_14_method_33_code
def yX12_isSlot : MethodName := ⟨RX12, "isSlot", "(I)Z"⟩
abbrev cX12_lays : ByteArray := prog_14_method_34_code
def yX12_lays : MethodName := ⟨RX12, "lays", "(II)V"⟩
abbrev cX12_place : ByteArray := prog_14_method_35_code
def yX12_place : MethodName := ⟨RX12, "place", "(IJ)I"⟩
abbrev cX12_rank : ByteArray := prog_14_method_36_code
def yX12_rank : MethodName := ⟨RX12, "rank", "(I)J"⟩
abbrev cX12_brick : ByteArray := prog_14_method_37_code
def yX12_brick : MethodName := ⟨RX12, "brick", "(II)I"⟩
abbrev cX12_sumBy : ByteArray := prog_14_method_38_code
def yX12_sumBy : MethodName := ⟨RX12, "sumBy", "(III)I"⟩
abbrev cX12_eastSum : ByteArray := prog_14_method_39_code
def yX12_eastSum : MethodName := ⟨RX12, "eastSum", "(II)I"⟩
abbrev cX12_sums : ByteArray := prog_14_method_40_code
def yX12_sums : MethodName := ⟨RX12, "sums", "()V"⟩
abbrev cX12_cheapest : ByteArray := prog_14_method_41_code
def yX12_cheapest : MethodName := ⟨RX12, "cheapest", "(I)I"⟩
abbrev cX12_cost : ByteArray := prog_14_method_42_code
def yX12_cost : MethodName := ⟨RX12, "cost", "(I)I"⟩
abbrev cX12_keep : ByteArray := prog_14_method_43_code
def yX12_keep : MethodName := ⟨RX12, "keep", "(II)I"⟩
abbrev cX12_bricks : ByteArray := prog_14_method_44_code
def yX12_bricks : MethodName := ⟨RX12, "bricks", "(III)I"⟩
abbrev cX12_beside : ByteArray := prog_14_method_45_code
def yX12_beside : MethodName := ⟨RX12, "beside", "(II)I"⟩
abbrev cX12_searches : ByteArray := prog_14_method_46_code
def yX12_searches : MethodName := ⟨RX12, "searches", "(I)I"⟩
abbrev cX12_forgets : ByteArray := prog_14_method_47_code
def yX12_forgets : MethodName := ⟨RX12, "forgets", "()V"⟩
abbrev cX12_matches : ByteArray := prog_14_method_48_code
def yX12_matches : MethodName := ⟨RX12, "matches", "()I"⟩
abbrev cX12_most : ByteArray := prog_14_method_49_code
def yX12_most : MethodName := ⟨RX12, "most", "()I"⟩
abbrev cX12_doubtAll : ByteArray := prog_14_method_50_code
def yX12_doubtAll : MethodName := ⟨RX12, "doubtAll", "(I)V"⟩
abbrev cX12_bar : ByteArray := prog_14_method_51_code
def yX12_bar : MethodName := ⟨RX12, "bar", "(II)I"⟩
abbrev cX12_bars : ByteArray := prog_14_method_52_code
def yX12_bars : MethodName := ⟨RX12, "bars", "(II)I"⟩
abbrev cX12_isOpenFrame : ByteArray := prog_14_method_53_code
def yX12_isOpenFrame : MethodName := ⟨RX12, "isOpenFrame", "(I)Z"⟩
abbrev cX12_meets : ByteArray := prog_14_method_54_code
def yX12_meets : MethodName := ⟨RX12, "meets", "(IZ)I"⟩
abbrev cX12_isWhole : ByteArray := prog_14_method_55_code
def yX12_isWhole : MethodName := ⟨RX12, "isWhole", "()Z"⟩
abbrev cX12_whole : ByteArray := prog_14_method_56_code
def yX12_whole : MethodName := ⟨RX12, "whole", "()I"⟩
abbrev cX12_isCorner : ByteArray := prog_14_method_57_code
def yX12_isCorner : MethodName := ⟨RX12, "isCorner", "(II)Z"⟩
abbrev cX12_isBarred : ByteArray := prog_14_method_58_code
def yX12_isBarred : MethodName := ⟨RX12, "isBarred", "(IIIII)Z"⟩
abbrev cX12_steps : ByteArray := prog_14_method_59_code
def yX12_steps : MethodName := ⟨RX12, "steps", "(IIII)I"⟩
abbrev cX12_rises : ByteArray := prog_14_method_60_code
def yX12_rises : MethodName := ⟨RX12, "rises", "(I)V"⟩
abbrev cX12_refuses : ByteArray := prog_14_method_61_code
def yX12_refuses : MethodName := ⟨RX12, "refuses", "(I)I"⟩
abbrev cX12_height : ByteArray := prog_14_method_62_code
def yX12_height : MethodName := ⟨RX12, "height", "(III)I"⟩
abbrev cX12_turnOf : ByteArray := prog_14_method_63_code
def yX12_turnOf : MethodName := ⟨RX12, "turnOf", "(III)I"⟩
abbrev cX12_across : ByteArray := prog_14_method_64_code
def yX12_across : MethodName := ⟨RX12, "across", "(III)V"⟩
abbrev cX12_turn : ByteArray := prog_14_method_65_code
def yX12_turn : MethodName := ⟨RX12, "turn", "(III)I"⟩
abbrev cX12_turnMany : ByteArray := prog_14_method_66_code
def yX12_turnMany : MethodName := ⟨RX12, "turnMany", "(II)I"⟩
abbrev cX12_turns : ByteArray := prog_14_method_67_code
def yX12_turns : MethodName := ⟨RX12, "turns", "(II)I"⟩
abbrev cX12_settle : ByteArray := prog_14_method_68_code
def yX12_settle : MethodName := ⟨RX12, "settle", "(II)I"⟩
abbrev cX12_farOf : ByteArray := prog_14_method_69_code
def yX12_farOf : MethodName := ⟨RX12, "farOf", "(II)I"⟩
abbrev cX12_refusesBoth : ByteArray := prog_14_method_70_code
def yX12_refusesBoth : MethodName := ⟨RX12, "refusesBoth", "(II)I"⟩
abbrev cX12_far : ByteArray := prog_14_method_71_code
def yX12_far : MethodName := ⟨RX12, "far", "(II)I"⟩
abbrev cX12_toward : ByteArray := prog_14_method_72_code
def yX12_toward : MethodName := ⟨RX12, "toward", "(II)I"⟩
abbrev cX12_isCrossed : ByteArray := prog_14_method_73_code
def yX12_isCrossed : MethodName := ⟨RX12, "isCrossed", "(II)Z"⟩
abbrev cX12_lines : ByteArray := prog_14_method_74_code
def yX12_lines : MethodName := ⟨RX12, "lines", "(I)I"⟩
abbrev cX12_sound : ByteArray := prog_14_method_75_code
def yX12_sound : MethodName := ⟨RX12, "sound", "()J"⟩
abbrev cX12_mateIn : ByteArray := prog_14_method_76_code
def yX12_mateIn : MethodName := ⟨RX12, "mateIn", "(II)I"⟩
abbrev cX12_ringMany : ByteArray := prog_14_method_77_code
def yX12_ringMany : MethodName := ⟨RX12, "ringMany", "(II)I"⟩
abbrev cX12_rings : ByteArray := prog_14_method_78_code
def yX12_rings : MethodName := ⟨RX12, "rings", "(II)I"⟩
abbrev cX12_ringSize : ByteArray := prog_14_method_79_code
def yX12_ringSize : MethodName := ⟨RX12, "ringSize", "(I)I"⟩
abbrev cX12_ring : ByteArray := prog_14_method_80_code
def yX12_ring : MethodName := ⟨RX12, "ring", "(III)I"⟩
abbrev cX12_wind : ByteArray := prog_14_method_81_code
def yX12_wind : MethodName := ⟨RX12, "wind", "(III)I"⟩
abbrev cX12_isSheet : ByteArray := prog_14_method_82_code
def yX12_isSheet : MethodName := ⟨RX12, "isSheet", "(I)Z"⟩
abbrev cX12_isLane : ByteArray := prog_14_method_83_code
def yX12_isLane : MethodName := ⟨RX12, "isLane", "(I)Z"⟩
abbrev cX12_finds : ByteArray := prog_14_method_84_code
def yX12_finds : MethodName := ⟨RX12, "finds", "(IIII)I"⟩
abbrev cX12_sheet : ByteArray := prog_14_method_85_code
def yX12_sheet : MethodName := ⟨RX12, "sheet", "(III)I"⟩
abbrev cX12_drop : ByteArray := prog_14_method_86_code
def yX12_drop : MethodName := ⟨RX12, "drop", "(I)I"⟩
abbrev cX12_item : ByteArray := prog_14_method_87_code
def yX12_item : MethodName := ⟨RX12, "item", "(IIII)I"⟩
abbrev cX12_copy : ByteArray := prog_14_method_88_code
def yX12_copy : MethodName := ⟨RX12, "copy", "(IIIII)I"⟩
def RJ9 : String := "java/lang/Math"
def TJ9 : u_T := fun k => match k with
  | _ => ("", "", "", false)
def tyJ9 : Nat → FieldType := fun k => match k with
  | _ => .int
theorem nmJ9 : ∀ a, a < 0 → ∀ b, b < 0 → a ≠ b → (TJ9 a).2.1 ≠ (TJ9 b).2.1 := by decide +kernel
theorem tyJ9_ok : ∀ k, k < 0 → parseFieldDescriptor (TJ9 k).2.2.1 = some (tyJ9 k) := by decide +kernel
abbrev cJ9_abs_0f7a4 : ByteArray := prog_15_method_59_code
def yJ9_abs_0f7a4 : MethodName := ⟨RJ9, "abs", "(I)I"⟩
abbrev cJ9_min_f86c9 : ByteArray := prog_15_method_70_code
def yJ9_min_f86c9 : MethodName := ⟨RJ9, "min", "(JJ)J"⟩
def RJ10 : String := "java/lang/System"
def TJ10 : u_T := fun k => match k with
  | _ => ("", "", "", false)
def tyJ10 : Nat → FieldType := fun k => match k with
  | _ => .int
theorem nmJ10 : ∀ a, a < 0 → ∀ b, b < 0 → a ≠ b → (TJ10 a).2.1 ≠ (TJ10 b).2.1 := by decide +kernel
theorem tyJ10_ok : ∀ k, k < 0 → parseFieldDescriptor (TJ10 k).2.2.1 = some (tyJ10 k) := by decide +kernel
def RJ7 : String := "java/util/Arrays"
def TJ7 : u_T := fun k => match k with
  | _ => ("", "", "", false)
def tyJ7 : Nat → FieldType := fun k => match k with
  | _ => .int
theorem nmJ7 : ∀ a, a < 0 → ∀ b, b < 0 → a ≠ b → (TJ7 a).2.1 ≠ (TJ7 b).2.1 := by decide +kernel
theorem tyJ7_ok : ∀ k, k < 0 → parseFieldDescriptor (TJ7 k).2.2.1 = some (tyJ7 k) := by decide +kernel
abbrev cJ7_fill_d0a16 : ByteArray := prog_17_method_101_code
def yJ7_fill_d0a16 : MethodName := ⟨RJ7, "fill", "([JJ)V"⟩
abbrev cJ7_fill_53178 : ByteArray := prog_17_method_103_code
def yJ7_fill_53178 : MethodName := ⟨RJ7, "fill", "([II)V"⟩
def RL : String := "PavedYardsLaw"
abbrev cL_law : ByteArray := code
def yL_law : MethodName := ⟨RL, "law", "([I)Z"⟩
abbrev vwCl : List vw_C := [(RX0, TX0, 2), (RX1, TX1, 3), (RX2, TX2, 4), (RX3, TX3, 2), (RX4, TX4, 2), (RX5, TX5, 1), (RX6, TX6, 4), (RX7, TX7, 7), (RX8, TX8, 5), (RX9, TX9, 3), (RX10, TX10, 5), (RX11, TX11, 10), (RX12, TX12, 28)]
end
section
/-! my picture of the memory: cells by number, ints as whole numbers modulo 2^32, longs, references by number -/
abbrev Mv : Type := Int ⊕ (Int64 ⊕ Option Nat)
abbrev vI (a : Int) : Mv := Sum.inl a
abbrev vL (a : Int64) : Mv := Sum.inr (Sum.inl a)
abbrev vR (k : Nat) : Mv := Sum.inr (Sum.inr (some k))
def cv (ad : Nat → Nat) (v : Mv) : Value := match v with
  | .inl a => .int (Int32.ofInt a)
  | .inr (.inl x) => .long x
  | .inr (.inr r) => va_rf (r.map ad)
abbrev Mem : Type := (Nat → Int → Int) × (Nat → Int → Int64) × (Nat → Nat → Nat)
def gI (M : Mem) (k : Nat) (j : Int) : Int := M.1 k j
def gL (M : Mem) (k : Nat) (j : Int) : Int64 := M.2.1 k j
def sI (M : Mem) (k : Nat) (j v : Int) : Mem := (fun a b => if a = k ∧ b = j then v else M.1 a b, M.2)
def sL (M : Mem) (k : Nat) (j : Int) (v : Int64) : Mem := (M.1, fun a b => if a = k ∧ b = j then v else M.2.1 a b, M.2.2)
def sR (M : Mem) (k j v : Nat) : Mem := (M.1, M.2.1, fun a b => if a = k ∧ b = j then v else M.2.2 a b)
def cpI (M : Mem) (k0 : Nat) (sp : Int) (k1 : Nat) (dp n : Int) : Mem := (fun a b => if a = k1 ∧ dp ≤ b ∧ b < dp + n then M.1 k0 (sp + (b - dp)) else M.1 a b, M.2)
def lyL : List (Nat × Nat) := [(16, 0), (15, 0), (1, 64), (0, 128), (0, 128), (13, 0), (0, 90), (1, 64), (12, 0), (2, 16640), (2, 128), (1, 128), (2, 256), (2, 256), (5, 0), (2, 256), (2, 256), (7, 0), (0, 64), (0, 64), (0, 64), (14, 0), (1, 100), (0, 100), (10, 0), (14, 0), (1, 100), (0, 100), (6, 0), (0, 81), (0, 81), (14, 0), (1, 100), (0, 100), (9, 0), (0, 64), (0, 64), (3, 4), (4, 4), (8, 0), (0, 64), (8, 0), (0, 64), (8, 0), (0, 64), (8, 0), (0, 64), (11, 0), (0, 64), (11, 0), (0, 64), (11, 0), (0, 64), (11, 0), (0, 64), (17, 0), (1, 64), (0, 128), (0, 128), (1, 4), (0, 256), (0, 90), (1, 64), (1, 128), (2, 16640), (0, 16640), (1, 64), (0, 64), (0, 64), (0, 64), (0, 64), (1, 100), (0, 100), (0, 81), (0, 81), (0, 64), (0, 4), (0, 4), (0, 256), (0, 64)]
def ly (k : Nat) : Nat × Nat := lyL.getD k (99, 0)
def rfL : List (List (Option Nat)) := [[some 1, some 5, some 8, some 14, some 17, some 24, some 28, some 34, some 37, some 38], [none, none, some 2, some 3, some 4], [], [], [], [some 6, some 7, none, none, none], [], [], [some 9, some 10, some 11, some 12, some 13, none, none], [], [], [], [], [], [some 15, some 16], [], [], [some 18, some 19, some 20, some 21], [], [], [], [some 22, some 23, none], [], [], [some 25], [some 26, some 27, none], [], [], [some 29, some 30, some 31], [], [], [some 32, some 33, none], [], [], [some 35, some 36], [], [], [some 39, some 41, some 43, some 45], [some 47, some 49, some 51, some 53], [none, some 40], [], [none, some 42], [], [none, some 44], [], [none, some 46], [], [none, none, none, some 48], [], [none, none, none, some 50], [], [none, none, none, some 52], [], [none, none, none, some 54], [], [none, none, some 56, some 57, some 58, some 59, some 60, some 61, none, none, some 62, some 63, some 64, some 65, some 66, some 67, some 68, some 69, some 70, some 71, some 72, some 73, some 74, some 75, some 76, some 77, some 78, some 79], [], [], [], [], [], [], [], [], [], [], [], [], [], [], [], [], [], [], [], [], [], [], [], []]
def dynR (k j : Nat) : Bool := (k == 8 && (j == 3 || j == 4)) || (k == 14 && (j == 0 || j == 1))
def gR (M : Mem) (k j : Nat) : Option Nat := if dynR k j = true then some (M.2.2 k j) else (rfL.getD k []).getD j none
def irL : List (List Bool) := [[true, true], [true, true, true], [true, true, true, true], [false, true], [true, true], [true], [false, false, false, true], [true, true, true, true, true, false, false], [true, true, false, false, false], [true, true, false], [false, false, true, true, true], [true, true, true, true, true, true, true, true, true, true], [false, false, true, true, true, true, true, true, false, false, true, true, true, true, true, true, true, true, true, true, true, true, true, true, true, true, true, true]]
def irq (ci j : Nat) : Bool := (irL.getD ci []).getD j false
def nfq (ci : Nat) : Nat := (irL.getD ci []).length
def NC : Nat := 80
def fv (ad : Nat → Nat) (M : Mem) (k ci j : Nat) : Value := if irq ci j = true then va_rf ((gR M k j).map ad) else .int (Int32.ofInt (gI M k (j : Int)))
def flds (ad : Nat → Nat) (M : Mem) (k ci : Nat) : List Value := (List.range (nfq ci)).map (fv ad M k ci)
def cE (ad : Nat → Nat) (cy : Nat → ClassId) (M : Mem) (k : Nat) : va_E :=
  if (ly k).1 < 2 then .inl (cy (ly k).1, (ly k).2, .inl (fun j => Int32.ofInt (gI M k (j : Int))))
  else if (ly k).1 = 2 then .inl (cy 2, (ly k).2, .inr (.inl (fun j => gL M k (j : Int))))
  else if (ly k).1 < 5 then .inl (cy (ly k).1, (ly k).2, .inr (.inr (.inr (.inr (fun j => (gR M k j).map ad)))))
  else .inr ((ly k).1 - 5, flds ad M k ((ly k).1 - 5))
def wld (ad : Nat → Nat) (cy : Nat → ClassId) (M : Mem) : va_W := (List.range NC).map (fun k => (ad k, cE ad cy M k))
def tysL (cy : Nat → ClassId) : List (ClassId × FieldType) := [(cy 0, .int), (cy 1, .boolean), (cy 2, .long), (cy 3, .object RX3), (cy 4, .object RX6)]
def wr (x : Int) : Int := x.bmod 4294967296
theorem gI_sI (M : Mem) (k : Nat) (j v : Int) (a : Nat) (b : Int) : gI (sI M k j v) a b = if a = k ∧ b = j then v else gI M a b := rfl
theorem gL_sI (M : Mem) (k : Nat) (j v : Int) (a : Nat) (b : Int) : gL (sI M k j v) a b = gL M a b := rfl
theorem gR_sI (M : Mem) (k : Nat) (j v : Int) (a b : Nat) : gR (sI M k j v) a b = gR M a b := rfl
theorem gI_sL (M : Mem) (k : Nat) (j : Int) (v : Int64) (a : Nat) (b : Int) : gI (sL M k j v) a b = gI M a b := rfl
theorem gL_sL (M : Mem) (k : Nat) (j : Int) (v : Int64) (a : Nat) (b : Int) : gL (sL M k j v) a b = if a = k ∧ b = j then v else gL M a b := rfl
theorem gR_sL (M : Mem) (k : Nat) (j : Int) (v : Int64) (a b : Nat) : gR (sL M k j v) a b = gR M a b := rfl
theorem gI_sR (M : Mem) (k j v a : Nat) (b : Int) : gI (sR M k j v) a b = gI M a b := rfl
theorem gL_sR (M : Mem) (k j v a : Nat) (b : Int) : gL (sR M k j v) a b = gL M a b := rfl
theorem gR_sR (M : Mem) (k j v a b : Nat) : gR (sR M k j v) a b = if dynR a b = true ∧ a = k ∧ b = j then some v else gR M a b := by
  unfold gR
  by_cases h : dynR a b = true
  · rw [if_pos h, if_pos h]
    by_cases h2 : a = k ∧ b = j
    · rw [if_pos ⟨h, h2⟩]
      show some (if a = k ∧ b = j then v else M.2.2 a b) = _
      rw [if_pos h2]
    · rw [if_neg (fun q => h2 q.2)]
      show some (if a = k ∧ b = j then v else M.2.2 a b) = _
      rw [if_neg h2]
  · rw [if_neg h, if_neg h, if_neg (fun q => h q.1)]
theorem gI_cpI (M : Mem) (k0 : Nat) (sp : Int) (k1 : Nat) (dp n : Int) (a : Nat) (b : Int) : gI (cpI M k0 sp k1 dp n) a b = if a = k1 ∧ dp ≤ b ∧ b < dp + n then gI M k0 (sp + (b - dp)) else gI M a b := rfl
theorem gL_cpI (M : Mem) (k0 : Nat) (sp : Int) (k1 : Nat) (dp n : Int) (a : Nat) (b : Int) : gL (cpI M k0 sp k1 dp n) a b = gL M a b := rfl
theorem gR_cpI (M : Mem) (k0 : Nat) (sp : Int) (k1 : Nat) (dp n : Int) (a b : Nat) : gR (cpI M k0 sp k1 dp n) a b = gR M a b := rfl
theorem wr_id {x : Int} (h : -2147483648 ≤ x) (h2 : x ≤ 2147483647) : wr x = x := by
  unfold wr
  rw [Int.bmod_def]
  have : x % 4294967296 = if 0 ≤ x then x else x + 4294967296 := by
    split <;> omega
  omega
theorem wr_toInt (x : Int) : (Int32.ofInt x).toInt = wr x := Int32.toInt_ofInt
theorem wr_lo (x : Int) : -2147483648 ≤ wr x := by
  rw [← wr_toInt]; exact Int32.le_toInt _
theorem wr_hi (x : Int) : wr x ≤ 2147483647 := by
  rw [← wr_toInt]; have := Int32.toInt_lt (Int32.ofInt x); omega
theorem wr_wr (x : Int) : wr (wr x) = wr x := wr_id (wr_lo x) (wr_hi x)
theorem of_wr (x : Int) : Int32.ofInt (wr x) = Int32.ofInt x := by
  rw [← wr_toInt, Int32.ofInt_toInt]
theorem oI_inj {a b : Int} (h : wr a = wr b) : Int32.ofInt a = Int32.ofInt b := by
  rw [← of_wr a, h, of_wr]
theorem wld_at {ad : Nat → Nat} {cy : Nat → ClassId} {M : Mem} {k : Nat} (h : k < NC) : (wld ad cy M)[k]? = some (ad k, cE ad cy M k) := by
  unfold wld
  rw [List.getElem?_map, List.getElem?_range h]
  rfl
theorem wld_lt {ad : Nat → Nat} {cy : Nat → ClassId} {M : Mem} {k : Nat} {q : Nat × va_E} (h : (wld ad cy M)[k]? = some q) : k < NC ∧ q = (ad k, cE ad cy M k) := by
  have h1 : k < NC := by
    have := (List.getElem?_eq_some_iff.mp h).1
    simpa [wld] using this
  exact ⟨h1, (Option.some.inj ((wld_at h1).symm.trans h)).symm⟩
theorem wld_set {ad : Nat → Nat} {cy : Nat → ClassId} {M M' : Mem} {k : Nat} (hM : ∀ i, i ≠ k → cE ad cy M' i = cE ad cy M i) : (wld ad cy M).set k (ad k, cE ad cy M' k) = wld ad cy M' := by
  apply List.ext_getElem?
  intro i
  rw [List.getElem?_set]
  by_cases hi : k = i
  · subst hi
    rw [if_pos rfl]
    by_cases hk : k < NC
    · rw [if_pos (by simpa [wld] using hk), wld_at hk]
    · rw [if_neg (by simpa [wld] using hk)]
      unfold wld
      rw [List.getElem?_eq_none (by simpa using hk)]
  · rw [if_neg hi]
    by_cases hk : i < NC
    · rw [wld_at hk, wld_at hk, hM i (fun e => hi e.symm)]
    · unfold wld
      rw [List.getElem?_eq_none (by simpa using hk), List.getElem?_eq_none (by simpa using hk)]
theorem gI_sI_ne {M : Mem} {k i : Nat} {j v b : Int} (h : i ≠ k) : gI (sI M k j v) i b = gI M i b := if_neg (fun q => h q.1)
theorem gI_sI_nj {M : Mem} {k i : Nat} {j v b : Int} (h : b ≠ j) : gI (sI M k j v) i b = gI M i b := if_neg (fun q => h q.2)
theorem gI_sI_eq {M : Mem} {k : Nat} {j v : Int} : gI (sI M k j v) k j = v := if_pos ⟨rfl, rfl⟩
theorem gI_cpI_ne {M : Mem} {k0 k i : Nat} {sp dp n b : Int} (h : i ≠ k) : gI (cpI M k0 sp k dp n) i b = gI M i b := if_neg (fun q => h q.1)
theorem gL_sL_ne {M : Mem} {k i : Nat} {j b : Int} {v : Int64} (h : i ≠ k) : gL (sL M k j v) i b = gL M i b := if_neg (fun q => h q.1)
theorem gL_sL_eq {M : Mem} {k : Nat} {j : Int} {v : Int64} : gL (sL M k j v) k j = v := if_pos ⟨rfl, rfl⟩
theorem gR_sR_ne {M : Mem} {k i j v b : Nat} (h : i ≠ k) : gR (sR M k j v) i b = gR M i b := (gR_sR M k j v i b).trans (if_neg (fun q => h q.2.1))
theorem gR_sR_nj {M : Mem} {k i j v b : Nat} (h : b ≠ j) : gR (sR M k j v) i b = gR M i b := (gR_sR M k j v i b).trans (if_neg (fun q => h q.2.2))
theorem fv_sI {ad : Nat → Nat} {M : Mem} {k i : Nat} {j v : Int} (h : i ≠ k) (ci a : Nat) : fv ad (sI M k j v) i ci a = fv ad M i ci a := by
  unfold fv
  rw [gR_sI, gI_sI_ne h]
theorem cE_sI {ad : Nat → Nat} {cy : Nat → ClassId} {M : Mem} {k i : Nat} {j v : Int} (h : i ≠ k) : cE ad cy (sI M k j v) i = cE ad cy M i := by
  unfold cE flds
  have e1 : (fun a : Nat => Int32.ofInt (gI (sI M k j v) i (a : Int))) = (fun a : Nat => Int32.ofInt (gI M i (a : Int))) := by
    funext a; rw [gI_sI_ne h]
  have e2 : fv ad (sI M k j v) i ((ly i).1 - 5) = fv ad M i ((ly i).1 - 5) := by funext a; exact fv_sI h _ a
  rw [e1, e2]
  rfl
theorem cE_cpI {ad : Nat → Nat} {cy : Nat → ClassId} {M : Mem} {k0 k i : Nat} {sp dp n : Int} (h : i ≠ k) : cE ad cy (cpI M k0 sp k dp n) i = cE ad cy M i := by
  unfold cE flds
  have e1 : (fun a : Nat => Int32.ofInt (gI (cpI M k0 sp k dp n) i (a : Int))) = (fun a : Nat => Int32.ofInt (gI M i (a : Int))) := by
    funext a; rw [gI_cpI_ne h]
  have e2 : fv ad (cpI M k0 sp k dp n) i ((ly i).1 - 5) = fv ad M i ((ly i).1 - 5) := by
    funext a; unfold fv; rw [gR_cpI, gI_cpI_ne h]
  rw [e1, e2]
  rfl
theorem cE_sL {ad : Nat → Nat} {cy : Nat → ClassId} {M : Mem} {k i : Nat} {j : Int} {v : Int64} (h : i ≠ k) : cE ad cy (sL M k j v) i = cE ad cy M i := by
  unfold cE flds
  have e1 : (fun a : Nat => gL (sL M k j v) i (a : Int)) = (fun a : Nat => gL M i (a : Int)) := by
    funext a; rw [gL_sL, if_neg (fun q => h q.1)]
  rw [e1]
  rfl
theorem cE_sR {ad : Nat → Nat} {cy : Nat → ClassId} {M : Mem} {k i j v : Nat} (h : i ≠ k) : cE ad cy (sR M k j v) i = cE ad cy M i := by
  unfold cE flds
  have e1 : (fun a : Nat => (gR (sR M k j v) i a).map ad) = (fun a : Nat => (gR M i a).map ad) := by
    funext a; rw [gR_sR_ne h]
  have e2 : fv ad (sR M k j v) i ((ly i).1 - 5) = fv ad M i ((ly i).1 - 5) := by
    funext a; unfold fv; rw [gR_sR_ne h]; rfl
  rw [e1, e2]
  rfl
theorem cE_int {ad : Nat → Nat} {cy : Nat → ClassId} {M : Mem} {k t n : Nat} (h : ly k = (t, n)) (ht : t < 2) : cE ad cy M k = .inl (cy t, n, .inl (fun j => Int32.ofInt (gI M k (j : Int)))) := by
  unfold cE; rw [h]; exact if_pos ht
theorem cE_long {ad : Nat → Nat} {cy : Nat → ClassId} {M : Mem} {k n : Nat} (h : ly k = (2, n)) : cE ad cy M k = .inl (cy 2, n, .inr (.inl (fun j => gL M k (j : Int)))) := by
  unfold cE; rw [h]; rfl
theorem cE_ref {ad : Nat → Nat} {cy : Nat → ClassId} {M : Mem} {k t n : Nat} (h : ly k = (t, n)) (h1 : 2 < t) (h2 : t < 5) : cE ad cy M k = .inl (cy t, n, .inr (.inr (.inr (.inr (fun j => (gR M k j).map ad))))) := by
  unfold cE; rw [h]
  show (if t < 2 then _ else if t = 2 then _ else if t < 5 then _ else _) = _
  rw [if_neg (by omega), if_neg (by omega), if_pos h2]
theorem cE_obj {ad : Nat → Nat} {cy : Nat → ClassId} {M : Mem} {k ci n : Nat} (h : ly k = (ci + 5, n)) : cE ad cy M k = .inr (ci, flds ad M k ci) := by
  unfold cE; rw [h]
  show (if ci + 5 < 2 then _ else if ci + 5 = 2 then _ else if ci + 5 < 5 then _ else _) = _
  rw [if_neg (by omega), if_neg (by omega), if_neg (by omega)]
  rfl
theorem ly_lt {k t n : Nat} (h : ly k = (t, n)) (ht : t < 99) : k < NC := by
  by_cases hk : k < NC
  · exact hk
  · have : ly k = (99, 0) := by
      unfold ly
      rw [List.getD_eq_getElem?_getD, List.getElem?_eq_none (by exact Nat.not_lt.mp hk)]
      rfl
    rw [h] at this
    cases this
    omega
theorem flds_at {ad : Nat → Nat} {M : Mem} {k ci j : Nat} (h : j < nfq ci) : (flds ad M k ci)[j]? = some (fv ad M k ci j) := by
  unfold flds
  rw [List.getElem?_map, List.getElem?_range h]
  rfl
theorem flds_len {ad : Nat → Nat} {M : Mem} {k ci : Nat} : (flds ad M k ci).length = nfq ci := by
  simp [flds]
theorem flds_sI {ad : Nat → Nat} {M : Mem} {k ci j : Nat} {v : Int} (h : irq ci j = false) : (flds ad M k ci).set j (.int (Int32.ofInt v)) = flds ad (sI M k (j : Int) v) k ci := by
  apply List.ext_getElem?
  intro i
  rw [List.getElem?_set]
  by_cases hi : j = i
  · subst hi
    rw [if_pos rfl]
    by_cases hk : j < nfq ci
    · rw [if_pos (by rw [flds_len]; exact hk), flds_at hk]
      unfold fv
      rw [if_neg (by rw [h]; decide), gI_sI_eq]
    · rw [if_neg (by rw [flds_len]; exact hk), List.getElem?_eq_none (by rw [flds_len]; omega)]
  · rw [if_neg hi]
    by_cases hk : i < nfq ci
    · rw [flds_at hk, flds_at hk]
      unfold fv
      rw [gR_sI, gI_sI_nj (by omega)]
    · rw [List.getElem?_eq_none (by rw [flds_len]; omega), List.getElem?_eq_none (by rw [flds_len]; omega)]
theorem flds_sR {ad : Nat → Nat} {M : Mem} {k ci j v : Nat} (h : irq ci j = true) (hd : dynR k j = true) : (flds ad M k ci).set j (.ref (ad v)) = flds ad (sR M k j v) k ci := by
  apply List.ext_getElem?
  intro i
  rw [List.getElem?_set]
  by_cases hi : j = i
  · subst hi
    rw [if_pos rfl]
    by_cases hk : j < nfq ci
    · rw [if_pos (by rw [flds_len]; exact hk), flds_at hk]
      unfold fv
      rw [if_pos h, gR_sR, if_pos ⟨hd, rfl, rfl⟩]
      rfl
    · rw [if_neg (by rw [flds_len]; exact hk), List.getElem?_eq_none (by rw [flds_len]; omega)]
  · rw [if_neg hi]
    by_cases hk : i < nfq ci
    · rw [flds_at hk, flds_at hk]
      unfold fv
      rw [gR_sR_nj (fun q => hi q.symm)]
      rfl
    · rw [List.getElem?_eq_none (by rw [flds_len]; omega), List.getElem?_eq_none (by rw [flds_len]; omega)]
end
section
/-! the light machine: Ex and a row an instruction -/
abbrev Gx : Type := (Program × Launch × Env × Room) × (State × MethodId × Array Value × List Frame × Method × Code) × (Nat × Nat) × (State → Prop) × va_G × (Nat → ClassId) × (Nat → Nat) × (Nat → Prop)
def Fx (G : Gx) (n : Nat) (cc : ByteArray) (own : String) (nL : Nat) : Prop := match G with
  | ((p, _, _, R), (s, m, args, _, _, c), (cells, slots), _, D, cy, ad, A) =>
    p.tables.exec = Jvm.exec ∧ c.code = cc ∧ c.maxLocals = nL ∧ s.vm.findClass own = some m.cls ∧ (∀ w ∈ lw_tbl, w.before args s = true) ∧ va_K D vwCl (tysL cy) s ∧ (n ≤ R.frames ∧ 40 * n ≤ R.locals ∧ cells ≤ R.cells ∧ slots ≤ R.slots) ∧ (∀ k, k < NC → A (ad k)) ∧ (∀ i j, i < NC → j < NC → ad i = ad j → i = j)
def Ex (G : Gx) (n : Nat) (cc : ByteArray) (own : String) (nL : Nat) (pc : Nat) (lv : List (Nat × Mv)) (st : List Mv) (M : Mem) : Prop := match G with
  | ((p, l, e, R), (s, m, args, below, meth, c), (cells, slots), Q, D, cy, ad, A) =>
    Fx ((p, l, e, R), (s, m, args, below, meth, c), (cells, slots), Q, D, cy, ad, A) n cc own nL → ∀ (H : Heap) (locs : List Loc) (ls : Array Slot), va_P D vwCl (wld ad cy M) H → va_S A s.heap H locs → lv_has ls nL (lv.map fun q => (q.1, cv ad q.2)) → W p l e R s m args below meth c H locs cells slots Q (F0 m pc ls (st.map (cv ad)))
theorem wld_D {ad : Nat → Nat} {cy : Nat → ClassId} {M : Mem} {A : Nat → Prop} (hA : ∀ k, k < NC → A (ad k)) (hi : ∀ i j, i < NC → j < NC → ad i = ad j → i = j) : va_D A (wld ad cy M) := by
  refine ⟨fun i j p q hp hq h => ?_, fun k q hq => ?_⟩
  · obtain ⟨h1, rfl⟩ := wld_lt hp
    obtain ⟨h2, rfl⟩ := wld_lt hq
    exact hi i j h1 h2 h
  · obtain ⟨h1, rfl⟩ := wld_lt hq
    exact hA k h1
theorem lvm {lv : List (Nat × Mv)} {ad : Nat → Nat} {pos i : Nat} {v : Mv} (h : lv[pos]? = some (i, v)) : (lv.map fun q => (q.1, cv ad q.2))[pos]? = some (i, cv ad v) := by
  rw [List.getElem?_map, h]; rfl
def isL (v : Mv) : Bool := match v with
  | .inr (.inl _) => true
  | _ => false
theorem cv_cat (ad : Nat → Nat) (v : Mv) : (cv ad v).category = if isL v = true then 2 else 1 := by
  rcases v with a | x | r
  · rfl
  · rfl
  · cases r <;> rfl
theorem cv_cat2 (ad : Nat → Nat) (v : Mv) : ((cv ad v).category == 2) = isL v := by
  rw [cv_cat]; cases isL v <;> rfl
def kp1 (i : Nat) (q : Nat × Mv) : Bool := !(q.1 == i) && !(q.1 + 1 == i && isL q.2)
def kp2 (i : Nat) (q : Nat × Mv) : Bool := !(q.1 == i) && (!(q.1 == i + 1) && !(q.1 + 1 == i && isL q.2))
theorem kp1_map {lv : List (Nat × Mv)} {ad : Nat → Nat} {i : Nat} : (lv.map fun q => (q.1, cv ad q.2)).filter (fun q => !(q.1 == i) && !(q.1 + 1 == i && q.2.category == 2)) = (lv.filter (kp1 i)).map fun q => (q.1, cv ad q.2) := by
  rw [List.filter_map]
  congr 1
  congr 1
  funext q
  show (!(q.1 == i) && !(q.1 + 1 == i && (cv ad q.2).category == 2)) = _
  rw [cv_cat2]; rfl
theorem kp2_map {lv : List (Nat × Mv)} {ad : Nat → Nat} {i : Nat} : (lv.map fun q => (q.1, cv ad q.2)).filter (fun q => !(q.1 == i) && (!(q.1 == i + 1) && !(q.1 + 1 == i && q.2.category == 2))) = (lv.filter (kp2 i)).map fun q => (q.1, cv ad q.2) := by
  rw [List.filter_map]
  congr 1
  congr 1
  funext q
  show (!(q.1 == i) && (!(q.1 == i + 1) && !(q.1 + 1 == i && (cv ad q.2).category == 2))) = _
  rw [cv_cat2]; rfl
/-! numbers -/
def shl (a b : Int) : Int := (Int32.ofInt a <<< (Int32.ofInt b &&& 31)).toInt
def sar (a b : Int) : Int := (Int32.ofInt a >>> (Int32.ofInt b &&& 31)).toInt
def iand (a b : Int) : Int := (Int32.ofInt a &&& Int32.ofInt b).toInt
def ior (a b : Int) : Int := (Int32.ofInt a ||| Int32.ofInt b).toInt
def ixor (a b : Int) : Int := (Int32.ofInt a ^^^ Int32.ofInt b).toInt
def idv (a b : Int) : Int := Int.tdiv (wr a) (wr b)
def irm (a b : Int) : Int := Int.tmod (wr a) (wr b)
def i2b (a : Int) : Int := (Int32.ofInt a).toInt8.toInt32.toInt
def i2l (a : Int) : Int64 := (Int32.ofInt a).toInt64
def l2i (a : Int64) : Int := a.toInt32.toInt
def iab (a : Int) : Int := if 0 ≤ wr a then wr a else - wr a
def lshl (x : Int64) (b : Int) : Int64 := x <<< ((Int32.ofInt b).toInt64 &&& 63)
def lshr (x : Int64) (b : Int) : Int64 := x >>> ((Int32.ofInt b).toInt64 &&& 63)
def lushr (x : Int64) (b : Int) : Int64 := (x.toUInt64 >>> ((Int32.ofInt b).toInt64.toUInt64 &&& Int64.toUInt64 63)).toInt64
def lmn (x y : Int64) : Int64 := if y < x then y else x
theorem oI_div (a b : Int) : Int32.ofInt a / Int32.ofInt b = Int32.ofInt (idv a b) := by
  apply Int32.toInt_inj.mp
  rw [Int32.toInt_div, wr_toInt, wr_toInt, wr_toInt]
  rfl
theorem oI_rem (a b : Int) : Int32.ofInt a - Int32.ofInt a / Int32.ofInt b * Int32.ofInt b = Int32.ofInt (irm a b) := by
  rw [oI_div]
  unfold irm idv
  rw [Int.tmod_def, Int.mul_comm (wr b), Int32.ofInt_sub, Int32.ofInt_mul, of_wr, of_wr]
theorem oI_le (a b : Int) : Int32.ofInt a ≤ Int32.ofInt b ↔ wr a ≤ wr b := by
  rw [Int32.le_iff_toInt_le, wr_toInt, wr_toInt]
theorem oI_lt (a b : Int) : Int32.ofInt a < Int32.ofInt b ↔ wr a < wr b := by
  rw [Int32.lt_iff_toInt_lt, wr_toInt, wr_toInt]
theorem oI_eq (a b : Int) : Int32.ofInt a = Int32.ofInt b ↔ wr a = wr b := by
  rw [← Int32.toInt_inj, wr_toInt, wr_toInt]
theorem wr_0 : wr 0 = 0 := rfl
theorem oI_0 : Int32.ofInt 0 = 0 := rfl
theorem oI_lt0 (a : Int) : Int32.ofInt a < 0 ↔ wr a < 0 := oI_lt a 0
theorem oI_le0 (a : Int) : Int32.ofInt a ≤ 0 ↔ wr a ≤ 0 := oI_le a 0
theorem oI_gt0 (a : Int) : 0 < Int32.ofInt a ↔ 0 < wr a := oI_lt 0 a
theorem oI_ge0 (a : Int) : 0 ≤ Int32.ofInt a ↔ 0 ≤ wr a := oI_le 0 a
theorem oI_eq0 (a : Int) : Int32.ofInt a = 0 ↔ wr a = 0 := oI_eq a 0
theorem oI_cl {a : Int} (h : 0 ≤ wr a) : (((Int32.ofInt a).toNatClampNeg : Nat) : Int) = wr a := by
  show (((Int32.ofInt a).toInt.toNat : Nat) : Int) = wr a
  rw [wr_toInt]; omega
theorem oI_in {a : Int} {n : Nat} (h : 0 ≤ wr a ∧ wr a < (n : Int)) : vp_in (Int32.ofInt a) n := by
  rw [vp_in_iff, wr_toInt]; exact h
theorem oI_abs (a : Int) : (if 0 ≤ Int32.ofInt a then Int32.ofInt a else 0 - Int32.ofInt a) = Int32.ofInt (iab a) := by
  unfold iab
  by_cases h : 0 ≤ wr a
  · rw [if_pos h, if_pos ((oI_ge0 a).mpr h), of_wr]
  · rw [if_neg h, if_neg (fun q => h ((oI_ge0 a).mp q)), Int32.ofInt_neg, of_wr, Int32.zero_sub]

theorem r_iadd {G : Gx} {n : Nat} {cc : ByteArray} {own : String} {nL pc : Nat} {lv : List (Nat × Mv)} {st : List Mv} {M : Mem} {a b : Int} (hd : decode cc pc = .ok (.iadd, 1)) (k : Ex G n cc own nL (pc + 1) lv (vI (a + b) :: st) M) : Ex G n cc own nL pc lv (vI b :: vI a :: st) M := by
  obtain ⟨⟨p, l, e, R⟩, ⟨s, m, args, below, meth, c⟩, ⟨cells, slots⟩, Q, D, cy, ad, A⟩ := G
  intro hF H locs ls hP hS hl
  have hx := hF.1
  have hb := hF.2.1
  refine lv_iadd hx hb hd ?_
  rw [← Int32.ofInt_add]
  exact k hF H locs ls hP hS hl

theorem r_isub {G : Gx} {n : Nat} {cc : ByteArray} {own : String} {nL pc : Nat} {lv : List (Nat × Mv)} {st : List Mv} {M : Mem} {a b : Int} (hd : decode cc pc = .ok (.isub, 1)) (k : Ex G n cc own nL (pc + 1) lv (vI (a - b) :: st) M) : Ex G n cc own nL pc lv (vI b :: vI a :: st) M := by
  obtain ⟨⟨p, l, e, R⟩, ⟨s, m, args, below, meth, c⟩, ⟨cells, slots⟩, Q, D, cy, ad, A⟩ := G
  intro hF H locs ls hP hS hl
  have hx := hF.1
  have hb := hF.2.1
  refine lv_isub hx hb hd ?_
  rw [← Int32.ofInt_sub]
  exact k hF H locs ls hP hS hl

theorem r_imul {G : Gx} {n : Nat} {cc : ByteArray} {own : String} {nL pc : Nat} {lv : List (Nat × Mv)} {st : List Mv} {M : Mem} {a b : Int} (hd : decode cc pc = .ok (.imul, 1)) (k : Ex G n cc own nL (pc + 1) lv (vI (a * b) :: st) M) : Ex G n cc own nL pc lv (vI b :: vI a :: st) M := by
  obtain ⟨⟨p, l, e, R⟩, ⟨s, m, args, below, meth, c⟩, ⟨cells, slots⟩, Q, D, cy, ad, A⟩ := G
  intro hF H locs ls hP hS hl
  have hx := hF.1
  have hb := hF.2.1
  refine lv_imul hx hb hd ?_
  rw [← Int32.ofInt_mul]
  exact k hF H locs ls hP hS hl

theorem r_ishl {G : Gx} {n : Nat} {cc : ByteArray} {own : String} {nL pc : Nat} {lv : List (Nat × Mv)} {st : List Mv} {M : Mem} {a b : Int} (hd : decode cc pc = .ok (.ishl, 1)) (k : Ex G n cc own nL (pc + 1) lv (vI (shl a b) :: st) M) : Ex G n cc own nL pc lv (vI b :: vI a :: st) M := by
  obtain ⟨⟨p, l, e, R⟩, ⟨s, m, args, below, meth, c⟩, ⟨cells, slots⟩, Q, D, cy, ad, A⟩ := G
  intro hF H locs ls hP hS hl
  have hx := hF.1
  have hb := hF.2.1
  refine lv_ishl hx hb hd ?_
  have h9 := k hF H locs ls hP hS hl
  unfold shl at h9
  simp only [List.map_cons, cv, Int32.ofInt_toInt] at h9
  exact h9

theorem r_ishr {G : Gx} {n : Nat} {cc : ByteArray} {own : String} {nL pc : Nat} {lv : List (Nat × Mv)} {st : List Mv} {M : Mem} {a b : Int} (hd : decode cc pc = .ok (.ishr, 1)) (k : Ex G n cc own nL (pc + 1) lv (vI (sar a b) :: st) M) : Ex G n cc own nL pc lv (vI b :: vI a :: st) M := by
  obtain ⟨⟨p, l, e, R⟩, ⟨s, m, args, below, meth, c⟩, ⟨cells, slots⟩, Q, D, cy, ad, A⟩ := G
  intro hF H locs ls hP hS hl
  have hx := hF.1
  have hb := hF.2.1
  refine lv_ishr hx hb hd ?_
  have h9 := k hF H locs ls hP hS hl
  unfold sar at h9
  simp only [List.map_cons, cv, Int32.ofInt_toInt] at h9
  exact h9

theorem r_iand {G : Gx} {n : Nat} {cc : ByteArray} {own : String} {nL pc : Nat} {lv : List (Nat × Mv)} {st : List Mv} {M : Mem} {a b : Int} (hd : decode cc pc = .ok (.iand, 1)) (k : Ex G n cc own nL (pc + 1) lv (vI (iand a b) :: st) M) : Ex G n cc own nL pc lv (vI b :: vI a :: st) M := by
  obtain ⟨⟨p, l, e, R⟩, ⟨s, m, args, below, meth, c⟩, ⟨cells, slots⟩, Q, D, cy, ad, A⟩ := G
  intro hF H locs ls hP hS hl
  have hx := hF.1
  have hb := hF.2.1
  refine lv_iand hx hb hd ?_
  have h9 := k hF H locs ls hP hS hl
  unfold iand at h9
  simp only [List.map_cons, cv, Int32.ofInt_toInt] at h9
  exact h9

theorem r_ior {G : Gx} {n : Nat} {cc : ByteArray} {own : String} {nL pc : Nat} {lv : List (Nat × Mv)} {st : List Mv} {M : Mem} {a b : Int} (hd : decode cc pc = .ok (.ior, 1)) (k : Ex G n cc own nL (pc + 1) lv (vI (ior a b) :: st) M) : Ex G n cc own nL pc lv (vI b :: vI a :: st) M := by
  obtain ⟨⟨p, l, e, R⟩, ⟨s, m, args, below, meth, c⟩, ⟨cells, slots⟩, Q, D, cy, ad, A⟩ := G
  intro hF H locs ls hP hS hl
  have hx := hF.1
  have hb := hF.2.1
  refine lv_ior hx hb hd ?_
  have h9 := k hF H locs ls hP hS hl
  unfold ior at h9
  simp only [List.map_cons, cv, Int32.ofInt_toInt] at h9
  exact h9

theorem r_ixor {G : Gx} {n : Nat} {cc : ByteArray} {own : String} {nL pc : Nat} {lv : List (Nat × Mv)} {st : List Mv} {M : Mem} {a b : Int} (hd : decode cc pc = .ok (.ixor, 1)) (k : Ex G n cc own nL (pc + 1) lv (vI (ixor a b) :: st) M) : Ex G n cc own nL pc lv (vI b :: vI a :: st) M := by
  obtain ⟨⟨p, l, e, R⟩, ⟨s, m, args, below, meth, c⟩, ⟨cells, slots⟩, Q, D, cy, ad, A⟩ := G
  intro hF H locs ls hP hS hl
  have hx := hF.1
  have hb := hF.2.1
  refine lv_ixor hx hb hd ?_
  have h9 := k hF H locs ls hP hS hl
  unfold ixor at h9
  simp only [List.map_cons, cv, Int32.ofInt_toInt] at h9
  exact h9

theorem r_ineg {G : Gx} {n : Nat} {cc : ByteArray} {own : String} {nL pc : Nat} {lv : List (Nat × Mv)} {st : List Mv} {M : Mem} {a : Int} (hd : decode cc pc = .ok (.ineg, 1)) (k : Ex G n cc own nL (pc + 1) lv (vI (-a) :: st) M) : Ex G n cc own nL pc lv (vI a :: st) M := by
  obtain ⟨⟨p, l, e, R⟩, ⟨s, m, args, below, meth, c⟩, ⟨cells, slots⟩, Q, D, cy, ad, A⟩ := G
  intro hF H locs ls hP hS hl
  have hx := hF.1
  have hb := hF.2.1
  refine lv_ineg hx hb hd ?_
  rw [← Int32.ofInt_neg]
  exact k hF H locs ls hP hS hl

theorem r_idiv {G : Gx} {n : Nat} {cc : ByteArray} {own : String} {nL pc : Nat} {lv : List (Nat × Mv)} {st : List Mv} {M : Mem} {a b : Int} (hd : decode cc pc = .ok (.idiv, 1)) (h0 : ¬ wr b = 0) (k : Ex G n cc own nL (pc + 1) lv (vI (idv a b) :: st) M) : Ex G n cc own nL pc lv (vI b :: vI a :: st) M := by
  obtain ⟨⟨p, l, e, R⟩, ⟨s, m, args, below, meth, c⟩, ⟨cells, slots⟩, Q, D, cy, ad, A⟩ := G
  intro hF H locs ls hP hS hl
  have hx := hF.1
  have hb := hF.2.1
  refine lv_idiv hx hb hd (fun q => h0 ((oI_eq0 b).mp q)) ?_
  rw [oI_div]
  exact k hF H locs ls hP hS hl

theorem r_irem {G : Gx} {n : Nat} {cc : ByteArray} {own : String} {nL pc : Nat} {lv : List (Nat × Mv)} {st : List Mv} {M : Mem} {a b : Int} (hd : decode cc pc = .ok (.irem, 1)) (h0 : ¬ wr b = 0) (k : Ex G n cc own nL (pc + 1) lv (vI (irm a b) :: st) M) : Ex G n cc own nL pc lv (vI b :: vI a :: st) M := by
  obtain ⟨⟨p, l, e, R⟩, ⟨s, m, args, below, meth, c⟩, ⟨cells, slots⟩, Q, D, cy, ad, A⟩ := G
  intro hF H locs ls hP hS hl
  have hx := hF.1
  have hb := hF.2.1
  refine lv_irem hx hb hd (fun q => h0 ((oI_eq0 b).mp q)) ?_
  rw [oI_rem]
  exact k hF H locs ls hP hS hl

theorem r_ladd {G : Gx} {n : Nat} {cc : ByteArray} {own : String} {nL pc : Nat} {lv : List (Nat × Mv)} {st : List Mv} {M : Mem} {a b : Int64} (hd : decode cc pc = .ok (.ladd, 1)) (k : Ex G n cc own nL (pc + 1) lv (vL (a + b) :: st) M) : Ex G n cc own nL pc lv (vL b :: vL a :: st) M := by
  obtain ⟨⟨p, l, e, R⟩, ⟨s, m, args, below, meth, c⟩, ⟨cells, slots⟩, Q, D, cy, ad, A⟩ := G
  intro hF H locs ls hP hS hl
  have hx := hF.1
  have hb := hF.2.1
  refine lv_ladd hx hb hd ?_
  exact k hF H locs ls hP hS hl

theorem r_lsub {G : Gx} {n : Nat} {cc : ByteArray} {own : String} {nL pc : Nat} {lv : List (Nat × Mv)} {st : List Mv} {M : Mem} {a b : Int64} (hd : decode cc pc = .ok (.lsub, 1)) (k : Ex G n cc own nL (pc + 1) lv (vL (a - b) :: st) M) : Ex G n cc own nL pc lv (vL b :: vL a :: st) M := by
  obtain ⟨⟨p, l, e, R⟩, ⟨s, m, args, below, meth, c⟩, ⟨cells, slots⟩, Q, D, cy, ad, A⟩ := G
  intro hF H locs ls hP hS hl
  have hx := hF.1
  have hb := hF.2.1
  refine lv_lsub hx hb hd ?_
  exact k hF H locs ls hP hS hl

theorem r_lmul {G : Gx} {n : Nat} {cc : ByteArray} {own : String} {nL pc : Nat} {lv : List (Nat × Mv)} {st : List Mv} {M : Mem} {a b : Int64} (hd : decode cc pc = .ok (.lmul, 1)) (k : Ex G n cc own nL (pc + 1) lv (vL (a * b) :: st) M) : Ex G n cc own nL pc lv (vL b :: vL a :: st) M := by
  obtain ⟨⟨p, l, e, R⟩, ⟨s, m, args, below, meth, c⟩, ⟨cells, slots⟩, Q, D, cy, ad, A⟩ := G
  intro hF H locs ls hP hS hl
  have hx := hF.1
  have hb := hF.2.1
  refine lv_lmul hx hb hd ?_
  exact k hF H locs ls hP hS hl

theorem r_land {G : Gx} {n : Nat} {cc : ByteArray} {own : String} {nL pc : Nat} {lv : List (Nat × Mv)} {st : List Mv} {M : Mem} {a b : Int64} (hd : decode cc pc = .ok (.land, 1)) (k : Ex G n cc own nL (pc + 1) lv (vL (a &&& b) :: st) M) : Ex G n cc own nL pc lv (vL b :: vL a :: st) M := by
  obtain ⟨⟨p, l, e, R⟩, ⟨s, m, args, below, meth, c⟩, ⟨cells, slots⟩, Q, D, cy, ad, A⟩ := G
  intro hF H locs ls hP hS hl
  have hx := hF.1
  have hb := hF.2.1
  refine lv_land hx hb hd ?_
  exact k hF H locs ls hP hS hl

theorem r_lor {G : Gx} {n : Nat} {cc : ByteArray} {own : String} {nL pc : Nat} {lv : List (Nat × Mv)} {st : List Mv} {M : Mem} {a b : Int64} (hd : decode cc pc = .ok (.lor, 1)) (k : Ex G n cc own nL (pc + 1) lv (vL (a ||| b) :: st) M) : Ex G n cc own nL pc lv (vL b :: vL a :: st) M := by
  obtain ⟨⟨p, l, e, R⟩, ⟨s, m, args, below, meth, c⟩, ⟨cells, slots⟩, Q, D, cy, ad, A⟩ := G
  intro hF H locs ls hP hS hl
  have hx := hF.1
  have hb := hF.2.1
  refine lv_lor hx hb hd ?_
  exact k hF H locs ls hP hS hl

theorem r_lshl {G : Gx} {n : Nat} {cc : ByteArray} {own : String} {nL pc : Nat} {lv : List (Nat × Mv)} {st : List Mv} {M : Mem} {a : Int64} {b : Int} (hd : decode cc pc = .ok (.lshl, 1)) (k : Ex G n cc own nL (pc + 1) lv (vL (lshl a b) :: st) M) : Ex G n cc own nL pc lv (vI b :: vL a :: st) M := by
  obtain ⟨⟨p, l, e, R⟩, ⟨s, m, args, below, meth, c⟩, ⟨cells, slots⟩, Q, D, cy, ad, A⟩ := G
  intro hF H locs ls hP hS hl
  have hx := hF.1
  have hb := hF.2.1
  exact lv_lshl hx hb hd rfl (k hF H locs ls hP hS hl)

theorem r_lshr {G : Gx} {n : Nat} {cc : ByteArray} {own : String} {nL pc : Nat} {lv : List (Nat × Mv)} {st : List Mv} {M : Mem} {a : Int64} {b : Int} (hd : decode cc pc = .ok (.lshr, 1)) (k : Ex G n cc own nL (pc + 1) lv (vL (lshr a b) :: st) M) : Ex G n cc own nL pc lv (vI b :: vL a :: st) M := by
  obtain ⟨⟨p, l, e, R⟩, ⟨s, m, args, below, meth, c⟩, ⟨cells, slots⟩, Q, D, cy, ad, A⟩ := G
  intro hF H locs ls hP hS hl
  have hx := hF.1
  have hb := hF.2.1
  exact lv_lshr hx hb hd rfl (k hF H locs ls hP hS hl)

theorem r_lushr {G : Gx} {n : Nat} {cc : ByteArray} {own : String} {nL pc : Nat} {lv : List (Nat × Mv)} {st : List Mv} {M : Mem} {a : Int64} {b : Int} (hd : decode cc pc = .ok (.lushr, 1)) (k : Ex G n cc own nL (pc + 1) lv (vL (lushr a b) :: st) M) : Ex G n cc own nL pc lv (vI b :: vL a :: st) M := by
  obtain ⟨⟨p, l, e, R⟩, ⟨s, m, args, below, meth, c⟩, ⟨cells, slots⟩, Q, D, cy, ad, A⟩ := G
  intro hF H locs ls hP hS hl
  have hx := hF.1
  have hb := hF.2.1
  exact lv_lushr hx hb hd rfl (k hF H locs ls hP hS hl)

theorem r_i2l {G : Gx} {n : Nat} {cc : ByteArray} {own : String} {nL pc : Nat} {lv : List (Nat × Mv)} {st : List Mv} {M : Mem} {a : Int} (hd : decode cc pc = .ok (.i2l, 1)) (k : Ex G n cc own nL (pc + 1) lv (vL (i2l a) :: st) M) : Ex G n cc own nL pc lv (vI a :: st) M := by
  obtain ⟨⟨p, l, e, R⟩, ⟨s, m, args, below, meth, c⟩, ⟨cells, slots⟩, Q, D, cy, ad, A⟩ := G
  intro hF H locs ls hP hS hl
  have hx := hF.1
  have hb := hF.2.1
  exact lv_i2l hx hb hd rfl (k hF H locs ls hP hS hl)

theorem r_l2i {G : Gx} {n : Nat} {cc : ByteArray} {own : String} {nL pc : Nat} {lv : List (Nat × Mv)} {st : List Mv} {M : Mem} {a : Int64} (hd : decode cc pc = .ok (.l2i, 1)) (k : Ex G n cc own nL (pc + 1) lv (vI (l2i a) :: st) M) : Ex G n cc own nL pc lv (vL a :: st) M := by
  obtain ⟨⟨p, l, e, R⟩, ⟨s, m, args, below, meth, c⟩, ⟨cells, slots⟩, Q, D, cy, ad, A⟩ := G
  intro hF H locs ls hP hS hl
  have hx := hF.1
  have hb := hF.2.1
  refine lv_l2i hx hb hd rfl ?_
  have h9 := k hF H locs ls hP hS hl
  unfold l2i at h9
  simp only [List.map_cons, cv, Int32.ofInt_toInt] at h9
  exact h9

theorem r_i2b {G : Gx} {n : Nat} {cc : ByteArray} {own : String} {nL pc : Nat} {lv : List (Nat × Mv)} {st : List Mv} {M : Mem} {a : Int} (hd : decode cc pc = .ok (.i2b, 1)) (k : Ex G n cc own nL (pc + 1) lv (vI (i2b a) :: st) M) : Ex G n cc own nL pc lv (vI a :: st) M := by
  obtain ⟨⟨p, l, e, R⟩, ⟨s, m, args, below, meth, c⟩, ⟨cells, slots⟩, Q, D, cy, ad, A⟩ := G
  intro hF H locs ls hP hS hl
  have hx := hF.1
  have hb := hF.2.1
  refine lv_i2b hx hb hd rfl ?_
  have h9 := k hF H locs ls hP hS hl
  unfold i2b at h9
  simp only [List.map_cons, cv, Int32.ofInt_toInt] at h9
  exact h9

theorem r_iconst {G : Gx} {n : Nat} {cc : ByteArray} {own : String} {nL pc : Nat} {lv : List (Nat × Mv)} {st : List Mv} {M : Mem} {v : Int} (hd : decode cc pc = .ok (.iconst v, 1)) (k : Ex G n cc own nL (pc + 1) lv (vI v :: st) M) : Ex G n cc own nL pc lv st M := by
  obtain ⟨⟨p, l, e, R⟩, ⟨s, m, args, below, meth, c⟩, ⟨cells, slots⟩, Q, D, cy, ad, A⟩ := G
  intro hF H locs ls hP hS hl
  have hx := hF.1
  have hb := hF.2.1
  exact lv_iconst hx hb hd rfl (k hF H locs ls hP hS hl)

theorem r_bipush {G : Gx} {n : Nat} {cc : ByteArray} {own : String} {nL pc : Nat} {lv : List (Nat × Mv)} {st : List Mv} {M : Mem} {v : Int} (hd : decode cc pc = .ok (.bipush v, 2)) (hv : (Int8.ofInt v).toInt32 = Int32.ofInt v) (k : Ex G n cc own nL (pc + 2) lv (vI v :: st) M) : Ex G n cc own nL pc lv st M := by
  obtain ⟨⟨p, l, e, R⟩, ⟨s, m, args, below, meth, c⟩, ⟨cells, slots⟩, Q, D, cy, ad, A⟩ := G
  intro hF H locs ls hP hS hl
  have hx := hF.1
  have hb := hF.2.1
  exact lv_bipush hx hb hd hv (k hF H locs ls hP hS hl)

theorem r_sipush {G : Gx} {n : Nat} {cc : ByteArray} {own : String} {nL pc : Nat} {lv : List (Nat × Mv)} {st : List Mv} {M : Mem} {v : Int} (hd : decode cc pc = .ok (.sipush v, 3)) (hv : (Int16.ofInt v).toInt32 = Int32.ofInt v) (k : Ex G n cc own nL (pc + 3) lv (vI v :: st) M) : Ex G n cc own nL pc lv st M := by
  obtain ⟨⟨p, l, e, R⟩, ⟨s, m, args, below, meth, c⟩, ⟨cells, slots⟩, Q, D, cy, ad, A⟩ := G
  intro hF H locs ls hP hS hl
  have hx := hF.1
  have hb := hF.2.1
  exact lv_sipush hx hb hd hv (k hF H locs ls hP hS hl)

theorem r_ldc {G : Gx} {n : Nat} {cc : ByteArray} {own : String} {nL pc : Nat} {lv : List (Nat × Mv)} {st : List Mv} {M : Mem} {v : Int} {i : Nat} (hd : decode cc pc = .ok (.ldc i, 2)) (hv : Cond.constant own i (Int32.ofInt v) ∈ lw_tbl) (k : Ex G n cc own nL (pc + 2) lv (vI v :: st) M) : Ex G n cc own nL pc lv st M := by
  obtain ⟨⟨p, l, e, R⟩, ⟨s, m, args, below, meth, c⟩, ⟨cells, slots⟩, Q, D, cy, ad, A⟩ := G
  intro hF H locs ls hP hS hl
  have hx := hF.1
  have hb := hF.2.1
  exact lv_ldc hx hb hF.2.2.2.1 (hF.2.2.2.2.1 _ hv) hd (k hF H locs ls hP hS hl)

theorem r_ldc2 {G : Gx} {n : Nat} {cc : ByteArray} {own : String} {nL pc : Nat} {lv : List (Nat × Mv)} {st : List Mv} {M : Mem} {v : Int64} {i : Nat} (hd : decode cc pc = .ok (.ldc2_w i, 3)) (hv : Cond.constantLong own i v ∈ lw_tbl) (k : Ex G n cc own nL (pc + 3) lv (vL v :: st) M) : Ex G n cc own nL pc lv st M := by
  obtain ⟨⟨p, l, e, R⟩, ⟨s, m, args, below, meth, c⟩, ⟨cells, slots⟩, Q, D, cy, ad, A⟩ := G
  intro hF H locs ls hP hS hl
  have hx := hF.1
  have hb := hF.2.1
  exact lv_ldc2 hx hb hF.2.2.2.1 (hF.2.2.2.2.1 _ hv) hd (k hF H locs ls hP hS hl)

theorem r_lconst {G : Gx} {n : Nat} {cc : ByteArray} {own : String} {nL pc : Nat} {lv : List (Nat × Mv)} {st : List Mv} {M : Mem} {v : Fin 2} (hd : decode cc pc = .ok (.lconst v, 1)) (k : Ex G n cc own nL (pc + 1) lv (vL (Int64.ofNat v) :: st) M) : Ex G n cc own nL pc lv st M := by
  obtain ⟨⟨p, l, e, R⟩, ⟨s, m, args, below, meth, c⟩, ⟨cells, slots⟩, Q, D, cy, ad, A⟩ := G
  intro hF H locs ls hP hS hl
  have hx := hF.1
  have hb := hF.2.1
  exact lv_lconst hx hb hd rfl (k hF H locs ls hP hS hl)

theorem r_iload_n {G : Gx} {n : Nat} {cc : ByteArray} {own : String} {nL pc : Nat} {lv : List (Nat × Mv)} {st : List Mv} {M : Mem} {a : Int} {f : Fin 4} {i : Nat} (hd : decode cc pc = .ok (.iload_n f, 1)) (hi : (f : Nat) = i) (pos : Nat) (h : lv[pos]? = some (i, vI a)) (k : Ex G n cc own nL (pc + 1) lv (vI a :: st) M) : Ex G n cc own nL pc lv st M := by
  obtain ⟨⟨p, l, e, R⟩, ⟨s, m, args, below, meth, c⟩, ⟨cells, slots⟩, Q, D, cy, ad, A⟩ := G
  intro hF H locs ls hP hS hl
  have hx := hF.1
  have hb := hF.2.1
  exact lv_iload_n hx hb hd hi (lv_at hl pos (lvm h)) (k hF H locs ls hP hS hl)

theorem r_iload {G : Gx} {n : Nat} {cc : ByteArray} {own : String} {nL pc : Nat} {lv : List (Nat × Mv)} {st : List Mv} {M : Mem} {a : Int} {i : Nat} (hd : decode cc pc = .ok (.iload i, 2)) (pos : Nat) (h : lv[pos]? = some (i, vI a)) (k : Ex G n cc own nL (pc + 2) lv (vI a :: st) M) : Ex G n cc own nL pc lv st M := by
  obtain ⟨⟨p, l, e, R⟩, ⟨s, m, args, below, meth, c⟩, ⟨cells, slots⟩, Q, D, cy, ad, A⟩ := G
  intro hF H locs ls hP hS hl
  have hx := hF.1
  have hb := hF.2.1
  exact lv_iload hx hb hd (lv_at hl pos (lvm h)) (k hF H locs ls hP hS hl)

theorem r_istore_n {G : Gx} {n : Nat} {cc : ByteArray} {own : String} {nL pc : Nat} {lv : List (Nat × Mv)} {st : List Mv} {M : Mem} {a : Int} {f : Fin 4} {i : Nat} {lv2 : List (Nat × Mv)} (hd : decode cc pc = .ok (.istore_n f, 1)) (hi : (f : Nat) = i) (hn : i < nL) (h : (i, vI a) :: lv.filter (kp1 i) = lv2) (k : Ex G n cc own nL (pc + 1) lv2 st M) : Ex G n cc own nL pc lv (vI a :: st) M := by
  obtain ⟨⟨p, l, e, R⟩, ⟨s, m, args, below, meth, c⟩, ⟨cells, slots⟩, Q, D, cy, ad, A⟩ := G
  intro hF H locs ls hP hS hl
  have hx := hF.1
  have hb := hF.2.1
  subst h
  refine lv_istore_n hx hb hd hi hl hn rfl (fun ls2 h2 => ?_)
  rw [kp1_map] at h2
  exact k hF H locs ls2 hP hS h2

theorem r_istore {G : Gx} {n : Nat} {cc : ByteArray} {own : String} {nL pc : Nat} {lv : List (Nat × Mv)} {st : List Mv} {M : Mem} {a : Int} {i : Nat} {lv2 : List (Nat × Mv)} (hd : decode cc pc = .ok (.istore i, 2)) (hn : i < nL) (h : (i, vI a) :: lv.filter (kp1 i) = lv2) (k : Ex G n cc own nL (pc + 2) lv2 st M) : Ex G n cc own nL pc lv (vI a :: st) M := by
  obtain ⟨⟨p, l, e, R⟩, ⟨s, m, args, below, meth, c⟩, ⟨cells, slots⟩, Q, D, cy, ad, A⟩ := G
  intro hF H locs ls hP hS hl
  have hx := hF.1
  have hb := hF.2.1
  subst h
  refine lv_istore hx hb hd hl hn rfl (fun ls2 h2 => ?_)
  rw [kp1_map] at h2
  exact k hF H locs ls2 hP hS h2

theorem r_lload_n {G : Gx} {n : Nat} {cc : ByteArray} {own : String} {nL pc : Nat} {lv : List (Nat × Mv)} {st : List Mv} {M : Mem} {a : Int64} {f : Fin 4} {i : Nat} (hd : decode cc pc = .ok (.lload_n f, 1)) (hi : (f : Nat) = i) (pos : Nat) (h : lv[pos]? = some (i, vL a)) (k : Ex G n cc own nL (pc + 1) lv (vL a :: st) M) : Ex G n cc own nL pc lv st M := by
  obtain ⟨⟨p, l, e, R⟩, ⟨s, m, args, below, meth, c⟩, ⟨cells, slots⟩, Q, D, cy, ad, A⟩ := G
  intro hF H locs ls hP hS hl
  have hx := hF.1
  have hb := hF.2.1
  exact lv_lload_n hx hb hd hi (lv_at hl pos (lvm h)) (k hF H locs ls hP hS hl)

theorem r_lload {G : Gx} {n : Nat} {cc : ByteArray} {own : String} {nL pc : Nat} {lv : List (Nat × Mv)} {st : List Mv} {M : Mem} {a : Int64} {i : Nat} (hd : decode cc pc = .ok (.lload i, 2)) (pos : Nat) (h : lv[pos]? = some (i, vL a)) (k : Ex G n cc own nL (pc + 2) lv (vL a :: st) M) : Ex G n cc own nL pc lv st M := by
  obtain ⟨⟨p, l, e, R⟩, ⟨s, m, args, below, meth, c⟩, ⟨cells, slots⟩, Q, D, cy, ad, A⟩ := G
  intro hF H locs ls hP hS hl
  have hx := hF.1
  have hb := hF.2.1
  exact lv_lload hx hb hd (lv_at hl pos (lvm h)) (k hF H locs ls hP hS hl)

theorem r_lstore_n {G : Gx} {n : Nat} {cc : ByteArray} {own : String} {nL pc : Nat} {lv : List (Nat × Mv)} {st : List Mv} {M : Mem} {a : Int64} {f : Fin 4} {i : Nat} {lv2 : List (Nat × Mv)} (hd : decode cc pc = .ok (.lstore_n f, 1)) (hi : (f : Nat) = i) (hn : i + 1 < nL) (h : (i, vL a) :: lv.filter (kp2 i) = lv2) (k : Ex G n cc own nL (pc + 1) lv2 st M) : Ex G n cc own nL pc lv (vL a :: st) M := by
  obtain ⟨⟨p, l, e, R⟩, ⟨s, m, args, below, meth, c⟩, ⟨cells, slots⟩, Q, D, cy, ad, A⟩ := G
  intro hF H locs ls hP hS hl
  have hx := hF.1
  have hb := hF.2.1
  subst h
  refine lv_lstore_n hx hb hd hi hl hn rfl (fun ls2 h2 => ?_)
  rw [kp2_map] at h2
  exact k hF H locs ls2 hP hS h2

theorem r_lstore {G : Gx} {n : Nat} {cc : ByteArray} {own : String} {nL pc : Nat} {lv : List (Nat × Mv)} {st : List Mv} {M : Mem} {a : Int64} {i : Nat} {lv2 : List (Nat × Mv)} (hd : decode cc pc = .ok (.lstore i, 2)) (hn : i + 1 < nL) (h : (i, vL a) :: lv.filter (kp2 i) = lv2) (k : Ex G n cc own nL (pc + 2) lv2 st M) : Ex G n cc own nL pc lv (vL a :: st) M := by
  obtain ⟨⟨p, l, e, R⟩, ⟨s, m, args, below, meth, c⟩, ⟨cells, slots⟩, Q, D, cy, ad, A⟩ := G
  intro hF H locs ls hP hS hl
  have hx := hF.1
  have hb := hF.2.1
  subst h
  refine lv_lstore hx hb hd hl hn rfl (fun ls2 h2 => ?_)
  rw [kp2_map] at h2
  exact k hF H locs ls2 hP hS h2

theorem r_aload_n {G : Gx} {n : Nat} {cc : ByteArray} {own : String} {nL pc : Nat} {lv : List (Nat × Mv)} {st : List Mv} {M : Mem} {a : Nat} {f : Fin 4} {i : Nat} (hd : decode cc pc = .ok (.aload_n f, 1)) (hi : (f : Nat) = i) (pos : Nat) (h : lv[pos]? = some (i, vR a)) (k : Ex G n cc own nL (pc + 1) lv (vR a :: st) M) : Ex G n cc own nL pc lv st M := by
  obtain ⟨⟨p, l, e, R⟩, ⟨s, m, args, below, meth, c⟩, ⟨cells, slots⟩, Q, D, cy, ad, A⟩ := G
  intro hF H locs ls hP hS hl
  have hx := hF.1
  have hb := hF.2.1
  exact lv_aload_n hx hb hd hi (lv_at hl pos (lvm h)) (k hF H locs ls hP hS hl)

theorem r_aload {G : Gx} {n : Nat} {cc : ByteArray} {own : String} {nL pc : Nat} {lv : List (Nat × Mv)} {st : List Mv} {M : Mem} {a : Nat} {i : Nat} (hd : decode cc pc = .ok (.aload i, 2)) (pos : Nat) (h : lv[pos]? = some (i, vR a)) (k : Ex G n cc own nL (pc + 2) lv (vR a :: st) M) : Ex G n cc own nL pc lv st M := by
  obtain ⟨⟨p, l, e, R⟩, ⟨s, m, args, below, meth, c⟩, ⟨cells, slots⟩, Q, D, cy, ad, A⟩ := G
  intro hF H locs ls hP hS hl
  have hx := hF.1
  have hb := hF.2.1
  exact lv_aload hx hb hd (lv_at hl pos (lvm h)) (k hF H locs ls hP hS hl)

theorem r_astore_n {G : Gx} {n : Nat} {cc : ByteArray} {own : String} {nL pc : Nat} {lv : List (Nat × Mv)} {st : List Mv} {M : Mem} {a : Nat} {f : Fin 4} {i : Nat} {lv2 : List (Nat × Mv)} (hd : decode cc pc = .ok (.astore_n f, 1)) (hi : (f : Nat) = i) (hn : i < nL) (h : (i, vR a) :: lv.filter (kp1 i) = lv2) (k : Ex G n cc own nL (pc + 1) lv2 st M) : Ex G n cc own nL pc lv (vR a :: st) M := by
  obtain ⟨⟨p, l, e, R⟩, ⟨s, m, args, below, meth, c⟩, ⟨cells, slots⟩, Q, D, cy, ad, A⟩ := G
  intro hF H locs ls hP hS hl
  have hx := hF.1
  have hb := hF.2.1
  subst h
  refine lv_astore_n hx hb hd hi hl hn rfl (fun ls2 h2 => ?_)
  rw [kp1_map] at h2
  exact k hF H locs ls2 hP hS h2

theorem r_astore {G : Gx} {n : Nat} {cc : ByteArray} {own : String} {nL pc : Nat} {lv : List (Nat × Mv)} {st : List Mv} {M : Mem} {a : Nat} {i : Nat} {lv2 : List (Nat × Mv)} (hd : decode cc pc = .ok (.astore i, 2)) (hn : i < nL) (h : (i, vR a) :: lv.filter (kp1 i) = lv2) (k : Ex G n cc own nL (pc + 2) lv2 st M) : Ex G n cc own nL pc lv (vR a :: st) M := by
  obtain ⟨⟨p, l, e, R⟩, ⟨s, m, args, below, meth, c⟩, ⟨cells, slots⟩, Q, D, cy, ad, A⟩ := G
  intro hF H locs ls hP hS hl
  have hx := hF.1
  have hb := hF.2.1
  subst h
  refine lv_astore hx hb hd hl hn rfl (fun ls2 h2 => ?_)
  rw [kp1_map] at h2
  exact k hF H locs ls2 hP hS h2

theorem r_iinc {G : Gx} {n : Nat} {cc : ByteArray} {own : String} {nL pc : Nat} {lv : List (Nat × Mv)} {st : List Mv} {M : Mem} {a : Int} {v : Int} {i : Nat} {lv2 : List (Nat × Mv)} (hd : decode cc pc = .ok (.iinc i v, 3)) (pos : Nat) (h : lv[pos]? = some (i, vI a)) (hn : i < nL) (h2 : (i, vI (a + v)) :: lv.filter (kp1 i) = lv2) (k : Ex G n cc own nL (pc + 3) lv2 st M) : Ex G n cc own nL pc lv st M := by
  obtain ⟨⟨p, l, e, R⟩, ⟨s, m, args, below, meth, c⟩, ⟨cells, slots⟩, Q, D, cy, ad, A⟩ := G
  intro hF H locs ls hP hS hl
  have hx := hF.1
  have hb := hF.2.1
  subst h2
  refine lv_iinc hx hb hd hl (lvm h) (Int32.ofInt_add a v).symm hn rfl (fun ls2 h2 => ?_)
  rw [kp1_map] at h2
  exact k hF H locs ls2 hP hS h2

theorem r_sub {G : Gx} {n : Nat} {cc : ByteArray} {own : String} {nL pc : Nat} {lv : List (Nat × Mv)} {st : List Mv} {M : Mem} {lv2 : List (Nat × Mv)} (ks : List Nat) (h : ks.filterMap (fun i => lv[i]?) = lv2) (k : Ex G n cc own nL pc lv2 st M) : Ex G n cc own nL pc lv st M := by
  obtain ⟨⟨p, l, e, R⟩, ⟨s, m, args, below, meth, c⟩, ⟨cells, slots⟩, Q, D, cy, ad, A⟩ := G
  intro hF H locs ls hP hS hl
  have hx := hF.1
  have hb := hF.2.1
  refine k hF H locs ls hP hS (lv_sub hl ks ?_)
  subst h
  unfold lv_pick
  rw [List.map_filterMap]
  congr 1
  funext i
  rw [List.getElem?_map]

theorem r_dup {G : Gx} {n : Nat} {cc : ByteArray} {own : String} {nL pc : Nat} {lv : List (Nat × Mv)} {st : List Mv} {M : Mem} {v : Mv} (hd : decode cc pc = .ok (.dup, 1)) (h : isL v = false) (k : Ex G n cc own nL (pc + 1) lv (v :: v :: st) M) : Ex G n cc own nL pc lv (v :: st) M := by
  obtain ⟨⟨p, l, e, R⟩, ⟨s, m, args, below, meth, c⟩, ⟨cells, slots⟩, Q, D, cy, ad, A⟩ := G
  intro hF H locs ls hP hS hl
  have hx := hF.1
  have hb := hF.2.1
  exact lv_dup hx hb hd (by rw [cv_cat, h]; rfl) (k hF H locs ls hP hS hl)

theorem r_pop {G : Gx} {n : Nat} {cc : ByteArray} {own : String} {nL pc : Nat} {lv : List (Nat × Mv)} {st : List Mv} {M : Mem} {v : Mv} (hd : decode cc pc = .ok (.pop, 1)) (h : isL v = false) (k : Ex G n cc own nL (pc + 1) lv st M) : Ex G n cc own nL pc lv (v :: st) M := by
  obtain ⟨⟨p, l, e, R⟩, ⟨s, m, args, below, meth, c⟩, ⟨cells, slots⟩, Q, D, cy, ad, A⟩ := G
  intro hF H locs ls hP hS hl
  have hx := hF.1
  have hb := hF.2.1
  exact lv_pop hx hb hd (by rw [cv_cat, h]; rfl) (k hF H locs ls hP hS hl)

theorem r_dup2 {G : Gx} {n : Nat} {cc : ByteArray} {own : String} {nL pc : Nat} {lv : List (Nat × Mv)} {st : List Mv} {M : Mem} {v w : Mv} (hd : decode cc pc = .ok (.dup2, 1)) (h : isL v = false) (h2 : isL w = false) (k : Ex G n cc own nL (pc + 1) lv (v :: w :: v :: w :: st) M) : Ex G n cc own nL pc lv (v :: w :: st) M := by
  obtain ⟨⟨p, l, e, R⟩, ⟨s, m, args, below, meth, c⟩, ⟨cells, slots⟩, Q, D, cy, ad, A⟩ := G
  intro hF H locs ls hP hS hl
  have hx := hF.1
  have hb := hF.2.1
  exact lv_dup2_11 hx hb hd (by rw [cv_cat, h]; rfl) (by rw [cv_cat, h2]; rfl) (k hF H locs ls hP hS hl)

theorem r_dup_x1 {G : Gx} {n : Nat} {cc : ByteArray} {own : String} {nL pc : Nat} {lv : List (Nat × Mv)} {st : List Mv} {M : Mem} {v w : Mv} (hd : decode cc pc = .ok (.dup_x1, 1)) (h : isL v = false) (h2 : isL w = false) (k : Ex G n cc own nL (pc + 1) lv (v :: w :: v :: st) M) : Ex G n cc own nL pc lv (v :: w :: st) M := by
  obtain ⟨⟨p, l, e, R⟩, ⟨s, m, args, below, meth, c⟩, ⟨cells, slots⟩, Q, D, cy, ad, A⟩ := G
  intro hF H locs ls hP hS hl
  have hx := hF.1
  have hb := hF.2.1
  exact lv_dup_x1 hx hb hd (by rw [cv_cat, h]; rfl) (by rw [cv_cat, h2]; rfl) (k hF H locs ls hP hS hl)

theorem r_goto {G : Gx} {n : Nat} {cc : ByteArray} {own : String} {nL pc : Nat} {lv : List (Nat × Mv)} {st : List Mv} {M : Mem} {off : Int} {tgt : Nat} (hd : decode cc pc = .ok (.goto off, 3)) (ht : (pc : Int) + off = (tgt : Int)) (k : Ex G n cc own nL tgt lv st M) : Ex G n cc own nL pc lv st M := by
  obtain ⟨⟨p, l, e, R⟩, ⟨s, m, args, below, meth, c⟩, ⟨cells, slots⟩, Q, D, cy, ad, A⟩ := G
  intro hF H locs ls hP hS hl
  have hx := hF.1
  have hb := hF.2.1
  exact lv_goto hx hb hd ht (k hF H locs ls hP hS hl)

theorem r_icmp_ge {G : Gx} {n : Nat} {cc : ByteArray} {own : String} {nL pc : Nat} {lv : List (Nat × Mv)} {st : List Mv} {M : Mem} {a b : Int} {off : Int} {tgt : Nat} (hd : decode cc pc = .ok (.if_icmp .ge off, 3)) (ht : (pc : Int) + off = (tgt : Int)) (kt : (wr b ≤ wr a) → Ex G n cc own nL tgt lv st M) (kf : ¬ (wr b ≤ wr a) → Ex G n cc own nL (pc + 3) lv st M) : Ex G n cc own nL pc lv (vI b :: vI a :: st) M := by
  obtain ⟨⟨p, l, e, R⟩, ⟨s, m, args, below, meth, c⟩, ⟨cells, slots⟩, Q, D, cy, ad, A⟩ := G
  intro hF H locs ls hP hS hl
  have hx := hF.1
  have hb := hF.2.1
  exact lv_icmp_ge hx hb hd ht (fun q => kt ((oI_le b a).mp q) hF H locs ls hP hS hl) (fun q => kf (fun z => q ((oI_le b a).mpr z)) hF H locs ls hP hS hl)

theorem r_icmp_lt {G : Gx} {n : Nat} {cc : ByteArray} {own : String} {nL pc : Nat} {lv : List (Nat × Mv)} {st : List Mv} {M : Mem} {a b : Int} {off : Int} {tgt : Nat} (hd : decode cc pc = .ok (.if_icmp .lt off, 3)) (ht : (pc : Int) + off = (tgt : Int)) (kt : (wr a < wr b) → Ex G n cc own nL tgt lv st M) (kf : ¬ (wr a < wr b) → Ex G n cc own nL (pc + 3) lv st M) : Ex G n cc own nL pc lv (vI b :: vI a :: st) M := by
  obtain ⟨⟨p, l, e, R⟩, ⟨s, m, args, below, meth, c⟩, ⟨cells, slots⟩, Q, D, cy, ad, A⟩ := G
  intro hF H locs ls hP hS hl
  have hx := hF.1
  have hb := hF.2.1
  exact lv_icmp_lt hx hb hd ht (fun q => kt ((oI_lt a b).mp q) hF H locs ls hP hS hl) (fun q => kf (fun z => q ((oI_lt a b).mpr z)) hF H locs ls hP hS hl)

theorem r_icmp_gt {G : Gx} {n : Nat} {cc : ByteArray} {own : String} {nL pc : Nat} {lv : List (Nat × Mv)} {st : List Mv} {M : Mem} {a b : Int} {off : Int} {tgt : Nat} (hd : decode cc pc = .ok (.if_icmp .gt off, 3)) (ht : (pc : Int) + off = (tgt : Int)) (kt : (wr b < wr a) → Ex G n cc own nL tgt lv st M) (kf : ¬ (wr b < wr a) → Ex G n cc own nL (pc + 3) lv st M) : Ex G n cc own nL pc lv (vI b :: vI a :: st) M := by
  obtain ⟨⟨p, l, e, R⟩, ⟨s, m, args, below, meth, c⟩, ⟨cells, slots⟩, Q, D, cy, ad, A⟩ := G
  intro hF H locs ls hP hS hl
  have hx := hF.1
  have hb := hF.2.1
  exact lv_icmp_gt hx hb hd ht (fun q => kt ((oI_lt b a).mp q) hF H locs ls hP hS hl) (fun q => kf (fun z => q ((oI_lt b a).mpr z)) hF H locs ls hP hS hl)

theorem r_icmp_le {G : Gx} {n : Nat} {cc : ByteArray} {own : String} {nL pc : Nat} {lv : List (Nat × Mv)} {st : List Mv} {M : Mem} {a b : Int} {off : Int} {tgt : Nat} (hd : decode cc pc = .ok (.if_icmp .le off, 3)) (ht : (pc : Int) + off = (tgt : Int)) (kt : (wr a ≤ wr b) → Ex G n cc own nL tgt lv st M) (kf : ¬ (wr a ≤ wr b) → Ex G n cc own nL (pc + 3) lv st M) : Ex G n cc own nL pc lv (vI b :: vI a :: st) M := by
  obtain ⟨⟨p, l, e, R⟩, ⟨s, m, args, below, meth, c⟩, ⟨cells, slots⟩, Q, D, cy, ad, A⟩ := G
  intro hF H locs ls hP hS hl
  have hx := hF.1
  have hb := hF.2.1
  exact lv_icmp_le hx hb hd ht (fun q => kt ((oI_le a b).mp q) hF H locs ls hP hS hl) (fun q => kf (fun z => q ((oI_le a b).mpr z)) hF H locs ls hP hS hl)

theorem r_icmp_eq {G : Gx} {n : Nat} {cc : ByteArray} {own : String} {nL pc : Nat} {lv : List (Nat × Mv)} {st : List Mv} {M : Mem} {a b : Int} {off : Int} {tgt : Nat} (hd : decode cc pc = .ok (.if_icmp .eq off, 3)) (ht : (pc : Int) + off = (tgt : Int)) (kt : (wr a = wr b) → Ex G n cc own nL tgt lv st M) (kf : ¬ (wr a = wr b) → Ex G n cc own nL (pc + 3) lv st M) : Ex G n cc own nL pc lv (vI b :: vI a :: st) M := by
  obtain ⟨⟨p, l, e, R⟩, ⟨s, m, args, below, meth, c⟩, ⟨cells, slots⟩, Q, D, cy, ad, A⟩ := G
  intro hF H locs ls hP hS hl
  have hx := hF.1
  have hb := hF.2.1
  exact lv_icmp_eq hx hb hd ht (fun q => kt ((oI_eq a b).mp q) hF H locs ls hP hS hl) (fun q => kf (fun z => q ((oI_eq a b).mpr z)) hF H locs ls hP hS hl)

theorem r_icmp_ne {G : Gx} {n : Nat} {cc : ByteArray} {own : String} {nL pc : Nat} {lv : List (Nat × Mv)} {st : List Mv} {M : Mem} {a b : Int} {off : Int} {tgt : Nat} (hd : decode cc pc = .ok (.if_icmp .ne off, 3)) (ht : (pc : Int) + off = (tgt : Int)) (kt : ¬ (wr a = wr b) → Ex G n cc own nL tgt lv st M) (kf : (wr a = wr b) → Ex G n cc own nL (pc + 3) lv st M) : Ex G n cc own nL pc lv (vI b :: vI a :: st) M := by
  obtain ⟨⟨p, l, e, R⟩, ⟨s, m, args, below, meth, c⟩, ⟨cells, slots⟩, Q, D, cy, ad, A⟩ := G
  intro hF H locs ls hP hS hl
  have hx := hF.1
  have hb := hF.2.1
  exact lv_icmp_ne hx hb hd ht (fun q => kt (fun z => q ((oI_eq a b).mpr z)) hF H locs ls hP hS hl) (fun q => kf ((oI_eq a b).mp q) hF H locs ls hP hS hl)

theorem r_if_ge {G : Gx} {n : Nat} {cc : ByteArray} {own : String} {nL pc : Nat} {lv : List (Nat × Mv)} {st : List Mv} {M : Mem} {a : Int} {off : Int} {tgt : Nat} (hd : decode cc pc = .ok (.ifCond .ge off, 3)) (ht : (pc : Int) + off = (tgt : Int)) (kt : (0 ≤ wr a) → Ex G n cc own nL tgt lv st M) (kf : ¬ (0 ≤ wr a) → Ex G n cc own nL (pc + 3) lv st M) : Ex G n cc own nL pc lv (vI a :: st) M := by
  obtain ⟨⟨p, l, e, R⟩, ⟨s, m, args, below, meth, c⟩, ⟨cells, slots⟩, Q, D, cy, ad, A⟩ := G
  intro hF H locs ls hP hS hl
  have hx := hF.1
  have hb := hF.2.1
  exact lv_if_ge hx hb hd ht (fun q => kt ((oI_ge0 a).mp q) hF H locs ls hP hS hl) (fun q => kf (fun z => q ((oI_ge0 a).mpr z)) hF H locs ls hP hS hl)

theorem r_if_lt {G : Gx} {n : Nat} {cc : ByteArray} {own : String} {nL pc : Nat} {lv : List (Nat × Mv)} {st : List Mv} {M : Mem} {a : Int} {off : Int} {tgt : Nat} (hd : decode cc pc = .ok (.ifCond .lt off, 3)) (ht : (pc : Int) + off = (tgt : Int)) (kt : (wr a < 0) → Ex G n cc own nL tgt lv st M) (kf : ¬ (wr a < 0) → Ex G n cc own nL (pc + 3) lv st M) : Ex G n cc own nL pc lv (vI a :: st) M := by
  obtain ⟨⟨p, l, e, R⟩, ⟨s, m, args, below, meth, c⟩, ⟨cells, slots⟩, Q, D, cy, ad, A⟩ := G
  intro hF H locs ls hP hS hl
  have hx := hF.1
  have hb := hF.2.1
  exact lv_if_lt hx hb hd ht (fun q => kt ((oI_lt0 a).mp q) hF H locs ls hP hS hl) (fun q => kf (fun z => q ((oI_lt0 a).mpr z)) hF H locs ls hP hS hl)

theorem r_if_gt {G : Gx} {n : Nat} {cc : ByteArray} {own : String} {nL pc : Nat} {lv : List (Nat × Mv)} {st : List Mv} {M : Mem} {a : Int} {off : Int} {tgt : Nat} (hd : decode cc pc = .ok (.ifCond .gt off, 3)) (ht : (pc : Int) + off = (tgt : Int)) (kt : (0 < wr a) → Ex G n cc own nL tgt lv st M) (kf : ¬ (0 < wr a) → Ex G n cc own nL (pc + 3) lv st M) : Ex G n cc own nL pc lv (vI a :: st) M := by
  obtain ⟨⟨p, l, e, R⟩, ⟨s, m, args, below, meth, c⟩, ⟨cells, slots⟩, Q, D, cy, ad, A⟩ := G
  intro hF H locs ls hP hS hl
  have hx := hF.1
  have hb := hF.2.1
  exact lv_if_gt hx hb hd ht (fun q => kt ((oI_gt0 a).mp q) hF H locs ls hP hS hl) (fun q => kf (fun z => q ((oI_gt0 a).mpr z)) hF H locs ls hP hS hl)

theorem r_if_le {G : Gx} {n : Nat} {cc : ByteArray} {own : String} {nL pc : Nat} {lv : List (Nat × Mv)} {st : List Mv} {M : Mem} {a : Int} {off : Int} {tgt : Nat} (hd : decode cc pc = .ok (.ifCond .le off, 3)) (ht : (pc : Int) + off = (tgt : Int)) (kt : (wr a ≤ 0) → Ex G n cc own nL tgt lv st M) (kf : ¬ (wr a ≤ 0) → Ex G n cc own nL (pc + 3) lv st M) : Ex G n cc own nL pc lv (vI a :: st) M := by
  obtain ⟨⟨p, l, e, R⟩, ⟨s, m, args, below, meth, c⟩, ⟨cells, slots⟩, Q, D, cy, ad, A⟩ := G
  intro hF H locs ls hP hS hl
  have hx := hF.1
  have hb := hF.2.1
  exact lv_if_le hx hb hd ht (fun q => kt ((oI_le0 a).mp q) hF H locs ls hP hS hl) (fun q => kf (fun z => q ((oI_le0 a).mpr z)) hF H locs ls hP hS hl)

theorem r_if_eq {G : Gx} {n : Nat} {cc : ByteArray} {own : String} {nL pc : Nat} {lv : List (Nat × Mv)} {st : List Mv} {M : Mem} {a : Int} {off : Int} {tgt : Nat} (hd : decode cc pc = .ok (.ifCond .eq off, 3)) (ht : (pc : Int) + off = (tgt : Int)) (kt : (wr a = 0) → Ex G n cc own nL tgt lv st M) (kf : ¬ (wr a = 0) → Ex G n cc own nL (pc + 3) lv st M) : Ex G n cc own nL pc lv (vI a :: st) M := by
  obtain ⟨⟨p, l, e, R⟩, ⟨s, m, args, below, meth, c⟩, ⟨cells, slots⟩, Q, D, cy, ad, A⟩ := G
  intro hF H locs ls hP hS hl
  have hx := hF.1
  have hb := hF.2.1
  exact lv_if_eq hx hb hd ht (fun q => kt ((oI_eq0 a).mp q) hF H locs ls hP hS hl) (fun q => kf (fun z => q ((oI_eq0 a).mpr z)) hF H locs ls hP hS hl)

theorem r_if_ne {G : Gx} {n : Nat} {cc : ByteArray} {own : String} {nL pc : Nat} {lv : List (Nat × Mv)} {st : List Mv} {M : Mem} {a : Int} {off : Int} {tgt : Nat} (hd : decode cc pc = .ok (.ifCond .ne off, 3)) (ht : (pc : Int) + off = (tgt : Int)) (kt : ¬ (wr a = 0) → Ex G n cc own nL tgt lv st M) (kf : (wr a = 0) → Ex G n cc own nL (pc + 3) lv st M) : Ex G n cc own nL pc lv (vI a :: st) M := by
  obtain ⟨⟨p, l, e, R⟩, ⟨s, m, args, below, meth, c⟩, ⟨cells, slots⟩, Q, D, cy, ad, A⟩ := G
  intro hF H locs ls hP hS hl
  have hx := hF.1
  have hb := hF.2.1
  exact lv_if_ne hx hb hd ht (fun q => kt (fun z => q ((oI_eq0 a).mpr z)) hF H locs ls hP hS hl) (fun q => kf ((oI_eq0 a).mp q) hF H locs ls hP hS hl)

theorem r_lcmp_ge {G : Gx} {n : Nat} {cc : ByteArray} {own : String} {nL pc : Nat} {lv : List (Nat × Mv)} {st : List Mv} {M : Mem} {a b : Int64} {off : Int} {tgt : Nat} (hd0 : decode cc pc = .ok (.lcmp, 1)) (hd : decode cc (pc + 1) = .ok (.ifCond .ge off, 3)) (ht : ((pc + 1 : Nat) : Int) + off = (tgt : Int)) (kt : (b ≤ a) → Ex G n cc own nL tgt lv st M) (kf : ¬ (b ≤ a) → Ex G n cc own nL (pc + 4) lv st M) : Ex G n cc own nL pc lv (vL b :: vL a :: st) M := by
  obtain ⟨⟨p, l, e, R⟩, ⟨s, m, args, below, meth, c⟩, ⟨cells, slots⟩, Q, D, cy, ad, A⟩ := G
  intro hF H locs ls hP hS hl
  have hx := hF.1
  have hb := hF.2.1
  refine W.lcmp hx hb hd0 ?_
  exact lv_if_ge hx hb hd ht (fun q => kt ((lg_cmp_ge a b).mp q) hF H locs ls hP hS hl) (fun q => kf (fun z => q ((lg_cmp_ge a b).mpr z)) hF H locs ls hP hS hl)

theorem r_lcmp_lt {G : Gx} {n : Nat} {cc : ByteArray} {own : String} {nL pc : Nat} {lv : List (Nat × Mv)} {st : List Mv} {M : Mem} {a b : Int64} {off : Int} {tgt : Nat} (hd0 : decode cc pc = .ok (.lcmp, 1)) (hd : decode cc (pc + 1) = .ok (.ifCond .lt off, 3)) (ht : ((pc + 1 : Nat) : Int) + off = (tgt : Int)) (kt : (a < b) → Ex G n cc own nL tgt lv st M) (kf : ¬ (a < b) → Ex G n cc own nL (pc + 4) lv st M) : Ex G n cc own nL pc lv (vL b :: vL a :: st) M := by
  obtain ⟨⟨p, l, e, R⟩, ⟨s, m, args, below, meth, c⟩, ⟨cells, slots⟩, Q, D, cy, ad, A⟩ := G
  intro hF H locs ls hP hS hl
  have hx := hF.1
  have hb := hF.2.1
  refine W.lcmp hx hb hd0 ?_
  exact lv_if_lt hx hb hd ht (fun q => kt ((lg_cmp_lt a b).mp q) hF H locs ls hP hS hl) (fun q => kf (fun z => q ((lg_cmp_lt a b).mpr z)) hF H locs ls hP hS hl)

theorem r_lcmp_gt {G : Gx} {n : Nat} {cc : ByteArray} {own : String} {nL pc : Nat} {lv : List (Nat × Mv)} {st : List Mv} {M : Mem} {a b : Int64} {off : Int} {tgt : Nat} (hd0 : decode cc pc = .ok (.lcmp, 1)) (hd : decode cc (pc + 1) = .ok (.ifCond .gt off, 3)) (ht : ((pc + 1 : Nat) : Int) + off = (tgt : Int)) (kt : (b < a) → Ex G n cc own nL tgt lv st M) (kf : ¬ (b < a) → Ex G n cc own nL (pc + 4) lv st M) : Ex G n cc own nL pc lv (vL b :: vL a :: st) M := by
  obtain ⟨⟨p, l, e, R⟩, ⟨s, m, args, below, meth, c⟩, ⟨cells, slots⟩, Q, D, cy, ad, A⟩ := G
  intro hF H locs ls hP hS hl
  have hx := hF.1
  have hb := hF.2.1
  refine W.lcmp hx hb hd0 ?_
  exact lv_if_gt hx hb hd ht (fun q => kt ((lg_cmp_gt a b).mp q) hF H locs ls hP hS hl) (fun q => kf (fun z => q ((lg_cmp_gt a b).mpr z)) hF H locs ls hP hS hl)

theorem r_lcmp_le {G : Gx} {n : Nat} {cc : ByteArray} {own : String} {nL pc : Nat} {lv : List (Nat × Mv)} {st : List Mv} {M : Mem} {a b : Int64} {off : Int} {tgt : Nat} (hd0 : decode cc pc = .ok (.lcmp, 1)) (hd : decode cc (pc + 1) = .ok (.ifCond .le off, 3)) (ht : ((pc + 1 : Nat) : Int) + off = (tgt : Int)) (kt : (a ≤ b) → Ex G n cc own nL tgt lv st M) (kf : ¬ (a ≤ b) → Ex G n cc own nL (pc + 4) lv st M) : Ex G n cc own nL pc lv (vL b :: vL a :: st) M := by
  obtain ⟨⟨p, l, e, R⟩, ⟨s, m, args, below, meth, c⟩, ⟨cells, slots⟩, Q, D, cy, ad, A⟩ := G
  intro hF H locs ls hP hS hl
  have hx := hF.1
  have hb := hF.2.1
  refine W.lcmp hx hb hd0 ?_
  exact lv_if_le hx hb hd ht (fun q => kt ((lg_cmp_le a b).mp q) hF H locs ls hP hS hl) (fun q => kf (fun z => q ((lg_cmp_le a b).mpr z)) hF H locs ls hP hS hl)

theorem r_lcmp_eq {G : Gx} {n : Nat} {cc : ByteArray} {own : String} {nL pc : Nat} {lv : List (Nat × Mv)} {st : List Mv} {M : Mem} {a b : Int64} {off : Int} {tgt : Nat} (hd0 : decode cc pc = .ok (.lcmp, 1)) (hd : decode cc (pc + 1) = .ok (.ifCond .eq off, 3)) (ht : ((pc + 1 : Nat) : Int) + off = (tgt : Int)) (kt : (a = b) → Ex G n cc own nL tgt lv st M) (kf : ¬ (a = b) → Ex G n cc own nL (pc + 4) lv st M) : Ex G n cc own nL pc lv (vL b :: vL a :: st) M := by
  obtain ⟨⟨p, l, e, R⟩, ⟨s, m, args, below, meth, c⟩, ⟨cells, slots⟩, Q, D, cy, ad, A⟩ := G
  intro hF H locs ls hP hS hl
  have hx := hF.1
  have hb := hF.2.1
  refine W.lcmp hx hb hd0 ?_
  exact lv_if_eq hx hb hd ht (fun q => kt ((lg_cmp_eq a b).mp q) hF H locs ls hP hS hl) (fun q => kf (fun z => q ((lg_cmp_eq a b).mpr z)) hF H locs ls hP hS hl)

theorem r_lcmp_ne {G : Gx} {n : Nat} {cc : ByteArray} {own : String} {nL pc : Nat} {lv : List (Nat × Mv)} {st : List Mv} {M : Mem} {a b : Int64} {off : Int} {tgt : Nat} (hd0 : decode cc pc = .ok (.lcmp, 1)) (hd : decode cc (pc + 1) = .ok (.ifCond .ne off, 3)) (ht : ((pc + 1 : Nat) : Int) + off = (tgt : Int)) (kt : ¬ (a = b) → Ex G n cc own nL tgt lv st M) (kf : (a = b) → Ex G n cc own nL (pc + 4) lv st M) : Ex G n cc own nL pc lv (vL b :: vL a :: st) M := by
  obtain ⟨⟨p, l, e, R⟩, ⟨s, m, args, below, meth, c⟩, ⟨cells, slots⟩, Q, D, cy, ad, A⟩ := G
  intro hF H locs ls hP hS hl
  have hx := hF.1
  have hb := hF.2.1
  refine W.lcmp hx hb hd0 ?_
  exact lv_if_ne hx hb hd ht (fun q => kt (fun z => q ((lg_cmp_eq a b).mpr z)) hF H locs ls hP hS hl) (fun q => kf ((lg_cmp_eq a b).mp q) hF H locs ls hP hS hl)

theorem r_tabIn {G : Gx} {n : Nat} {cc : ByteArray} {own : String} {nL pc : Nat} {lv : List (Nat × Mv)} {st : List Mv} {M : Mem} {a : Int} {dflt lo hi : Int} {offs : Array Int} {len : Nat} {off : Int} {tgt : Nat} (hd : decode cc pc = .ok (.tableswitch dflt lo hi offs, len)) (i : Nat) (h : wr a = lo + i) (h2 : lo + i ≤ hi) (ho : offs[i]? = some off) (ht : (pc : Int) + off = (tgt : Int)) (k : Ex G n cc own nL tgt lv st M) : Ex G n cc own nL pc lv (vI a :: st) M := by
  obtain ⟨⟨p, l, e, R⟩, ⟨s, m, args, below, meth, c⟩, ⟨cells, slots⟩, Q, D, cy, ad, A⟩ := G
  intro hF H locs ls hP hS hl
  have hx := hF.1
  have hb := hF.2.1
  exact lv_tableIn hx hb hd (by rw [wr_toInt]; omega) (by rw [wr_toInt]; omega) (by rw [wr_toInt, show (wr a - lo).toNat = i by omega]; exact ho) ht (k hF H locs ls hP hS hl)

theorem r_tabOut {G : Gx} {n : Nat} {cc : ByteArray} {own : String} {nL pc : Nat} {lv : List (Nat × Mv)} {st : List Mv} {M : Mem} {a : Int} {dflt lo hi : Int} {offs : Array Int} {len : Nat} {tgt : Nat} (hd : decode cc pc = .ok (.tableswitch dflt lo hi offs, len)) (h : wr a < lo ∨ hi < wr a) (ht : (pc : Int) + dflt = (tgt : Int)) (k : Ex G n cc own nL tgt lv st M) : Ex G n cc own nL pc lv (vI a :: st) M := by
  obtain ⟨⟨p, l, e, R⟩, ⟨s, m, args, below, meth, c⟩, ⟨cells, slots⟩, Q, D, cy, ad, A⟩ := G
  intro hF H locs ls hP hS hl
  have hx := hF.1
  have hb := hF.2.1
  exact lv_tableOut hx hb hd (by rw [wr_toInt]; exact h) ht (k hF H locs ls hP hS hl)
end
section
theorem zz_end : (1 : Nat) = 1 := rfl
end
