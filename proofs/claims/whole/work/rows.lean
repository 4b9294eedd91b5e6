section
-- ===== PART A: goes FIRST, ahead of the names: the tables' words, and 'selects' of the private methods out of them =====
/-- a private method of a class that the tables say can be made, by its rows of tables_1 -/
def lw_okq (q : MethodName × Nat) : Prop := (q.1.cls ≠ "java/lang/invoke/MethodHandle" ∧ q.1.cls ≠ "java/lang/invoke/VarHandle") ∧ Cond.instantiable q.1.cls q.2 ∈ tables_1 ∧ Cond.privateMethod q.1 ∈ tables_1 ∧ Cond.instanceMethod q.1 ∈ tables_1
theorem lw_p0 : lw_okq (⟨"PaperedOver", "found", "(I)I"⟩, 13) := ⟨⟨by decide +kernel, by decide +kernel⟩, List.mem_of_getElem? (i := 21) (by decide +kernel), List.mem_of_getElem? (i := 382) (by decide +kernel), List.mem_of_getElem? (i := 383) (by decide +kernel)⟩
theorem lw_p1 : lw_okq (⟨"PaperedOver", "clean", "(I)I"⟩, 13) := ⟨⟨by decide +kernel, by decide +kernel⟩, List.mem_of_getElem? (i := 21) (by decide +kernel), List.mem_of_getElem? (i := 398) (by decide +kernel), List.mem_of_getElem? (i := 399) (by decide +kernel)⟩
theorem lw_p2 : lw_okq (⟨"PaperedOver", "learnAnew", "()V"⟩, 13) := ⟨⟨by decide +kernel, by decide +kernel⟩, List.mem_of_getElem? (i := 21) (by decide +kernel), List.mem_of_getElem? (i := 611) (by decide +kernel), List.mem_of_getElem? (i := 612) (by decide +kernel)⟩
theorem lw_p3 : lw_okq (⟨"PaperedOver", "areUnlikePapers", "(III)Z"⟩, 13) := ⟨⟨by decide +kernel, by decide +kernel⟩, List.mem_of_getElem? (i := 21) (by decide +kernel), List.mem_of_getElem? (i := 707) (by decide +kernel), List.mem_of_getElem? (i := 708) (by decide +kernel)⟩
theorem lw_p4 : lw_okq (⟨"PaperedOver", "isSeen", "(I)Z"⟩, 13) := ⟨⟨by decide +kernel, by decide +kernel⟩, List.mem_of_getElem? (i := 21) (by decide +kernel), List.mem_of_getElem? (i := 782) (by decide +kernel), List.mem_of_getElem? (i := 783) (by decide +kernel)⟩
theorem lw_p5 : lw_okq (⟨"PaperedOverModel", "finding", "(I)I"⟩, 29) := ⟨⟨by decide +kernel, by decide +kernel⟩, List.mem_of_getElem? (i := 975) (by decide +kernel), List.mem_of_getElem? (i := 1082) (by decide +kernel), List.mem_of_getElem? (i := 1083) (by decide +kernel)⟩
theorem lw_p6 : lw_okq (⟨"PaperedOverModel", "begin", "()V"⟩, 29) := ⟨⟨by decide +kernel, by decide +kernel⟩, List.mem_of_getElem? (i := 975) (by decide +kernel), List.mem_of_getElem? (i := 1110) (by decide +kernel), List.mem_of_getElem? (i := 1111) (by decide +kernel)⟩
theorem lw_p7 : lw_okq (⟨"PaperedOverModel", "nextToken", "()V"⟩, 29) := ⟨⟨by decide +kernel, by decide +kernel⟩, List.mem_of_getElem? (i := 975) (by decide +kernel), List.mem_of_getElem? (i := 1114) (by decide +kernel), List.mem_of_getElem? (i := 1115) (by decide +kernel)⟩
theorem lw_p8 : lw_okq (⟨"PaperedOverModel", "byteAt", "(I)I"⟩, 29) := ⟨⟨by decide +kernel, by decide +kernel⟩, List.mem_of_getElem? (i := 975) (by decide +kernel), List.mem_of_getElem? (i := 1118) (by decide +kernel), List.mem_of_getElem? (i := 1119) (by decide +kernel)⟩
theorem lw_p9 : lw_okq (⟨"PaperedOverModel", "name", "()J"⟩, 29) := ⟨⟨by decide +kernel, by decide +kernel⟩, List.mem_of_getElem? (i := 975) (by decide +kernel), List.mem_of_getElem? (i := 1129) (by decide +kernel), List.mem_of_getElem? (i := 1130) (by decide +kernel)⟩
theorem lw_p10 : lw_okq (⟨"PaperedOverModel", "bad", "(I)V"⟩, 29) := ⟨⟨by decide +kernel, by decide +kernel⟩, List.mem_of_getElem? (i := 975) (by decide +kernel), List.mem_of_getElem? (i := 1134) (by decide +kernel), List.mem_of_getElem? (i := 1135) (by decide +kernel)⟩
theorem lw_p11 : lw_okq (⟨"PaperedOverModel", "readWall", "()V"⟩, 29) := ⟨⟨by decide +kernel, by decide +kernel⟩, List.mem_of_getElem? (i := 975) (by decide +kernel), List.mem_of_getElem? (i := 1138) (by decide +kernel), List.mem_of_getElem? (i := 1139) (by decide +kernel)⟩
theorem lw_p12 : lw_okq (⟨"PaperedOverModel", "begins", "(II)V"⟩, 29) := ⟨⟨by decide +kernel, by decide +kernel⟩, List.mem_of_getElem? (i := 975) (by decide +kernel), List.mem_of_getElem? (i := 1142) (by decide +kernel), List.mem_of_getElem? (i := 1143) (by decide +kernel)⟩
theorem lw_p13 : lw_okq (⟨"PaperedOverModel", "must", "(Z)V"⟩, 29) := ⟨⟨by decide +kernel, by decide +kernel⟩, List.mem_of_getElem? (i := 975) (by decide +kernel), List.mem_of_getElem? (i := 1146) (by decide +kernel), List.mem_of_getElem? (i := 1147) (by decide +kernel)⟩
theorem lw_p14 : lw_okq (⟨"PaperedOverModel", "number", "(II)I"⟩, 29) := ⟨⟨by decide +kernel, by decide +kernel⟩, List.mem_of_getElem? (i := 975) (by decide +kernel), List.mem_of_getElem? (i := 1150) (by decide +kernel), List.mem_of_getElem? (i := 1151) (by decide +kernel)⟩
theorem lw_p15 : lw_okq (⟨"PaperedOverModel", "figures", "()I"⟩, 29) := ⟨⟨by decide +kernel, by decide +kernel⟩, List.mem_of_getElem? (i := 975) (by decide +kernel), List.mem_of_getElem? (i := 1154) (by decide +kernel), List.mem_of_getElem? (i := 1155) (by decide +kernel)⟩
def lw_privs_1 : List (MethodName × Nat) := [(⟨"PaperedOver", "found", "(I)I"⟩, 13), (⟨"PaperedOver", "clean", "(I)I"⟩, 13), (⟨"PaperedOver", "learnAnew", "()V"⟩, 13), (⟨"PaperedOver", "areUnlikePapers", "(III)Z"⟩, 13), (⟨"PaperedOver", "isSeen", "(I)Z"⟩, 13), (⟨"PaperedOverModel", "finding", "(I)I"⟩, 29), (⟨"PaperedOverModel", "begin", "()V"⟩, 29), (⟨"PaperedOverModel", "nextToken", "()V"⟩, 29), (⟨"PaperedOverModel", "byteAt", "(I)I"⟩, 29), (⟨"PaperedOverModel", "name", "()J"⟩, 29), (⟨"PaperedOverModel", "bad", "(I)V"⟩, 29), (⟨"PaperedOverModel", "readWall", "()V"⟩, 29), (⟨"PaperedOverModel", "begins", "(II)V"⟩, 29), (⟨"PaperedOverModel", "must", "(Z)V"⟩, 29), (⟨"PaperedOverModel", "number", "(II)I"⟩, 29), (⟨"PaperedOverModel", "figures", "()I"⟩, 29)]
theorem lw_r1 : ∀ q ∈ lw_privs_1, lw_okq q := List.forall_mem_cons.mpr ⟨lw_p0, List.forall_mem_cons.mpr ⟨lw_p1, List.forall_mem_cons.mpr ⟨lw_p2, List.forall_mem_cons.mpr ⟨lw_p3, List.forall_mem_cons.mpr ⟨lw_p4, List.forall_mem_cons.mpr ⟨lw_p5, List.forall_mem_cons.mpr ⟨lw_p6, List.forall_mem_cons.mpr ⟨lw_p7, List.forall_mem_cons.mpr ⟨lw_p8, List.forall_mem_cons.mpr ⟨lw_p9, List.forall_mem_cons.mpr ⟨lw_p10, List.forall_mem_cons.mpr ⟨lw_p11, List.forall_mem_cons.mpr ⟨lw_p12, List.forall_mem_cons.mpr ⟨lw_p13, List.forall_mem_cons.mpr ⟨lw_p14, List.forall_mem_cons.mpr ⟨lw_p15, fun _ h => absurd h List.not_mem_nil⟩⟩⟩⟩⟩⟩⟩⟩⟩⟩⟩⟩⟩⟩⟩⟩
theorem lw_p16 : lw_okq (⟨"PaperedOverModel", "mustEnd", "()V"⟩, 29) := ⟨⟨by decide +kernel, by decide +kernel⟩, List.mem_of_getElem? (i := 975) (by decide +kernel), List.mem_of_getElem? (i := 1158) (by decide +kernel), List.mem_of_getElem? (i := 1159) (by decide +kernel)⟩
theorem lw_p17 : lw_okq (⟨"PaperedOverModel", "readPaper", "()V"⟩, 29) := ⟨⟨by decide +kernel, by decide +kernel⟩, List.mem_of_getElem? (i := 975) (by decide +kernel), List.mem_of_getElem? (i := 1163) (by decide +kernel), List.mem_of_getElem? (i := 1164) (by decide +kernel)⟩
theorem lw_p18 : lw_okq (⟨"PaperedOverModel", "readTenant", "()V"⟩, 29) := ⟨⟨by decide +kernel, by decide +kernel⟩, List.mem_of_getElem? (i := 975) (by decide +kernel), List.mem_of_getElem? (i := 1176) (by decide +kernel), List.mem_of_getElem? (i := 1177) (by decide +kernel)⟩
theorem lw_p19 : lw_okq (⟨"PaperedOverModel", "laySpots", "()V"⟩, 29) := ⟨⟨by decide +kernel, by decide +kernel⟩, List.mem_of_getElem? (i := 975) (by decide +kernel), List.mem_of_getElem? (i := 1181) (by decide +kernel), List.mem_of_getElem? (i := 1182) (by decide +kernel)⟩
theorem lw_p20 : lw_okq (⟨"PaperedOverModel", "manyAt", "(I)I"⟩, 29) := ⟨⟨by decide +kernel, by decide +kernel⟩, List.mem_of_getElem? (i := 975) (by decide +kernel), List.mem_of_getElem? (i := 1185) (by decide +kernel), List.mem_of_getElem? (i := 1186) (by decide +kernel)⟩
theorem lw_p21 : lw_okq (⟨"PaperedOverModel", "lies", "(II)I"⟩, 29) := ⟨⟨by decide +kernel, by decide +kernel⟩, List.mem_of_getElem? (i := 975) (by decide +kernel), List.mem_of_getElem? (i := 1189) (by decide +kernel), List.mem_of_getElem? (i := 1190) (by decide +kernel)⟩
theorem lw_p22 : lw_okq (⟨"PaperedOverModel", "wallOf", "(I)I"⟩, 29) := ⟨⟨by decide +kernel, by decide +kernel⟩, List.mem_of_getElem? (i := 975) (by decide +kernel), List.mem_of_getElem? (i := 1193) (by decide +kernel), List.mem_of_getElem? (i := 1194) (by decide +kernel)⟩
theorem lw_p23 : lw_okq (⟨"PaperedOverModel", "laySure", "()V"⟩, 29) := ⟨⟨by decide +kernel, by decide +kernel⟩, List.mem_of_getElem? (i := 975) (by decide +kernel), List.mem_of_getElem? (i := 1197) (by decide +kernel), List.mem_of_getElem? (i := 1198) (by decide +kernel)⟩
theorem lw_p24 : lw_okq (⟨"PaperedOverModel", "isWall", "(I)Z"⟩, 29) := ⟨⟨by decide +kernel, by decide +kernel⟩, List.mem_of_getElem? (i := 975) (by decide +kernel), List.mem_of_getElem? (i := 1209) (by decide +kernel), List.mem_of_getElem? (i := 1210) (by decide +kernel)⟩
theorem lw_p25 : lw_okq (⟨"PaperedOverModel", "lack", "(III)I"⟩, 29) := ⟨⟨by decide +kernel, by decide +kernel⟩, List.mem_of_getElem? (i := 975) (by decide +kernel), List.mem_of_getElem? (i := 1213) (by decide +kernel), List.mem_of_getElem? (i := 1214) (by decide +kernel)⟩
theorem lw_p26 : lw_okq (⟨"PaperedOverModel", "isPaper", "(I)Z"⟩, 29) := ⟨⟨by decide +kernel, by decide +kernel⟩, List.mem_of_getElem? (i := 975) (by decide +kernel), List.mem_of_getElem? (i := 1217) (by decide +kernel), List.mem_of_getElem? (i := 1218) (by decide +kernel)⟩
theorem lw_p27 : lw_okq (⟨"PaperedOverModel", "isSpot", "(I)Z"⟩, 29) := ⟨⟨by decide +kernel, by decide +kernel⟩, List.mem_of_getElem? (i := 975) (by decide +kernel), List.mem_of_getElem? (i := 1233) (by decide +kernel), List.mem_of_getElem? (i := 1234) (by decide +kernel)⟩
theorem lw_p28 : lw_okq (⟨"PaperedOverModel", "inRings", "()I"⟩, 29) := ⟨⟨by decide +kernel, by decide +kernel⟩, List.mem_of_getElem? (i := 975) (by decide +kernel), List.mem_of_getElem? (i := 1241) (by decide +kernel), List.mem_of_getElem? (i := 1242) (by decide +kernel)⟩
theorem lw_p29 : lw_okq (⟨"PaperedOverModel", "of", "(II)I"⟩, 29) := ⟨⟨by decide +kernel, by decide +kernel⟩, List.mem_of_getElem? (i := 975) (by decide +kernel), List.mem_of_getElem? (i := 1250) (by decide +kernel), List.mem_of_getElem? (i := 1251) (by decide +kernel)⟩
theorem lw_p30 : lw_okq (⟨"PaperedOverModel", "ordersWith", "(II)I"⟩, 29) := ⟨⟨by decide +kernel, by decide +kernel⟩, List.mem_of_getElem? (i := 975) (by decide +kernel), List.mem_of_getElem? (i := 1258) (by decide +kernel), List.mem_of_getElem? (i := 1259) (by decide +kernel)⟩
theorem lw_p31 : lw_okq (⟨"PaperedOverModel", "isSeen", "(I)Z"⟩, 29) := ⟨⟨by decide +kernel, by decide +kernel⟩, List.mem_of_getElem? (i := 975) (by decide +kernel), List.mem_of_getElem? (i := 1270) (by decide +kernel), List.mem_of_getElem? (i := 1271) (by decide +kernel)⟩
def lw_privs_2 : List (MethodName × Nat) := [(⟨"PaperedOverModel", "mustEnd", "()V"⟩, 29), (⟨"PaperedOverModel", "readPaper", "()V"⟩, 29), (⟨"PaperedOverModel", "readTenant", "()V"⟩, 29), (⟨"PaperedOverModel", "laySpots", "()V"⟩, 29), (⟨"PaperedOverModel", "manyAt", "(I)I"⟩, 29), (⟨"PaperedOverModel", "lies", "(II)I"⟩, 29), (⟨"PaperedOverModel", "wallOf", "(I)I"⟩, 29), (⟨"PaperedOverModel", "laySure", "()V"⟩, 29), (⟨"PaperedOverModel", "isWall", "(I)Z"⟩, 29), (⟨"PaperedOverModel", "lack", "(III)I"⟩, 29), (⟨"PaperedOverModel", "isPaper", "(I)Z"⟩, 29), (⟨"PaperedOverModel", "isSpot", "(I)Z"⟩, 29), (⟨"PaperedOverModel", "inRings", "()I"⟩, 29), (⟨"PaperedOverModel", "of", "(II)I"⟩, 29), (⟨"PaperedOverModel", "ordersWith", "(II)I"⟩, 29), (⟨"PaperedOverModel", "isSeen", "(I)Z"⟩, 29)]
theorem lw_r2 : ∀ q ∈ lw_privs_2, lw_okq q := List.forall_mem_cons.mpr ⟨lw_p16, List.forall_mem_cons.mpr ⟨lw_p17, List.forall_mem_cons.mpr ⟨lw_p18, List.forall_mem_cons.mpr ⟨lw_p19, List.forall_mem_cons.mpr ⟨lw_p20, List.forall_mem_cons.mpr ⟨lw_p21, List.forall_mem_cons.mpr ⟨lw_p22, List.forall_mem_cons.mpr ⟨lw_p23, List.forall_mem_cons.mpr ⟨lw_p24, List.forall_mem_cons.mpr ⟨lw_p25, List.forall_mem_cons.mpr ⟨lw_p26, List.forall_mem_cons.mpr ⟨lw_p27, List.forall_mem_cons.mpr ⟨lw_p28, List.forall_mem_cons.mpr ⟨lw_p29, List.forall_mem_cons.mpr ⟨lw_p30, List.forall_mem_cons.mpr ⟨lw_p31, fun _ h => absurd h List.not_mem_nil⟩⟩⟩⟩⟩⟩⟩⟩⟩⟩⟩⟩⟩⟩⟩⟩
theorem lw_p32 : lw_okq (⟨"PaperedOverModel", "layYears", "()V"⟩, 29) := ⟨⟨by decide +kernel, by decide +kernel⟩, List.mem_of_getElem? (i := 975) (by decide +kernel), List.mem_of_getElem? (i := 1285) (by decide +kernel), List.mem_of_getElem? (i := 1286) (by decide +kernel)⟩
theorem lw_p33 : lw_okq (⟨"PaperedOverModel", "wall", "(II)I"⟩, 29) := ⟨⟨by decide +kernel, by decide +kernel⟩, List.mem_of_getElem? (i := 975) (by decide +kernel), List.mem_of_getElem? (i := 1289) (by decide +kernel), List.mem_of_getElem? (i := 1290) (by decide +kernel)⟩
theorem lw_p34 : lw_okq (⟨"PaperedOverModel", "tellsBy", "(II)Z"⟩, 29) := ⟨⟨by decide +kernel, by decide +kernel⟩, List.mem_of_getElem? (i := 975) (by decide +kernel), List.mem_of_getElem? (i := 1318) (by decide +kernel), List.mem_of_getElem? (i := 1319) (by decide +kernel)⟩
theorem lw_p35 : lw_okq (⟨"PaperedOverModel", "painted", "(II)I"⟩, 29) := ⟨⟨by decide +kernel, by decide +kernel⟩, List.mem_of_getElem? (i := 975) (by decide +kernel), List.mem_of_getElem? (i := 1326) (by decide +kernel), List.mem_of_getElem? (i := 1327) (by decide +kernel)⟩
theorem lw_p36 : lw_okq (⟨"PaperedOverModel", "sizeOf", "(I)I"⟩, 29) := ⟨⟨by decide +kernel, by decide +kernel⟩, List.mem_of_getElem? (i := 975) (by decide +kernel), List.mem_of_getElem? (i := 1354) (by decide +kernel), List.mem_of_getElem? (i := 1355) (by decide +kernel)⟩
theorem lw_p37 : lw_okq (⟨"PaperedOverModel", "plainSize", "(I)I"⟩, 29) := ⟨⟨by decide +kernel, by decide +kernel⟩, List.mem_of_getElem? (i := 975) (by decide +kernel), List.mem_of_getElem? (i := 1358) (by decide +kernel), List.mem_of_getElem? (i := 1359) (by decide +kernel)⟩
theorem lw_p38 : lw_okq (⟨"PaperedOverModel", "began", "(I)V"⟩, 29) := ⟨⟨by decide +kernel, by decide +kernel⟩, List.mem_of_getElem? (i := 975) (by decide +kernel), List.mem_of_getElem? (i := 1362) (by decide +kernel), List.mem_of_getElem? (i := 1363) (by decide +kernel)⟩
theorem lw_p39 : lw_okq (⟨"PaperedOverModel", "markOf", "(I)I"⟩, 29) := ⟨⟨by decide +kernel, by decide +kernel⟩, List.mem_of_getElem? (i := 975) (by decide +kernel), List.mem_of_getElem? (i := 1366) (by decide +kernel), List.mem_of_getElem? (i := 1367) (by decide +kernel)⟩
def lw_privs_3 : List (MethodName × Nat) := [(⟨"PaperedOverModel", "layYears", "()V"⟩, 29), (⟨"PaperedOverModel", "wall", "(II)I"⟩, 29), (⟨"PaperedOverModel", "tellsBy", "(II)Z"⟩, 29), (⟨"PaperedOverModel", "painted", "(II)I"⟩, 29), (⟨"PaperedOverModel", "sizeOf", "(I)I"⟩, 29), (⟨"PaperedOverModel", "plainSize", "(I)I"⟩, 29), (⟨"PaperedOverModel", "began", "(I)V"⟩, 29), (⟨"PaperedOverModel", "markOf", "(I)I"⟩, 29)]
theorem lw_r3 : ∀ q ∈ lw_privs_3, lw_okq q := List.forall_mem_cons.mpr ⟨lw_p32, List.forall_mem_cons.mpr ⟨lw_p33, List.forall_mem_cons.mpr ⟨lw_p34, List.forall_mem_cons.mpr ⟨lw_p35, List.forall_mem_cons.mpr ⟨lw_p36, List.forall_mem_cons.mpr ⟨lw_p37, List.forall_mem_cons.mpr ⟨lw_p38, List.forall_mem_cons.mpr ⟨lw_p39, fun _ h => absurd h List.not_mem_nil⟩⟩⟩⟩⟩⟩⟩⟩
def lw_privs : List (MethodName × Nat) := lw_privs_1 ++ (lw_privs_2 ++ (lw_privs_3))
def lw_tbl : List Cond := k2_sels lw_privs ++ tables_1
theorem lw_privs_ok : ∀ q ∈ lw_privs, lw_okq q := by
  show ∀ q ∈ lw_privs_1 ++ (lw_privs_2 ++ (lw_privs_3)), lw_okq q
  exact List.forall_mem_append.mpr ⟨lw_r1, List.forall_mem_append.mpr ⟨lw_r2, lw_r3⟩⟩
end
section
def rc_0 : String := "PaperedOver"
def tc_0 : u_T := fun k => match k with
  | 0 => ("PaperedOver", "rows", "LPaperedOver$Rows;", true)
  | 1 => ("PaperedOver", "tape", "LPaperedOver$Tape;", true)
  | 2 => ("PaperedOver", "reader", "LPaperedOver$Reader;", true)
  | 3 => ("PaperedOver", "house", "LPaperedOver$House;", true)
  | 4 => ("PaperedOver", "spots", "LPaperedOver$Spots;", true)
  | 5 => ("PaperedOver", "imageA", "LPaperedOver$Image;", true)
  | 6 => ("PaperedOver", "imageB", "LPaperedOver$Image;", true)
  | 7 => ("PaperedOver", "facts", "LPaperedOver$Facts;", true)
  | 8 => ("PaperedOver", "parted", "LPaperedOver$Orders;", true)
  | 9 => ("PaperedOver", "cutter", "LPaperedOver$Cutter;", true)
  | 10 => ("PaperedOver", "bodies", "LPaperedOver$Bodies;", true)
  | 11 => ("PaperedOver", "latestFault", "I", false)
  | _ => ("PaperedOver", "latestFinding", "I", false)
def yc_0 : Nat → FieldType := fun k => match k with
  | 0 => .object "PaperedOver$Rows"
  | 1 => .object "PaperedOver$Tape"
  | 2 => .object "PaperedOver$Reader"
  | 3 => .object "PaperedOver$House"
  | 4 => .object "PaperedOver$Spots"
  | 5 => .object "PaperedOver$Image"
  | 6 => .object "PaperedOver$Image"
  | 7 => .object "PaperedOver$Facts"
  | 8 => .object "PaperedOver$Orders"
  | 9 => .object "PaperedOver$Cutter"
  | 10 => .object "PaperedOver$Bodies"
  | 11 => .int
  | _ => .int
theorem nc_0 : ∀ a, a < 13 → ∀ b, b < 13 → a ≠ b → (tc_0 a).2.1 ≠ (tc_0 b).2.1 := by decide +kernel
theorem yo_0 : ∀ k, k < 13 → parseFieldDescriptor (tc_0 k).2.2.1 = some (yc_0 k) := by decide +kernel
def rc_1 : String := "PaperedOver$Rows"
def tc_1 : u_T := fun k => match k with
  | 0 => ("PaperedOver$Rows", "there", "[Z", true)
  | 1 => ("PaperedOver$Rows", "lanes", "[I", true)
  | 2 => ("PaperedOver$Rows", "sizes", "[I", true)
  | _ => ("PaperedOver$Rows", "items", "[I", true)
def yc_1 : Nat → FieldType := fun k => match k with
  | 0 => .array .boolean
  | 1 => .array .int
  | 2 => .array .int
  | _ => .array .int
theorem nc_1 : ∀ a, a < 4 → ∀ b, b < 4 → a ≠ b → (tc_1 a).2.1 ≠ (tc_1 b).2.1 := by decide +kernel
theorem yo_1 : ∀ k, k < 4 → parseFieldDescriptor (tc_1 k).2.2.1 = some (yc_1 k) := by decide +kernel
def rc_2 : String := "PaperedOver$Tape"
def tc_2 : u_T := fun k => match k with
  | 0 => ("PaperedOver$Tape", "bytes", "[I", true)
  | _ => ("PaperedOver$Tape", "length", "I", false)
def yc_2 : Nat → FieldType := fun k => match k with
  | 0 => .array .int
  | _ => .int
theorem nc_2 : ∀ a, a < 2 → ∀ b, b < 2 → a ≠ b → (tc_2 a).2.1 ≠ (tc_2 b).2.1 := by decide +kernel
theorem yo_2 : ∀ k, k < 2 → parseFieldDescriptor (tc_2 k).2.2.1 = some (yc_2 k) := by decide +kernel
def rc_3 : String := "PaperedOver$Reader"
def tc_3 : u_T := fun k => match k with
  | 0 => ("PaperedOver$Reader", "tape", "LPaperedOver$Tape;", true)
  | 1 => ("PaperedOver$Reader", "draft", "LPaperedOver$House;", true)
  | 2 => ("PaperedOver$Reader", "sort", "I", false)
  | 3 => ("PaperedOver$Reader", "begin", "I", false)
  | 4 => ("PaperedOver$Reader", "end", "I", false)
  | 5 => ("PaperedOver$Reader", "value", "I", false)
  | 6 => ("PaperedOver$Reader", "fault", "I", false)
  | _ => ("PaperedOver$Reader", "place", "I", false)
def yc_3 : Nat → FieldType := fun k => match k with
  | 0 => .object "PaperedOver$Tape"
  | 1 => .object "PaperedOver$House"
  | 2 => .int
  | 3 => .int
  | 4 => .int
  | 5 => .int
  | 6 => .int
  | _ => .int
theorem nc_3 : ∀ a, a < 8 → ∀ b, b < 8 → a ≠ b → (tc_3 a).2.1 ≠ (tc_3 b).2.1 := by decide +kernel
theorem yo_3 : ∀ k, k < 8 → parseFieldDescriptor (tc_3 k).2.2.1 = some (yc_3 k) := by decide +kernel
def rc_4 : String := "PaperedOver$House"
def tc_4 : u_T := fun k => match k with
  | 0 => ("PaperedOver$House", "walls", "I", false)
  | 1 => ("PaperedOver$House", "built", "[I", true)
  | 2 => ("PaperedOver$House", "wide", "[I", true)
  | 3 => ("PaperedOver$House", "high", "[I", true)
  | 4 => ("PaperedOver$House", "papers", "I", false)
  | 5 => ("PaperedOver$House", "kinds", "[I", true)
  | 6 => ("PaperedOver$House", "made", "[I", true)
  | 7 => ("PaperedOver$House", "last", "[I", true)
  | 8 => ("PaperedOver$House", "prices", "[I", true)
  | 9 => ("PaperedOver$House", "repeats", "[I", true)
  | 10 => ("PaperedOver$House", "tenants", "I", false)
  | 11 => ("PaperedOver$House", "from", "[I", true)
  | 12 => ("PaperedOver$House", "to", "[I", true)
  | _ => ("PaperedOver$House", "means", "[I", true)
def yc_4 : Nat → FieldType := fun k => match k with
  | 0 => .int
  | 1 => .array .int
  | 2 => .array .int
  | 3 => .array .int
  | 4 => .int
  | 5 => .array .int
  | 6 => .array .int
  | 7 => .array .int
  | 8 => .array .int
  | 9 => .array .int
  | 10 => .int
  | 11 => .array .int
  | 12 => .array .int
  | _ => .array .int
theorem nc_4 : ∀ a, a < 14 → ∀ b, b < 14 → a ≠ b → (tc_4 a).2.1 ≠ (tc_4 b).2.1 := by decide +kernel
theorem yo_4 : ∀ k, k < 14 → parseFieldDescriptor (tc_4 k).2.2.1 = some (yc_4 k) := by decide +kernel
def rc_5 : String := "PaperedOver$Spots"
def tc_5 : u_T := fun k => match k with
  | 0 => ("PaperedOver$Spots", "number", "I", false)
  | 1 => ("PaperedOver$Spots", "walls", "[I", true)
  | 2 => ("PaperedOver$Spots", "depths", "[I", true)
  | _ => ("PaperedOver$Spots", "layers", "[I", true)
def yc_5 : Nat → FieldType := fun k => match k with
  | 0 => .int
  | 1 => .array .int
  | 2 => .array .int
  | _ => .array .int
theorem nc_5 : ∀ a, a < 4 → ∀ b, b < 4 → a ≠ b → (tc_5 a).2.1 ≠ (tc_5 b).2.1 := by decide +kernel
theorem yo_5 : ∀ k, k < 4 → parseFieldDescriptor (tc_5 k).2.2.1 = some (yc_5 k) := by decide +kernel
def rc_6 : String := "PaperedOver$Image"
def tc_6 : u_T := fun k => match k with
  | 0 => ("PaperedOver$Image", "house", "LPaperedOver$House;", true)
  | _ => ("PaperedOver$Image", "spots", "LPaperedOver$Spots;", true)
def yc_6 : Nat → FieldType := fun k => match k with
  | 0 => .object "PaperedOver$House"
  | _ => .object "PaperedOver$Spots"
theorem nc_6 : ∀ a, a < 2 → ∀ b, b < 2 → a ≠ b → (tc_6 a).2.1 ≠ (tc_6 b).2.1 := by decide +kernel
theorem yo_6 : ∀ k, k < 2 → parseFieldDescriptor (tc_6 k).2.2.1 = some (yc_6 k) := by decide +kernel
def rc_7 : String := "PaperedOver$Facts"
def tc_7 : u_T := fun k => match k with
  | 0 => ("PaperedOver$Facts", "house", "LPaperedOver$House;", true)
  | 1 => ("PaperedOver$Facts", "spots", "LPaperedOver$Spots;", true)
  | 2 => ("PaperedOver$Facts", "seen", "I", false)
  | 3 => ("PaperedOver$Facts", "ring", "I", false)
  | 4 => ("PaperedOver$Facts", "on", "[I", true)
  | 5 => ("PaperedOver$Facts", "ahead", "[I", true)
  | 6 => ("PaperedOver$Facts", "sure", "[I", true)
  | 7 => ("PaperedOver$Facts", "earliest", "[I", true)
  | 8 => ("PaperedOver$Facts", "placed", "I", false)
  | 9 => ("PaperedOver$Facts", "least", "[I", true)
  | _ => ("PaperedOver$Facts", "most", "[I", true)
def yc_7 : Nat → FieldType := fun k => match k with
  | 0 => .object "PaperedOver$House"
  | 1 => .object "PaperedOver$Spots"
  | 2 => .int
  | 3 => .int
  | 4 => .array .int
  | 5 => .array .int
  | 6 => .array .int
  | 7 => .array .int
  | 8 => .int
  | 9 => .array .int
  | _ => .array .int
theorem nc_7 : ∀ a, a < 11 → ∀ b, b < 11 → a ≠ b → (tc_7 a).2.1 ≠ (tc_7 b).2.1 := by decide +kernel
theorem yo_7 : ∀ k, k < 11 → parseFieldDescriptor (tc_7 k).2.2.1 = some (yc_7 k) := by decide +kernel
def rc_8 : String := "PaperedOver$Orders"
def tc_8 : u_T := fun k => match k with
  | 0 => ("PaperedOver$Orders", "facts", "LPaperedOver$Facts;", true)
  | 1 => ("PaperedOver$Orders", "counted", "Z", false)
  | 2 => ("PaperedOver$Orders", "begun", "[I", true)
  | 3 => ("PaperedOver$Orders", "ended", "[I", true)
  | _ => ("PaperedOver$Orders", "pairs", "[I", true)
def yc_8 : Nat → FieldType := fun k => match k with
  | 0 => .object "PaperedOver$Facts"
  | 1 => .boolean
  | 2 => .array .int
  | 3 => .array .int
  | _ => .array .int
theorem nc_8 : ∀ a, a < 5 → ∀ b, b < 5 → a ≠ b → (tc_8 a).2.1 ≠ (tc_8 b).2.1 := by decide +kernel
theorem yo_8 : ∀ k, k < 5 → parseFieldDescriptor (tc_8 k).2.2.1 = some (yc_8 k) := by decide +kernel
def rc_9 : String := "PaperedOver$Cutter"
def tc_9 : u_T := fun k => match k with
  | 0 => ("PaperedOver$Cutter", "strips", "I", false)
  | 1 => ("PaperedOver$Cutter", "used", "I", false)
  | _ => ("PaperedOver$Cutter", "left", "I", false)
def yc_9 : Nat → FieldType := fun k => match k with
  | 0 => .int
  | 1 => .int
  | _ => .int
theorem nc_9 : ∀ a, a < 3 → ∀ b, b < 3 → a ≠ b → (tc_9 a).2.1 ≠ (tc_9 b).2.1 := by decide +kernel
theorem yo_9 : ∀ k, k < 3 → parseFieldDescriptor (tc_9 k).2.2.1 = some (yc_9 k) := by decide +kernel
def rc_10 : String := "PaperedOver$Bodies"
def tc_10 : u_T := fun k => match k with
  | 0 => ("PaperedOver$Bodies", "trace", "[I", true)
  | _ => ("PaperedOver$Bodies", "begun", "I", false)
def yc_10 : Nat → FieldType := fun k => match k with
  | 0 => .array .int
  | _ => .int
theorem nc_10 : ∀ a, a < 2 → ∀ b, b < 2 → a ≠ b → (tc_10 a).2.1 ≠ (tc_10 b).2.1 := by decide +kernel
theorem yo_10 : ∀ k, k < 2 → parseFieldDescriptor (tc_10 k).2.2.1 = some (yc_10 k) := by decide +kernel
def rc_11 : String := "PaperedOverModel"
def tc_11 : u_T := fun k => match k with
  | 0 => ("PaperedOverModel", "thrown", "I", false)
  | 1 => ("PaperedOverModel", "status", "I", false)
  | 2 => ("PaperedOverModel", "lane", "[I", true)
  | 3 => ("PaperedOverModel", "many", "[I", true)
  | 4 => ("PaperedOverModel", "item", "[I", true)
  | 5 => ("PaperedOverModel", "house", "[I", true)
  | 6 => ("PaperedOverModel", "fresh", "[I", true)
  | 7 => ("PaperedOverModel", "isThere", "Z", false)
  | 8 => ("PaperedOverModel", "tape", "[I", true)
  | 9 => ("PaperedOverModel", "taped", "I", false)
  | 10 => ("PaperedOverModel", "latest", "I", false)
  | 11 => ("PaperedOverModel", "length", "I", false)
  | 12 => ("PaperedOverModel", "cursor", "I", false)
  | 13 => ("PaperedOverModel", "token", "I", false)
  | 14 => ("PaperedOverModel", "start", "I", false)
  | 15 => ("PaperedOverModel", "till", "I", false)
  | 16 => ("PaperedOverModel", "fault", "I", false)
  | 17 => ("PaperedOverModel", "faultAt", "I", false)
  | 18 => ("PaperedOverModel", "seen", "I", false)
  | 19 => ("PaperedOverModel", "on", "[I", true)
  | 20 => ("PaperedOverModel", "ahead", "[I", true)
  | 21 => ("PaperedOverModel", "sure", "[I", true)
  | 22 => ("PaperedOverModel", "ways", "[I", true)
  | 23 => ("PaperedOverModel", "least", "[I", true)
  | 24 => ("PaperedOverModel", "most", "[I", true)
  | 25 => ("PaperedOverModel", "isKept", "[Z", true)
  | 26 => ("PaperedOverModel", "kept", "[I", true)
  | 27 => ("PaperedOverModel", "trace", "[I", true)
  | _ => ("PaperedOverModel", "traced", "I", false)
def yc_11 : Nat → FieldType := fun k => match k with
  | 0 => .int
  | 1 => .int
  | 2 => .array .int
  | 3 => .array .int
  | 4 => .array .int
  | 5 => .array .int
  | 6 => .array .int
  | 7 => .boolean
  | 8 => .array .int
  | 9 => .int
  | 10 => .int
  | 11 => .int
  | 12 => .int
  | 13 => .int
  | 14 => .int
  | 15 => .int
  | 16 => .int
  | 17 => .int
  | 18 => .int
  | 19 => .array .int
  | 20 => .array .int
  | 21 => .array .int
  | 22 => .array .int
  | 23 => .array .int
  | 24 => .array .int
  | 25 => .array .boolean
  | 26 => .array .int
  | 27 => .array .int
  | _ => .int
theorem nc_11 : ∀ a, a < 29 → ∀ b, b < 29 → a ≠ b → (tc_11 a).2.1 ≠ (tc_11 b).2.1 := by decide +kernel
theorem yo_11 : ∀ k, k < 29 → parseFieldDescriptor (tc_11 k).2.2.1 = some (yc_11 k) := by decide +kernel
def am_cls : List vw_C := [(rc_0, tc_0, 13), (rc_1, tc_1, 4), (rc_2, tc_2, 2), (rc_3, tc_3, 8), (rc_4, tc_4, 14), (rc_5, tc_5, 4), (rc_6, tc_6, 2), (rc_7, tc_7, 11), (rc_8, tc_8, 5), (rc_9, tc_9, 3), (rc_10, tc_10, 2), (rc_11, tc_11, 29)]
/-- of each kind the fields of its object: a number, or the cell that it always holds -/
def am_ob : Nat → List (Option (Nat → Nat × Nat × Nat))
  | 0 => [some (fun j => (1, 0, 0)), some (fun j => (2, 0, 0)), some (fun j => (3, 0, 0)), some (fun j => (4, 0, 0)), some (fun j => (5, 0, 0)), some (fun j => (6, 0, 0)), some (fun j => (6, 1, 0)), some (fun j => (7, 0, 0)), some (fun j => (8, 0, 0)), some (fun j => (9, 0, 0)), some (fun j => (10, 0, 0)), none, none]
  | 1 => [some (fun j => (1, j, 1)), some (fun j => (1, j, 2)), some (fun j => (1, j, 3)), some (fun j => (1, j, 4))]
  | 2 => [some (fun j => (2, j, 1)), none]
  | 3 => [some (fun j => (2, 0, 0)), some (fun j => (4, 1, 0)), none, none, none, none, none, none]
  | 4 => [none, some (fun j => (4, j, 1)), some (fun j => (4, j, 2)), some (fun j => (4, j, 3)), none, some (fun j => (4, j, 4)), some (fun j => (4, j, 5)), some (fun j => (4, j, 6)), some (fun j => (4, j, 7)), some (fun j => (4, j, 8)), none, some (fun j => (4, j, 9)), some (fun j => (4, j, 10)), some (fun j => (4, j, 11))]
  | 5 => [none, some (fun j => (5, j, 1)), some (fun j => (5, j, 2)), some (fun j => (5, j, 3))]
  | 6 => [some (fun j => (4, 2 + j, 0)), some (fun j => (5, 1 + j, 0))]
  | 7 => [some (fun j => (4, 0, 0)), some (fun j => (5, 0, 0)), none, none, some (fun j => (7, j, 1)), some (fun j => (7, j, 2)), some (fun j => (7, j, 3)), some (fun j => (7, j, 4)), none, some (fun j => (7, j, 5)), some (fun j => (7, j, 6))]
  | 8 => [some (fun j => (7, 0, 0)), none, some (fun j => (8, j, 1)), some (fun j => (8, j, 2)), some (fun j => (8, j, 3))]
  | 9 => [none, none, none]
  | 10 => [some (fun j => (10, j, 1)), none]
  | 11 => [none, none, some (fun j => (11, j, 1)), some (fun j => (11, j, 2)), some (fun j => (11, j, 3)), some (fun j => (11, j, 4)), some (fun j => (11, j, 5)), none, some (fun j => (11, j, 6)), none, none, none, none, none, none, none, none, none, none, some (fun j => (11, j, 7)), some (fun j => (11, j, 8)), some (fun j => (11, j, 9)), some (fun j => (11, j, 10)), some (fun j => (11, j, 11)), some (fun j => (11, j, 12)), some (fun j => (11, j, 13)), some (fun j => (11, j, 14)), some (fun j => (11, j, 15)), none]
  | _ => []
/-- of each kind its arrays: whether of booleans, and how long -/
def am_ar : Nat → List (Bool × Nat)
  | 1 => [(true, 8), (false, 8), (false, 8), (false, 320)]
  | 2 => [(false, 500)]
  | 4 => [(false, 8), (false, 8), (false, 8), (false, 10), (false, 10), (false, 10), (false, 10), (false, 10), (false, 10), (false, 10), (false, 10)]
  | 5 => [(false, 9), (false, 9), (false, 72)]
  | 7 => [(false, 8), (false, 10), (false, 10), (false, 10), (false, 10), (false, 10)]
  | 8 => [(false, 1024), (false, 1024), (false, 100)]
  | 10 => [(false, 16)]
  | 11 => [(false, 8), (false, 8), (false, 320), (false, 198), (false, 198), (false, 500), (false, 8), (false, 10), (false, 10), (false, 1024), (false, 10), (false, 10), (true, 2), (false, 396), (false, 16)]
  | _ => []
/-- all cells -/
def am_all : List (Nat × Nat × Nat) := [(0, 0, 0), (1, 0, 0), (1, 0, 1), (1, 0, 2), (1, 0, 3), (1, 0, 4), (2, 0, 0), (2, 0, 1), (3, 0, 0), (4, 0, 0), (4, 0, 1), (4, 0, 2), (4, 0, 3), (4, 0, 4), (4, 0, 5), (4, 0, 6), (4, 0, 7), (4, 0, 8), (4, 0, 9), (4, 0, 10), (4, 0, 11), (4, 1, 0), (4, 1, 1), (4, 1, 2), (4, 1, 3), (4, 1, 4), (4, 1, 5), (4, 1, 6), (4, 1, 7), (4, 1, 8), (4, 1, 9), (4, 1, 10), (4, 1, 11), (4, 2, 0), (4, 2, 1), (4, 2, 2), (4, 2, 3), (4, 2, 4), (4, 2, 5), (4, 2, 6), (4, 2, 7), (4, 2, 8), (4, 2, 9), (4, 2, 10), (4, 2, 11), (4, 3, 0), (4, 3, 1), (4, 3, 2), (4, 3, 3), (4, 3, 4), (4, 3, 5), (4, 3, 6), (4, 3, 7), (4, 3, 8), (4, 3, 9), (4, 3, 10), (4, 3, 11), (5, 0, 0), (5, 0, 1), (5, 0, 2), (5, 0, 3), (5, 1, 0), (5, 1, 1), (5, 1, 2), (5, 1, 3), (5, 2, 0), (5, 2, 1), (5, 2, 2), (5, 2, 3), (6, 0, 0), (6, 1, 0), (7, 0, 0), (7, 0, 1), (7, 0, 2), (7, 0, 3), (7, 0, 4), (7, 0, 5), (7, 0, 6), (8, 0, 0), (8, 0, 1), (8, 0, 2), (8, 0, 3), (9, 0, 0), (10, 0, 0), (10, 0, 1), (11, 0, 0), (11, 0, 1), (11, 0, 2), (11, 0, 3), (11, 0, 4), (11, 0, 5), (11, 0, 6), (11, 0, 7), (11, 0, 8), (11, 0, 9), (11, 0, 10), (11, 0, 11), (11, 0, 12), (11, 0, 13), (11, 0, 14), (11, 0, 15)]
/-- a field that holds a boolean -/
def am_fb (k s : Nat) : Bool := (k == 8 && s == 1) || (k == 11 && s == 7)
end
section
/-! THE ABSTRACT MACHINE: values are numbers and cells named by (kind, which, place); the memory holds numbers alone -/
abbrev am_V : Type := (Nat × Nat × Nat) ⊕ (Int32 ⊕ Int64)
abbrev aR (k j o : Nat) : am_V := Sum.inl (k, j, o)
abbrev aI (x : Int32) : am_V := Sum.inr (Sum.inl x)
abbrev aL (x : Int64) : am_V := Sum.inr (Sum.inr x)
abbrev am_M : Type := Nat → Nat → Nat → Nat → Int32
abbrev am_L : Type := List (Option am_V)
/-- an entry of a pool: a field (kind, slot), a call (method, arguments, receiver's kind), an int, a long, a reference, a field of a text, arraycopy -/
abbrev am_N : Type := (Nat × Nat) ⊕ ((Nat × Nat × Nat) ⊕ (Int32 ⊕ (Int64 ⊕ (am_V ⊕ (Nat ⊕ Unit)))))
abbrev eF (c s : Nat) : am_N := Sum.inl (c, s)
abbrev eC (n a k : Nat) : am_N := Sum.inr (Sum.inl (n, a, k))
abbrev eI (x : Int32) : am_N := Sum.inr (Sum.inr (Sum.inl x))
abbrev eL (x : Int64) : am_N := Sum.inr (Sum.inr (Sum.inr (Sum.inl x)))
abbrev eR (v : am_V) : am_N := Sum.inr (Sum.inr (Sum.inr (Sum.inr (Sum.inl v))))
abbrev eT (n : Nat) : am_N := Sum.inr (Sum.inr (Sum.inr (Sum.inr (Sum.inr (Sum.inl n)))))
abbrev eX : am_N := Sum.inr (Sum.inr (Sum.inr (Sum.inr (Sum.inr (Sum.inr ())))))
/-- a row of code: its place, the instruction, numbers (locals, targets), its entry -/
abbrev am_E : Type := Nat × Instr × List Nat × Option am_N
def sA (M : am_M) (k j o : Nat) (f : Nat → Int32) : am_M := fun a b c => if a = k ∧ b = j ∧ c = o then f else M a b c
/-- static tables and texts -/
def am_sc : Nat → List Int32
  | 0 => [-1, 0, 0, 2, 1, 0]
  | 1 => [10, 11, 13, 14, 12, 10]
  | _ => [20, 21, 22, 22, 24, 23]
def am_sa : Nat → String × String
  | 0 => ("PaperedOver$House", "ALSO")
  | 1 => ("PaperedOver$Bodies", "SIZES")
  | _ => ("PaperedOver$Bodies", "MARKS")
def am_sl : List Nat := [4, 5, 6, 5, 5, 4, 4, 5]
def am_sb : List (List Int32) := [[119, 97, 108, 108], [112, 97, 112, 101, 114], [116, 101, 110, 97, 110, 116], [112, 108, 97, 105, 110], [115, 116, 97, 109, 112], [110, 101, 119, 115], [114, 101, 115, 116], [112, 97, 105, 110, 116]]
def am_si : Nat → Nat
  | 0 => 57 | 1 => 63 | 2 => 65 | 3 => 106 | 4 => 108 | 5 => 110 | 6 => 112 | _ => 114
def am_sx : Nat → String
  | 0 => "wall" | 1 => "paper" | 2 => "tenant" | 3 => "plain" | 4 => "stamp" | 5 => "news" | 6 => "rest" | _ => "paint"
def am_ro : List (Nat × Nat × Nat) := [(12, 0, 0), (12, 0, 1), (12, 0, 2), (13, 0, 0), (13, 0, 1), (13, 0, 2), (13, 0, 3), (13, 0, 4), (13, 0, 5), (13, 0, 6), (13, 0, 7), (14, 0, 0), (14, 0, 1), (14, 0, 2), (14, 0, 3), (14, 0, 4), (14, 0, 5), (14, 0, 6), (14, 0, 7), (15, 0, 0), (16, 0, 0)]
def am_vl : am_V → Prop := fun v => match v with
  | Sum.inl q => q ∈ am_all ∨ q ∈ am_ro
  | Sum.inr _ => True
/-! the machine's values -/
def cv (ad : Nat × Nat × Nat → Nat) (fv : Value) : am_V → Value := fun v => match v with
  | Sum.inl q => if q.1 = 15 then fv else .ref (ad q)
  | Sum.inr (Sum.inl x) => .int x
  | Sum.inr (Sum.inr x) => .long x
def am_fl (ad : Nat × Nat × Nat → Nat) (M : am_M) (k j : Nat) : Nat → List (Option (Nat → Nat × Nat × Nat)) → List Value
  | _, [] => []
  | i, none :: t => .int (M k j 0 i) :: am_fl ad M k j (i + 1) t
  | i, some g :: t => .ref (ad (g j)) :: am_fl ad M k j (i + 1) t
def am_cell (ad : Nat × Nat × Nat → Nat) (cI cZ : ClassId) (M : am_M) (q : Nat × Nat × Nat) : va_E := match q.2.2 with
  | 0 => .inr (q.1, am_fl ad M q.1 q.2.1 0 (am_ob q.1))
  | o + 1 => match (am_ar q.1)[o]? with
    | some bn => .inl (if bn.1 then cZ else cI, bn.2, .inl (M q.1 q.2.1 (o + 1)))
    | none => .inl (cI, 0, .inl (fun _ => 0))
def am_wl (ad : Nat × Nat × Nat → Nat) (cI cZ : ClassId) (M : am_M) : va_W := am_all.map (fun q => (ad q, am_cell ad cI cZ M q))
def am_Af (ad : Nat × Nat × Nat → Nat) : Nat → Prop := fun a => ∃ q, q ∈ am_all ∧ ad q = a
def gtb : List Cond := lw_tbl.filter goodWord
theorem gm {w : Cond} (i : Nat) (h : lw_tbl[i]? = some w) (g : goodWord w = true) : w ∈ gtb := List.mem_filter.mpr ⟨List.mem_of_getElem? h, g⟩
theorem gtb_good : GoodIn gtb gtb := fun w h => ⟨h, good_of_word (List.mem_filter.mp h).2⟩
def am_nw : List Cond := [.methodLinkNest "PaperedOver$Facts" 99 ⟨"PaperedOver", "has", "(II)Z"⟩ "PaperedOver", .methodLinkNest "PaperedOver$Orders" 51 ⟨"PaperedOver", "has", "(II)Z"⟩ "PaperedOver", .methodLinkNest "PaperedOver$House" 81 ⟨"PaperedOver", "has", "(II)Z"⟩ "PaperedOver", .methodLinkNest "PaperedOver$Cutter" 38 ⟨"PaperedOver", "has", "(II)Z"⟩ "PaperedOver", .methodLinkNest "PaperedOver$Cutter" 29 ⟨"PaperedOver", "partsUp", "(II)I"⟩ "PaperedOver"]
def am_Ev (ad : Nat × Nat × Nat → Nat) (fv : Value) (A : Nat → Prop) (U : State) (H : Heap) : Prop :=
  (∀ w ∈ am_nw, va_Nw w U) ∧
  (∀ i, i < 3 → va_Z (am_sa i).1 (am_sa i).2 "[I" (.ref (ad (12, 0, i))) A U H ∧ va_T .int (ad (12, 0, i)) 6 (fun j => .int ((am_sc i).getD j 0)) A U H) ∧
  va_Z "java/lang/String" "COMPACT_STRINGS" "Z" (.int 1) A U H ∧ va_Z "jdk/internal/util/Preconditions" "SIOOBE_FORMATTER" "Ljava/util/function/BiFunction;" fv A U H ∧ (fv = .null ∨ ∃ t : Nat, fv = .ref t) ∧
  vk_S 8 am_sl am_sb (fun i => ad (13, 0, i)) (fun i => ad (14, 0, i)) A U H ∧ ∀ i, i < 8 → vk_R "PaperedOver$Reader" (am_si i) (am_sx i) (ad (13, 0, i)) U
theorem am_nw_warm {s U : State} (hW : s.WarmedH U.vm) (h : ∀ w ∈ am_nw, va_Nw w s) : ∀ w ∈ am_nw, va_Nw w U := by
  intro w hw
  have h1 := h w hw
  simp only [am_nw, List.mem_cons, List.not_mem_nil, or_false] at hw
  rcases hw with rfl | rfl | rfl | rfl | rfl <;> exact va_Nw.warmM hW h1
theorem am_nw_same {s U : State} (hv : s.vm = U.vm) (h : ∀ w ∈ am_nw, va_Nw w s) : ∀ w ∈ am_nw, va_Nw w U := by
  intro w hw
  have h1 := h w hw
  simp only [am_nw, List.mem_cons, List.not_mem_nil, or_false] at hw
  rcases hw with rfl | rfl | rfl | rfl | rfl <;> exact va_Nw.same rfl hv h1
theorem am_Ev.go {ad : Nat × Nat × Nat → Nat} {fv : Value} {A B : Nat → Prop} {s U : State} {H : Heap} {locs : List Loc} (h : am_Ev ad fv A s s.heap) (hS : va_S A s.heap H locs) (hU : U.heap = H) (hW : s.WarmedH U.vm) (hAB : ∀ q, B q → A q) : am_Ev ad fv B U U.heap := by
  obtain ⟨h1, h2, h3, h4, h5, h6, h7⟩ := h
  rw [hU]
  exact ⟨am_nw_warm hW h1, fun i hi => ⟨(((h2 i hi).1.kept hS.2.1).moved hW.alike).narrow hAB, (((h2 i hi).2.kept hS.2.1).moved hW.alike).narrow hAB⟩, ((h3.kept hS.2.1).moved hW.alike).narrow hAB, ((h4.kept hS.2.1).moved hW.alike).narrow hAB, h5, ((h6.kept hS.2.1).moved hW.alike).narrow hAB, fun i hi => (h7 i hi).warm hW⟩
theorem am_Ev.call {ad : Nat × Nat × Nat → Nat} {fv : Value} {A : Nat → Prop} {U : State} {g : JFrame} {mk : MethodId} {a : Array Value} (h : am_Ev ad fv A U U.heap) : am_Ev ad fv A (U.calling g mk a) (U.calling g mk a).heap := by
  obtain ⟨h1, h2, h3, h4, h5, h6, h7⟩ := h
  exact ⟨am_nw_same (s := U) (U := U.calling g mk a) rfl h1, fun i hi => ⟨(h2 i hi).1.moved (Vm.Alike.refl U.vm), (h2 i hi).2.moved (Vm.Alike.refl U.vm)⟩, h3.moved (Vm.Alike.refl U.vm), h4.moved (Vm.Alike.refl U.vm), h5, h6.moved (Vm.Alike.refl U.vm), fun i hi => (h7 i hi).same rfl⟩
/-! contracts -/
abbrev am_T : Type := MethodName × ByteArray × Nat × Option FieldType
def am_rm (d : Nat) : Room := { frames := d, cells := 0, slots := 0, locals := 64 * d }
def am_ws (t : am_T) : List Cond := .code t.1 t.2.1 t.2.2.1 t.2.2.2 :: gtb
def am_B (D : va_G) (ad : Nat × Nat × Nat → Nat) (fv : Value) (cI cZ : ClassId) (M : am_M) (U : State) : Prop :=
  va_P D am_cls (am_wl ad cI cZ M) U.heap ∧ va_D (am_Af ad) (am_wl ad cI cZ M) ∧ va_K D am_cls [(cI, .int), (cZ, .boolean)] U ∧ am_Ev ad fv (am_Af ad) U U.heap
def am_Q (D : va_G) (ad : Nat × Nat × Nat → Nat) (fv : Value) (cI cZ : ClassId) (Po : Option am_V → am_M → Prop) : Array Value → State → Outcome → State → Prop :=
  fun _ st oc t => ∃ (r : Option am_V) (M2 : am_M), Po r M2 ∧ oc = .returned (r.map (cv ad fv)) ∧ va_P D am_cls (am_wl ad cI cZ M2) t.heap ∧ va_F (am_Af ad) st t
/-- a contract: from the memory M the method comes to its end with an answer and a memory as Po wants them -/
def am_Con (d : Nat) (t : am_T) (as : List am_V) (M : am_M) (Po : Option am_V → am_M → Prop) : Prop :=
  ∀ (l : Launch) (D : va_G) (ad : Nat × Nat × Nat → Nat) (fv : Value) (cI cZ : ClassId), (∀ v ∈ as, am_vl v) → Met l t.1 (am_ws t) (am_rm d) (va_Pc (as.map (cv ad fv)) (am_B D ad fv cI cZ M)) (am_Q D ad fv cI cZ Po) 0 0 (am_Af ad)
/-! events -/
def Br (c A B : Prop) : Prop := (c → A) ∧ (¬ c → B)
def Ob (P A : Prop) : Prop := P ∧ A
theorem br_ {c A B : Prop} (a : c → A) (b : ¬ c → B) : Br c A B := ⟨a, b⟩
theorem brt {c A B : Prop} (h : c) (a : A) : Br c A B := ⟨fun _ => a, fun n => absurd h n⟩
theorem brf {c A B : Prop} (h : ¬ c) (b : B) : Br c A B := ⟨fun n => absurd n h, fun _ => b⟩
theorem ob_ {P A : Prop} (p : P) (a : A) : Ob P A := ⟨p, a⟩
end
section
abbrev mBodies_askSize : Nat := 0
def tBodies_askSize : am_T := (⟨"PaperedOver$Bodies", "askSize", "(LPaperedOver$House;I)I"⟩, prog_2_method_2_code, 3, (some FieldType.int))
abbrev mBodies_askMark : Nat := 1
def tBodies_askMark : am_T := (⟨"PaperedOver$Bodies", "askMark", "(LPaperedOver$House;I)I"⟩, prog_2_method_3_code, 3, (some FieldType.int))
abbrev mBodies_told : Nat := 2
def tBodies_told : am_T := (⟨"PaperedOver$Bodies", "told", "([ILPaperedOver$House;I)I"⟩, prog_2_method_4_code, 4, (some FieldType.int))
abbrev mBodies_answer : Nat := 3
def tBodies_answer : am_T := (⟨"PaperedOver$Bodies", "answer", "(LPaperedOver$House;III)I"⟩, prog_2_method_5_code, 6, (some FieldType.int))
abbrev mBodies_begin : Nat := 4
def tBodies_begin : am_T := (⟨"PaperedOver$Bodies", "begin", "(I)V"⟩, prog_2_method_6_code, 2, (none : Option FieldType))
abbrev mCutter_cut : Nat := 5
def tCutter_cut : am_T := (⟨"PaperedOver$Cutter", "cut", "(LPaperedOver$House;II)V"⟩, prog_3_method_2_code, 5, (none : Option FieldType))
abbrev mCutter_widthOf : Nat := 6
def tCutter_widthOf : am_T := (⟨"PaperedOver$Cutter", "widthOf", "(LPaperedOver$House;I)I"⟩, prog_3_method_3_code, 5, (some FieldType.int))
abbrev mCutter_cutWall : Nat := 7
def tCutter_cutWall : am_T := (⟨"PaperedOver$Cutter", "cutWall", "(LPaperedOver$House;II)V"⟩, prog_3_method_4_code, 8, (none : Option FieldType))
abbrev mFacts_hasRing : Nat := 8
def tFacts_hasRing : am_T := (⟨"PaperedOver$Facts", "hasRing", "()Z"⟩, prog_4_method_2_code, 1, (some FieldType.boolean))
abbrev mFacts_learn : Nat := 9
def tFacts_learn : am_T := (⟨"PaperedOver$Facts", "learn", "()V"⟩, prog_4_method_3_code, 2, (none : Option FieldType))
abbrev mFacts_gather : Nat := 10
def tFacts_gather : am_T := (⟨"PaperedOver$Facts", "gather", "()V"⟩, prog_4_method_4_code, 4, (none : Option FieldType))
abbrev mFacts_at : Nat := 11
def tFacts_at : am_T := (⟨"PaperedOver$Facts", "at", "(I)I"⟩, prog_4_method_5_code, 4, (some FieldType.int))
abbrev mFacts_close : Nat := 12
def tFacts_close : am_T := (⟨"PaperedOver$Facts", "close", "()V"⟩, prog_4_method_6_code, 3, (none : Option FieldType))
abbrev mFacts_canFollow : Nat := 13
def tFacts_canFollow : am_T := (⟨"PaperedOver$Facts", "canFollow", "(II)Z"⟩, prog_4_method_7_code, 3, (some FieldType.boolean))
abbrev mFacts_arrange : Nat := 14
def tFacts_arrange : am_T := (⟨"PaperedOver$Facts", "arrange", "()V"⟩, prog_4_method_8_code, 4, (none : Option FieldType))
abbrev mFacts_leastThatFollows : Nat := 15
def tFacts_leastThatFollows : am_T := (⟨"PaperedOver$Facts", "leastThatFollows", "(I)I"⟩, prog_4_method_9_code, 3, (some FieldType.int))
abbrev mFacts_dateLeast : Nat := 16
def tFacts_dateLeast : am_T := (⟨"PaperedOver$Facts", "dateLeast", "(I)V"⟩, prog_4_method_10_code, 4, (none : Option FieldType))
abbrev mFacts_dateMost : Nat := 17
def tFacts_dateMost : am_T := (⟨"PaperedOver$Facts", "dateMost", "(I)V"⟩, prog_4_method_11_code, 4, (none : Option FieldType))
abbrev mFacts_isYounger : Nat := 18
def tFacts_isYounger : am_T := (⟨"PaperedOver$Facts", "isYounger", "(II)Z"⟩, prog_4_method_12_code, 5, (some FieldType.boolean))
abbrev mFacts_scrapedOff : Nat := 19
def tFacts_scrapedOff : am_T := (⟨"PaperedOver$Facts", "scrapedOff", "(I)I"⟩, prog_4_method_13_code, 6, (some FieldType.int))
abbrev mFacts_neverThere : Nat := 20
def tFacts_neverThere : am_T := (⟨"PaperedOver$Facts", "neverThere", "(I)I"⟩, prog_4_method_14_code, 4, (some FieldType.int))
abbrev mFacts_whoCan : Nat := 21
def tFacts_whoCan : am_T := (⟨"PaperedOver$Facts", "whoCan", "(I)I"⟩, prog_4_method_15_code, 6, (some FieldType.int))
abbrev mFacts_missingAt : Nat := 22
def tFacts_missingAt : am_T := (⟨"PaperedOver$Facts", "missingAt", "(I)I"⟩, prog_4_method_16_code, 2, (some FieldType.int))
abbrev mFacts_leastOf : Nat := 23
def tFacts_leastOf : am_T := (⟨"PaperedOver$Facts", "leastOf", "(I)I"⟩, prog_4_method_17_code, 4, (some FieldType.int))
abbrev mFacts_mostOf : Nat := 24
def tFacts_mostOf : am_T := (⟨"PaperedOver$Facts", "mostOf", "(I)I"⟩, prog_4_method_18_code, 4, (some FieldType.int))
abbrev mHouse_stands : Nat := 25
def tHouse_stands : am_T := (⟨"PaperedOver$House", "stands", "()Z"⟩, prog_5_method_2_code, 1, (some FieldType.boolean))
abbrev mHouse_isWall : Nat := 26
def tHouse_isWall : am_T := (⟨"PaperedOver$House", "isWall", "(I)Z"⟩, prog_5_method_3_code, 2, (some FieldType.boolean))
abbrev mHouse_isPaper : Nat := 27
def tHouse_isPaper : am_T := (⟨"PaperedOver$House", "isPaper", "(I)Z"⟩, prog_5_method_4_code, 2, (some FieldType.boolean))
abbrev mHouse_isKind : Nat := 28
def tHouse_isKind : am_T := (⟨"PaperedOver$House", "isKind", "(I)Z"⟩, prog_5_method_5_code, 1, (some FieldType.boolean))
abbrev mHouse_isOf : Nat := 29
def tHouse_isOf : am_T := (⟨"PaperedOver$House", "isOf", "(II)Z"⟩, prog_5_method_6_code, 5, (some FieldType.boolean))
abbrev mHouse_clear : Nat := 30
def tHouse_clear : am_T := (⟨"PaperedOver$House", "clear", "()V"⟩, prog_5_method_7_code, 1, (none : Option FieldType))
abbrev mHouse_addWall : Nat := 31
def tHouse_addWall : am_T := (⟨"PaperedOver$House", "addWall", "(III)V"⟩, prog_5_method_8_code, 4, (none : Option FieldType))
abbrev mHouse_addPaper : Nat := 32
def tHouse_addPaper : am_T := (⟨"PaperedOver$House", "addPaper", "(IIIII)V"⟩, prog_5_method_9_code, 6, (none : Option FieldType))
abbrev mHouse_addTenant : Nat := 33
def tHouse_addTenant : am_T := (⟨"PaperedOver$House", "addTenant", "(III)V"⟩, prog_5_method_10_code, 4, (none : Option FieldType))
abbrev mHouse_take : Nat := 34
def tHouse_take : am_T := (⟨"PaperedOver$House", "take", "(LPaperedOver$House;)V"⟩, prog_5_method_11_code, 3, (none : Option FieldType))
abbrev mHouse_printedEvery : Nat := 35
def tHouse_printedEvery : am_T := (⟨"PaperedOver$House", "printedEvery", "(I)I"⟩, prog_5_method_12_code, 4, (some FieldType.int))
abbrev mHouse_isToldBy : Nat := 36
def tHouse_isToldBy : am_T := (⟨"PaperedOver$House", "isToldBy", "(II)Z"⟩, prog_5_method_13_code, 6, (some FieldType.boolean))
abbrev mHouse_leftBy : Nat := 37
def tHouse_leftBy : am_T := (⟨"PaperedOver$House", "leftBy", "(II)I"⟩, prog_5_method_14_code, 2, (some FieldType.int))
abbrev mOrders_all : Nat := 38
def tOrders_all : am_T := (⟨"PaperedOver$Orders", "all", "()I"⟩, prog_7_method_2_code, 1, (some FieldType.int))
abbrev mOrders_withAhead : Nat := 39
def tOrders_withAhead : am_T := (⟨"PaperedOver$Orders", "withAhead", "(II)I"⟩, prog_7_method_3_code, 3, (some FieldType.int))
abbrev mOrders_mostEvenPair : Nat := 40
def tOrders_mostEvenPair : am_T := (⟨"PaperedOver$Orders", "mostEvenPair", "()I"⟩, prog_7_method_4_code, 7, (some FieldType.int))
abbrev mOrders_isOpen : Nat := 41
def tOrders_isOpen : am_T := (⟨"PaperedOver$Orders", "isOpen", "(II)Z"⟩, prog_7_method_5_code, 4, (some FieldType.boolean))
abbrev mOrders_countOnce : Nat := 42
def tOrders_countOnce : am_T := (⟨"PaperedOver$Orders", "countOnce", "()V"⟩, prog_7_method_6_code, 2, (none : Option FieldType))
abbrev mOrders_countBegun : Nat := 43
def tOrders_countBegun : am_T := (⟨"PaperedOver$Orders", "countBegun", "(I)V"⟩, prog_7_method_7_code, 3, (none : Option FieldType))
abbrev mOrders_countEnded : Nat := 44
def tOrders_countEnded : am_T := (⟨"PaperedOver$Orders", "countEnded", "(I)V"⟩, prog_7_method_8_code, 4, (none : Option FieldType))
abbrev mOrders_countPairs : Nat := 45
def tOrders_countPairs : am_T := (⟨"PaperedOver$Orders", "countPairs", "(III)V"⟩, prog_7_method_9_code, 5, (none : Option FieldType))
abbrev mReader_read : Nat := 46
def tReader_read : am_T := (⟨"PaperedOver$Reader", "read", "()Z"⟩, prog_8_method_2_code, 4, (some FieldType.boolean))
abbrev mReader_word : Nat := 47
def tReader_word : am_T := (⟨"PaperedOver$Reader", "word", "()I"⟩, prog_8_method_3_code, 1, (some FieldType.int))
abbrev mReader_isFull : Nat := 48
def tReader_isFull : am_T := (⟨"PaperedOver$Reader", "isFull", "(I)Z"⟩, prog_8_method_4_code, 2, (some FieldType.boolean))
abbrev mReader_readOne : Nat := 49
def tReader_readOne : am_T := (⟨"PaperedOver$Reader", "readOne", "(I)V"⟩, prog_8_method_5_code, 2, (none : Option FieldType))
abbrev mReader_readWall : Nat := 50
def tReader_readWall : am_T := (⟨"PaperedOver$Reader", "readWall", "()V"⟩, prog_8_method_6_code, 4, (none : Option FieldType))
abbrev mReader_readPaper : Nat := 51
def tReader_readPaper : am_T := (⟨"PaperedOver$Reader", "readPaper", "()V"⟩, prog_8_method_7_code, 6, (none : Option FieldType))
abbrev mReader_readTenant : Nat := 52
def tReader_readTenant : am_T := (⟨"PaperedOver$Reader", "readTenant", "()V"⟩, prog_8_method_8_code, 4, (none : Option FieldType))
abbrev mReader_sortOfPaper : Nat := 53
def tReader_sortOfPaper : am_T := (⟨"PaperedOver$Reader", "sortOfPaper", "()I"⟩, prog_8_method_9_code, 2, (some FieldType.int))
abbrev mReader_number : Nat := 54
def tReader_number : am_T := (⟨"PaperedOver$Reader", "number", "(II)I"⟩, prog_8_method_10_code, 4, (some FieldType.int))
abbrev mReader_semicolon : Nat := 55
def tReader_semicolon : am_T := (⟨"PaperedOver$Reader", "semicolon", "()V"⟩, prog_8_method_11_code, 1, (none : Option FieldType))
abbrev mReader_fail : Nat := 56
def tReader_fail : am_T := (⟨"PaperedOver$Reader", "fail", "(I)V"⟩, prog_8_method_12_code, 2, (none : Option FieldType))
abbrev mReader_step : Nat := 57
def tReader_step : am_T := (⟨"PaperedOver$Reader", "step", "()V"⟩, prog_8_method_13_code, 2, (none : Option FieldType))
abbrev mReader_isName : Nat := 58
def tReader_isName : am_T := (⟨"PaperedOver$Reader", "isName", "(Ljava/lang/String;)Z"⟩, prog_8_method_14_code, 3, (some FieldType.boolean))
abbrev mReader_isBlank : Nat := 59
def tReader_isBlank : am_T := (⟨"PaperedOver$Reader", "isBlank", "(I)Z"⟩, prog_8_method_15_code, 1, (some FieldType.boolean))
abbrev mReader_isLetter : Nat := 60
def tReader_isLetter : am_T := (⟨"PaperedOver$Reader", "isLetter", "(I)Z"⟩, prog_8_method_16_code, 1, (some FieldType.boolean))
abbrev mReader_isFigure : Nat := 61
def tReader_isFigure : am_T := (⟨"PaperedOver$Reader", "isFigure", "(I)Z"⟩, prog_8_method_17_code, 1, (some FieldType.boolean))
abbrev mRows_isRow : Nat := 62
def tRows_isRow : am_T := (⟨"PaperedOver$Rows", "isRow", "(I)Z"⟩, prog_9_method_2_code, 2, (some FieldType.boolean))
abbrev mRows_isLane : Nat := 63
def tRows_isLane : am_T := (⟨"PaperedOver$Rows", "isLane", "(I)Z"⟩, prog_9_method_3_code, 2, (some FieldType.boolean))
abbrev mRows_isThere : Nat := 64
def tRows_isThere : am_T := (⟨"PaperedOver$Rows", "isThere", "(I)Z"⟩, prog_9_method_4_code, 2, (some FieldType.boolean))
abbrev mRows_alike : Nat := 65
def tRows_alike : am_T := (⟨"PaperedOver$Rows", "alike", "(II)Z"⟩, prog_9_method_5_code, 3, (some FieldType.boolean))
abbrev mRows_holds : Nat := 66
def tRows_holds : am_T := (⟨"PaperedOver$Rows", "holds", "(III)Z"⟩, prog_9_method_6_code, 4, (some FieldType.boolean))
abbrev mRows_make : Nat := 67
def tRows_make : am_T := (⟨"PaperedOver$Rows", "make", "(III)V"⟩, prog_9_method_7_code, 4, (none : Option FieldType))
abbrev mRows_item : Nat := 68
def tRows_item : am_T := (⟨"PaperedOver$Rows", "item", "(II)I"⟩, prog_9_method_8_code, 3, (some FieldType.int))
abbrev mRows_put : Nat := 69
def tRows_put : am_T := (⟨"PaperedOver$Rows", "put", "(III)I"⟩, prog_9_method_9_code, 5, (some FieldType.int))
abbrev mRows_move : Nat := 70
def tRows_move : am_T := (⟨"PaperedOver$Rows", "move", "(IIIII)V"⟩, prog_9_method_10_code, 6, (none : Option FieldType))
abbrev mRows_remove : Nat := 71
def tRows_remove : am_T := (⟨"PaperedOver$Rows", "remove", "(I)I"⟩, prog_9_method_11_code, 3, (some FieldType.int))
abbrev mRows_howMany : Nat := 72
def tRows_howMany : am_T := (⟨"PaperedOver$Rows", "howMany", "()I"⟩, prog_9_method_12_code, 3, (some FieldType.int))
abbrev mSpots_isSpot : Nat := 73
def tSpots_isSpot : am_T := (⟨"PaperedOver$Spots", "isSpot", "(I)Z"⟩, prog_10_method_2_code, 2, (some FieldType.boolean))
abbrev mSpots_hasRoom : Nat := 74
def tSpots_hasRoom : am_T := (⟨"PaperedOver$Spots", "hasRoom", "()Z"⟩, prog_10_method_3_code, 1, (some FieldType.boolean))
abbrev mSpots_layer : Nat := 75
def tSpots_layer : am_T := (⟨"PaperedOver$Spots", "layer", "(II)I"⟩, prog_10_method_4_code, 3, (some FieldType.int))
abbrev mSpots_open : Nat := 76
def tSpots_open : am_T := (⟨"PaperedOver$Spots", "open", "(I)V"⟩, prog_10_method_5_code, 2, (none : Option FieldType))
abbrev mSpots_lay : Nat := 77
def tSpots_lay : am_T := (⟨"PaperedOver$Spots", "lay", "(II)V"⟩, prog_10_method_6_code, 3, (none : Option FieldType))
abbrev mSpots_take : Nat := 78
def tSpots_take : am_T := (⟨"PaperedOver$Spots", "take", "(LPaperedOver$Spots;)V"⟩, prog_10_method_7_code, 2, (none : Option FieldType))
abbrev mTape_hasRoom : Nat := 79
def tTape_hasRoom : am_T := (⟨"PaperedOver$Tape", "hasRoom", "(I)Z"⟩, prog_11_method_2_code, 2, (some FieldType.boolean))
abbrev mTape_append : Nat := 80
def tTape_append : am_T := (⟨"PaperedOver$Tape", "append", "(JI)V"⟩, prog_11_method_3_code, 5, (none : Option FieldType))
abbrev mTape_at : Nat := 81
def tTape_at : am_T := (⟨"PaperedOver$Tape", "at", "(I)I"⟩, prog_11_method_4_code, 2, (some FieldType.int))
abbrev mMain_row : Nat := 82
def tMain_row : am_T := (⟨"PaperedOver", "row", "(III)I"⟩, prog_1_method_2_code, 4, (some FieldType.int))
abbrev mMain_set : Nat := 83
def tMain_set : am_T := (⟨"PaperedOver", "set", "(III)I"⟩, prog_1_method_3_code, 4, (some FieldType.int))
abbrev mMain_copy : Nat := 84
def tMain_copy : am_T := (⟨"PaperedOver", "copy", "(IIIII)I"⟩, prog_1_method_4_code, 6, (some FieldType.int))
abbrev mMain_drop : Nat := 85
def tMain_drop : am_T := (⟨"PaperedOver", "drop", "(I)I"⟩, prog_1_method_5_code, 2, (some FieldType.int))
abbrev mMain_feed : Nat := 86
def tMain_feed : am_T := (⟨"PaperedOver", "feed", "(JI)I"⟩, prog_1_method_6_code, 4, (some FieldType.int))
abbrev mMain_house : Nat := 87
def tMain_house : am_T := (⟨"PaperedOver", "house", "()I"⟩, prog_1_method_7_code, 2, (some FieldType.int))
abbrev mMain_fault : Nat := 88
def tMain_fault : am_T := (⟨"PaperedOver", "fault", "()I"⟩, prog_1_method_8_code, 1, (some FieldType.int))
abbrev mMain_lift : Nat := 89
def tMain_lift : am_T := (⟨"PaperedOver", "lift", "(IIII)I"⟩, prog_1_method_9_code, 7, (some FieldType.int))
abbrev mMain_forget : Nat := 90
def tMain_forget : am_T := (⟨"PaperedOver", "forget", "()I"⟩, prog_1_method_10_code, 1, (some FieldType.int))
abbrev mMain_spot : Nat := 91
def tMain_spot : am_T := (⟨"PaperedOver", "spot", "(II)I"⟩, prog_1_method_11_code, 3, (some FieldType.int))
abbrev mMain_papers : Nat := 92
def tMain_papers : am_T := (⟨"PaperedOver", "papers", "(I)I"⟩, prog_1_method_12_code, 2, (some FieldType.int))
abbrev mMain_paper : Nat := 93
def tMain_paper : am_T := (⟨"PaperedOver", "paper", "(II)I"⟩, prog_1_method_13_code, 3, (some FieldType.int))
abbrev mMain_orders : Nat := 94
def tMain_orders : am_T := (⟨"PaperedOver", "orders", "()I"⟩, prog_1_method_14_code, 1, (some FieldType.int))
abbrev mMain_first : Nat := 95
def tMain_first : am_T := (⟨"PaperedOver", "first", "(I)I"⟩, prog_1_method_15_code, 2, (some FieldType.int))
abbrev mMain_odds : Nat := 96
def tMain_odds : am_T := (⟨"PaperedOver", "odds", "(III)I"⟩, prog_1_method_16_code, 7, (some FieldType.int))
abbrev mMain_next : Nat := 97
def tMain_next : am_T := (⟨"PaperedOver", "next", "()I"⟩, prog_1_method_17_code, 2, (some FieldType.int))
abbrev mMain_years : Nat := 98
def tMain_years : am_T := (⟨"PaperedOver", "years", "(II)I"⟩, prog_1_method_18_code, 3, (some FieldType.int))
abbrev mMain_younger : Nat := 99
def tMain_younger : am_T := (⟨"PaperedOver", "younger", "(II)I"⟩, prog_1_method_19_code, 3, (some FieldType.int))
abbrev mMain_lacks : Nat := 100
def tMain_lacks : am_T := (⟨"PaperedOver", "lacks", "(II)I"⟩, prog_1_method_20_code, 3, (some FieldType.int))
abbrev mMain_tenants : Nat := 101
def tMain_tenants : am_T := (⟨"PaperedOver", "tenants", "(I)I"⟩, prog_1_method_21_code, 2, (some FieldType.int))
abbrev mMain_cupboard : Nat := 102
def tMain_cupboard : am_T := (⟨"PaperedOver", "cupboard", "(II)I"⟩, prog_1_method_22_code, 4, (some FieldType.int))
abbrev mMain_scrap : Nat := 103
def tMain_scrap : am_T := (⟨"PaperedOver", "scrap", "(II)I"⟩, prog_1_method_23_code, 3, (some FieldType.int))
abbrev mMain_tells : Nat := 104
def tMain_tells : am_T := (⟨"PaperedOver", "tells", "(I)I"⟩, prog_1_method_24_code, 3, (some FieldType.int))
abbrev mMain_rolls : Nat := 105
def tMain_rolls : am_T := (⟨"PaperedOver", "rolls", "(III)I"⟩, prog_1_method_25_code, 4, (some FieldType.int))
abbrev mMain_image : Nat := 106
def tMain_image : am_T := (⟨"PaperedOver", "image", "(I)I"⟩, prog_1_method_26_code, 3, (some FieldType.int))
abbrev mMain_restore : Nat := 107
def tMain_restore : am_T := (⟨"PaperedOver", "restore", "(I)I"⟩, prog_1_method_27_code, 3, (some FieldType.int))
abbrev mMain_kind : Nat := 108
def tMain_kind : am_T := (⟨"PaperedOver", "kind", "(I)I"⟩, prog_1_method_28_code, 2, (some FieldType.int))
abbrev mMain_as : Nat := 109
def tMain_as : am_T := (⟨"PaperedOver", "as", "(II)I"⟩, prog_1_method_29_code, 3, (some FieldType.int))
abbrev mMain_ask : Nat := 110
def tMain_ask : am_T := (⟨"PaperedOver", "ask", "(II)I"⟩, prog_1_method_30_code, 3, (some FieldType.int))
abbrev mMain_trace : Nat := 111
def tMain_trace : am_T := (⟨"PaperedOver", "trace", "(I)I"⟩, prog_1_method_31_code, 2, (some FieldType.int))
abbrev mMain_count : Nat := 112
def tMain_count : am_T := (⟨"PaperedOver", "count", "(I)I"⟩, prog_1_method_32_code, 2, (some FieldType.int))
abbrev mMain_status : Nat := 113
def tMain_status : am_T := (⟨"PaperedOver", "status", "()I"⟩, prog_1_method_33_code, 1, (some FieldType.int))
abbrev mMain_found : Nat := 114
def tMain_found : am_T := (⟨"PaperedOver", "found", "(I)I"⟩, prog_1_method_34_code, 2, (some FieldType.int))
abbrev mMain_clean : Nat := 115
def tMain_clean : am_T := (⟨"PaperedOver", "clean", "(I)I"⟩, prog_1_method_35_code, 2, (some FieldType.int))
abbrev mMain_learnAnew : Nat := 116
def tMain_learnAnew : am_T := (⟨"PaperedOver", "learnAnew", "()V"⟩, prog_1_method_36_code, 1, (none : Option FieldType))
abbrev mMain_isSeen : Nat := 117
def tMain_isSeen : am_T := (⟨"PaperedOver", "isSeen", "(I)Z"⟩, prog_1_method_37_code, 2, (some FieldType.boolean))
abbrev mMain_areUnlikePapers : Nat := 118
def tMain_areUnlikePapers : am_T := (⟨"PaperedOver", "areUnlikePapers", "(III)Z"⟩, prog_1_method_38_code, 7, (some FieldType.boolean))
abbrev mMain_isSwitch : Nat := 119
def tMain_isSwitch : am_T := (⟨"PaperedOver", "isSwitch", "(I)Z"⟩, prog_1_method_39_code, 1, (some FieldType.boolean))
abbrev mMain_isSetOf : Nat := 120
def tMain_isSetOf : am_T := (⟨"PaperedOver", "isSetOf", "(II)Z"⟩, prog_1_method_40_code, 2, (some FieldType.boolean))
abbrev mMain_has : Nat := 121
def tMain_has : am_T := (⟨"PaperedOver", "has", "(II)Z"⟩, prog_1_method_41_code, 2, (some FieldType.boolean))
abbrev mMain_greatestShared : Nat := 122
def tMain_greatestShared : am_T := (⟨"PaperedOver", "greatestShared", "(II)I"⟩, prog_1_method_42_code, 4, (some FieldType.int))
abbrev mMain_partsUp : Nat := 123
def tMain_partsUp : am_T := (⟨"PaperedOver", "partsUp", "(II)I"⟩, prog_1_method_43_code, 2, (some FieldType.int))
abbrev mRef_in : Nat := 124
def tRef_in : am_T := (⟨"PaperedOverModel", "in", "(JJJ)Z"⟩, prog_13_method_3_code, 6, (some FieldType.boolean))
abbrev mRef_finding : Nat := 125
def tRef_finding : am_T := (⟨"PaperedOverModel", "finding", "(I)I"⟩, prog_13_method_4_code, 2, (some FieldType.int))
abbrev mRef_isRow : Nat := 126
def tRef_isRow : am_T := (⟨"PaperedOverModel", "isRow", "(I)Z"⟩, prog_13_method_5_code, 1, (some FieldType.boolean))
abbrev mRef_row : Nat := 127
def tRef_row : am_T := (⟨"PaperedOverModel", "row", "(III)I"⟩, prog_13_method_6_code, 5, (some FieldType.int))
abbrev mRef_set : Nat := 128
def tRef_set : am_T := (⟨"PaperedOverModel", "set", "(III)I"⟩, prog_13_method_7_code, 4, (some FieldType.int))
abbrev mRef_copy : Nat := 129
def tRef_copy : am_T := (⟨"PaperedOverModel", "copy", "(IIIII)I"⟩, prog_13_method_8_code, 9, (some FieldType.int))
abbrev mRef_drop : Nat := 130
def tRef_drop : am_T := (⟨"PaperedOverModel", "drop", "(I)I"⟩, prog_13_method_9_code, 2, (some FieldType.int))
abbrev mRef_feed : Nat := 131
def tRef_feed : am_T := (⟨"PaperedOverModel", "feed", "(JI)I"⟩, prog_13_method_10_code, 5, (some FieldType.int))
abbrev mRef_byteAt : Nat := 132
def tRef_byteAt : am_T := (⟨"PaperedOverModel", "byteAt", "(I)I"⟩, prog_13_method_11_code, 2, (some FieldType.int))
abbrev mRef_isLetter : Nat := 133
def tRef_isLetter : am_T := (⟨"PaperedOverModel", "isLetter", "(I)Z"⟩, prog_13_method_12_code, 1, (some FieldType.boolean))
abbrev mRef_isFigure : Nat := 134
def tRef_isFigure : am_T := (⟨"PaperedOverModel", "isFigure", "(I)Z"⟩, prog_13_method_13_code, 1, (some FieldType.boolean))
abbrev mRef_nextToken : Nat := 135
def tRef_nextToken : am_T := (⟨"PaperedOverModel", "nextToken", "()V"⟩, prog_13_method_14_code, 2, (none : Option FieldType))
abbrev mRef_begin : Nat := 136
def tRef_begin : am_T := (⟨"PaperedOverModel", "begin", "()V"⟩, prog_13_method_15_code, 1, (none : Option FieldType))
abbrev mRef_bad : Nat := 137
def tRef_bad : am_T := (⟨"PaperedOverModel", "bad", "(I)V"⟩, prog_13_method_16_code, 2, (none : Option FieldType))
abbrev mRef_must : Nat := 138
def tRef_must : am_T := (⟨"PaperedOverModel", "must", "(Z)V"⟩, prog_13_method_17_code, 2, (none : Option FieldType))
abbrev mRef_name : Nat := 139
def tRef_name : am_T := (⟨"PaperedOverModel", "name", "()J"⟩, prog_13_method_18_code, 4, (some FieldType.long))
abbrev mRef_figures : Nat := 140
def tRef_figures : am_T := (⟨"PaperedOverModel", "figures", "()I"⟩, prog_13_method_19_code, 3, (some FieldType.int))
abbrev mRef_number : Nat := 141
def tRef_number : am_T := (⟨"PaperedOverModel", "number", "(II)I"⟩, prog_13_method_20_code, 4, (some FieldType.int))
abbrev mRef_sortOf : Nat := 142
def tRef_sortOf : am_T := (⟨"PaperedOverModel", "sortOf", "(J)I"⟩, prog_13_method_21_code, 2, (some FieldType.int))
abbrev mRef_mustEnd : Nat := 143
def tRef_mustEnd : am_T := (⟨"PaperedOverModel", "mustEnd", "()V"⟩, prog_13_method_22_code, 1, (none : Option FieldType))
abbrev mRef_begins : Nat := 144
def tRef_begins : am_T := (⟨"PaperedOverModel", "begins", "(II)V"⟩, prog_13_method_23_code, 3, (none : Option FieldType))
abbrev mRef_readWall : Nat := 145
def tRef_readWall : am_T := (⟨"PaperedOverModel", "readWall", "()V"⟩, prog_13_method_24_code, 5, (none : Option FieldType))
abbrev mRef_readPaper : Nat := 146
def tRef_readPaper : am_T := (⟨"PaperedOverModel", "readPaper", "()V"⟩, prog_13_method_25_code, 7, (none : Option FieldType))
abbrev mRef_readTenant : Nat := 147
def tRef_readTenant : am_T := (⟨"PaperedOverModel", "readTenant", "()V"⟩, prog_13_method_26_code, 5, (none : Option FieldType))
abbrev mRef_house : Nat := 148
def tRef_house : am_T := (⟨"PaperedOverModel", "house", "()I"⟩, prog_13_method_27_code, 2, (some FieldType.int))
abbrev mRef_fault : Nat := 149
def tRef_fault : am_T := (⟨"PaperedOverModel", "fault", "()I"⟩, prog_13_method_28_code, 1, (some FieldType.int))
abbrev mRef_isWall : Nat := 150
def tRef_isWall : am_T := (⟨"PaperedOverModel", "isWall", "(I)Z"⟩, prog_13_method_29_code, 2, (some FieldType.boolean))
abbrev mRef_isPaper : Nat := 151
def tRef_isPaper : am_T := (⟨"PaperedOverModel", "isPaper", "(I)Z"⟩, prog_13_method_30_code, 2, (some FieldType.boolean))
abbrev mRef_isSpot : Nat := 152
def tRef_isSpot : am_T := (⟨"PaperedOverModel", "isSpot", "(I)Z"⟩, prog_13_method_31_code, 2, (some FieldType.boolean))
abbrev mRef_wall : Nat := 153
def tRef_wall : am_T := (⟨"PaperedOverModel", "wall", "(II)I"⟩, prog_13_method_32_code, 3, (some FieldType.int))
abbrev mRef_of : Nat := 154
def tRef_of : am_T := (⟨"PaperedOverModel", "of", "(II)I"⟩, prog_13_method_33_code, 3, (some FieldType.int))
abbrev mRef_lies : Nat := 155
def tRef_lies : am_T := (⟨"PaperedOverModel", "lies", "(II)I"⟩, prog_13_method_34_code, 3, (some FieldType.int))
abbrev mRef_wallOf : Nat := 156
def tRef_wallOf : am_T := (⟨"PaperedOverModel", "wallOf", "(I)I"⟩, prog_13_method_35_code, 2, (some FieldType.int))
abbrev mRef_manyAt : Nat := 157
def tRef_manyAt : am_T := (⟨"PaperedOverModel", "manyAt", "(I)I"⟩, prog_13_method_36_code, 2, (some FieldType.int))
abbrev mRef_laySpots : Nat := 158
def tRef_laySpots : am_T := (⟨"PaperedOverModel", "laySpots", "()V"⟩, prog_13_method_37_code, 3, (none : Option FieldType))
abbrev mRef_laySure : Nat := 159
def tRef_laySure : am_T := (⟨"PaperedOverModel", "laySure", "()V"⟩, prog_13_method_38_code, 4, (none : Option FieldType))
abbrev mRef_inRings : Nat := 160
def tRef_inRings : am_T := (⟨"PaperedOverModel", "inRings", "()I"⟩, prog_13_method_39_code, 3, (some FieldType.int))
abbrev mRef_isIn : Nat := 161
def tRef_isIn : am_T := (⟨"PaperedOverModel", "isIn", "(II)Z"⟩, prog_13_method_40_code, 2, (some FieldType.boolean))
abbrev mRef_isSeen : Nat := 162
def tRef_isSeen : am_T := (⟨"PaperedOverModel", "isSeen", "(I)Z"⟩, prog_13_method_41_code, 2, (some FieldType.boolean))
abbrev mRef_lack : Nat := 163
def tRef_lack : am_T := (⟨"PaperedOverModel", "lack", "(III)I"⟩, prog_13_method_42_code, 4, (some FieldType.int))
abbrev mRef_lift : Nat := 164
def tRef_lift : am_T := (⟨"PaperedOverModel", "lift", "(IIII)I"⟩, prog_13_method_43_code, 9, (some FieldType.int))
abbrev mRef_forget : Nat := 165
def tRef_forget : am_T := (⟨"PaperedOverModel", "forget", "()I"⟩, prog_13_method_44_code, 1, (some FieldType.int))
abbrev mRef_spot : Nat := 166
def tRef_spot : am_T := (⟨"PaperedOverModel", "spot", "(II)I"⟩, prog_13_method_45_code, 3, (some FieldType.int))
abbrev mRef_papers : Nat := 167
def tRef_papers : am_T := (⟨"PaperedOverModel", "papers", "(I)I"⟩, prog_13_method_46_code, 2, (some FieldType.int))
abbrev mRef_paper : Nat := 168
def tRef_paper : am_T := (⟨"PaperedOverModel", "paper", "(II)I"⟩, prog_13_method_47_code, 3, (some FieldType.int))
abbrev mRef_ordersWith : Nat := 169
def tRef_ordersWith : am_T := (⟨"PaperedOverModel", "ordersWith", "(II)I"⟩, prog_13_method_48_code, 7, (some FieldType.int))
abbrev mRef_orders : Nat := 170
def tRef_orders : am_T := (⟨"PaperedOverModel", "orders", "()I"⟩, prog_13_method_49_code, 1, (some FieldType.int))
abbrev mRef_first : Nat := 171
def tRef_first : am_T := (⟨"PaperedOverModel", "first", "(I)I"⟩, prog_13_method_50_code, 5, (some FieldType.int))
abbrev mRef_divisor : Nat := 172
def tRef_divisor : am_T := (⟨"PaperedOverModel", "divisor", "(II)I"⟩, prog_13_method_51_code, 5, (some FieldType.int))
abbrev mRef_odds : Nat := 173
def tRef_odds : am_T := (⟨"PaperedOverModel", "odds", "(III)I"⟩, prog_13_method_52_code, 6, (some FieldType.int))
abbrev mRef_next : Nat := 174
def tRef_next : am_T := (⟨"PaperedOverModel", "next", "()I"⟩, prog_13_method_53_code, 9, (some FieldType.int))
abbrev mRef_layYears : Nat := 175
def tRef_layYears : am_T := (⟨"PaperedOverModel", "layYears", "()V"⟩, prog_13_method_54_code, 4, (none : Option FieldType))
abbrev mRef_years : Nat := 176
def tRef_years : am_T := (⟨"PaperedOverModel", "years", "(II)I"⟩, prog_13_method_55_code, 3, (some FieldType.int))
abbrev mRef_younger : Nat := 177
def tRef_younger : am_T := (⟨"PaperedOverModel", "younger", "(II)I"⟩, prog_13_method_56_code, 5, (some FieldType.int))
abbrev mRef_lacks : Nat := 178
def tRef_lacks : am_T := (⟨"PaperedOverModel", "lacks", "(II)I"⟩, prog_13_method_57_code, 8, (some FieldType.int))
abbrev mRef_tenants : Nat := 179
def tRef_tenants : am_T := (⟨"PaperedOverModel", "tenants", "(I)I"⟩, prog_13_method_58_code, 7, (some FieldType.int))
abbrev mRef_cupboard : Nat := 180
def tRef_cupboard : am_T := (⟨"PaperedOverModel", "cupboard", "(II)I"⟩, prog_13_method_59_code, 7, (some FieldType.int))
abbrev mRef_scrap : Nat := 181
def tRef_scrap : am_T := (⟨"PaperedOverModel", "scrap", "(II)I"⟩, prog_13_method_60_code, 5, (some FieldType.int))
abbrev mRef_tellsBy : Nat := 182
def tRef_tellsBy : am_T := (⟨"PaperedOverModel", "tellsBy", "(II)Z"⟩, prog_13_method_61_code, 7, (some FieldType.boolean))
abbrev mRef_tells : Nat := 183
def tRef_tells : am_T := (⟨"PaperedOverModel", "tells", "(I)I"⟩, prog_13_method_62_code, 3, (some FieldType.int))
abbrev mRef_painted : Nat := 184
def tRef_painted : am_T := (⟨"PaperedOverModel", "painted", "(II)I"⟩, prog_13_method_63_code, 5, (some FieldType.int))
abbrev mRef_rolls : Nat := 185
def tRef_rolls : am_T := (⟨"PaperedOverModel", "rolls", "(III)I"⟩, prog_13_method_64_code, 11, (some FieldType.int))
abbrev mRef_image : Nat := 186
def tRef_image : am_T := (⟨"PaperedOverModel", "image", "(I)I"⟩, prog_13_method_65_code, 3, (some FieldType.int))
abbrev mRef_restore : Nat := 187
def tRef_restore : am_T := (⟨"PaperedOverModel", "restore", "(I)I"⟩, prog_13_method_66_code, 3, (some FieldType.int))
abbrev mRef_isOf : Nat := 188
def tRef_isOf : am_T := (⟨"PaperedOverModel", "isOf", "(II)Z"⟩, prog_13_method_67_code, 2, (some FieldType.boolean))
abbrev mRef_kind : Nat := 189
def tRef_kind : am_T := (⟨"PaperedOverModel", "kind", "(I)I"⟩, prog_13_method_68_code, 2, (some FieldType.int))
abbrev mRef_as : Nat := 190
def tRef_as : am_T := (⟨"PaperedOverModel", "as", "(II)I"⟩, prog_13_method_69_code, 3, (some FieldType.int))
abbrev mRef_began : Nat := 191
def tRef_began : am_T := (⟨"PaperedOverModel", "began", "(I)V"⟩, prog_13_method_70_code, 2, (none : Option FieldType))
abbrev mRef_plainSize : Nat := 192
def tRef_plainSize : am_T := (⟨"PaperedOverModel", "plainSize", "(I)I"⟩, prog_13_method_71_code, 2, (some FieldType.int))
abbrev mRef_markOf : Nat := 193
def tRef_markOf : am_T := (⟨"PaperedOverModel", "markOf", "(I)I"⟩, prog_13_method_72_code, 3, (some FieldType.int))
abbrev mRef_sizeOf : Nat := 194
def tRef_sizeOf : am_T := (⟨"PaperedOverModel", "sizeOf", "(I)I"⟩, prog_13_method_73_code, 4, (some FieldType.int))
abbrev mRef_ask : Nat := 195
def tRef_ask : am_T := (⟨"PaperedOverModel", "ask", "(II)I"⟩, prog_13_method_74_code, 3, (some FieldType.int))
abbrev mRef_trace : Nat := 196
def tRef_trace : am_T := (⟨"PaperedOverModel", "trace", "(I)I"⟩, prog_13_method_75_code, 2, (some FieldType.int))
abbrev mRef_count : Nat := 197
def tRef_count : am_T := (⟨"PaperedOverModel", "count", "(I)I"⟩, prog_13_method_76_code, 4, (some FieldType.int))
abbrev mRef_status : Nat := 198
def tRef_status : am_T := (⟨"PaperedOverModel", "status", "()I"⟩, prog_13_method_77_code, 1, (some FieldType.int))
abbrev mMath_abs : Nat := 199
def tMath_abs : am_T := (⟨"java/lang/Math", "abs", "(I)I"⟩, prog_14_method_59_code, 1, (some FieldType.int))
abbrev mMath_max : Nat := 200
def tMath_max : am_T := (⟨"java/lang/Math", "max", "(II)I"⟩, prog_14_method_65_code, 2, (some FieldType.int))
abbrev mMath_min : Nat := 201
def tMath_min : am_T := (⟨"java/lang/Math", "min", "(II)I"⟩, prog_14_method_69_code, 2, (some FieldType.int))
abbrev mStr_length : Nat := 202
def tStr_length : am_T := (⟨"java/lang/String", "length", "()I"⟩, prog_15_method_54_code, 1, (some FieldType.int))
abbrev mStr_charAt : Nat := 203
def tStr_charAt : am_T := (⟨"java/lang/String", "charAt", "(I)C"⟩, prog_15_method_56_code, 2, (some FieldType.char))
abbrev mStr_coder : Nat := 204
def tStr_coder : am_T := (⟨"java/lang/String", "coder", "()B"⟩, prog_15_method_152_code, 1, (some FieldType.byte))
abbrev mStr_isLatin1 : Nat := 205
def tStr_isLatin1 : am_T := (⟨"java/lang/String", "isLatin1", "()Z"⟩, prog_15_method_154_code, 1, (some FieldType.boolean))
abbrev mStr_checkIndex : Nat := 206
def tStr_checkIndex : am_T := (⟨"java/lang/String", "checkIndex", "(II)V"⟩, prog_15_method_155_code, 2, (none : Option FieldType))
abbrev mLat_charAt : Nat := 207
def tLat_charAt : am_T := (⟨"java/lang/StringLatin1", "charAt", "([BI)C"⟩, prog_16_method_2_code, 2, (some FieldType.char))
abbrev mArr_rangeCheck : Nat := 208
def tArr_rangeCheck : am_T := (⟨"java/util/Arrays", "rangeCheck", "(III)V"⟩, prog_19_method_30_code, 3, (none : Option FieldType))
abbrev mArr_fill2 : Nat := 209
def tArr_fill2 : am_T := (⟨"java/util/Arrays", "fill", "([II)V"⟩, prog_19_method_103_code, 4, (none : Option FieldType))
abbrev mArr_fill4 : Nat := 210
def tArr_fill4 : am_T := (⟨"java/util/Arrays", "fill", "([IIII)V"⟩, prog_19_method_104_code, 5, (none : Option FieldType))
abbrev mPre_checkIndex : Nat := 211
def tPre_checkIndex : am_T := (⟨"jdk/internal/util/Preconditions", "checkIndex", "(IILjava/util/function/BiFunction;)I"⟩, prog_20_method_11_code, 3, (some FieldType.int))
def am_mt : List am_T := [tBodies_askSize, tBodies_askMark, tBodies_told, tBodies_answer, tBodies_begin, tCutter_cut, tCutter_widthOf, tCutter_cutWall, tFacts_hasRing, tFacts_learn, tFacts_gather, tFacts_at, tFacts_close, tFacts_canFollow, tFacts_arrange, tFacts_leastThatFollows, tFacts_dateLeast, tFacts_dateMost, tFacts_isYounger, tFacts_scrapedOff, tFacts_neverThere, tFacts_whoCan, tFacts_missingAt, tFacts_leastOf, tFacts_mostOf, tHouse_stands, tHouse_isWall, tHouse_isPaper, tHouse_isKind, tHouse_isOf, tHouse_clear, tHouse_addWall, tHouse_addPaper, tHouse_addTenant, tHouse_take, tHouse_printedEvery, tHouse_isToldBy, tHouse_leftBy, tOrders_all, tOrders_withAhead, tOrders_mostEvenPair, tOrders_isOpen, tOrders_countOnce, tOrders_countBegun, tOrders_countEnded, tOrders_countPairs, tReader_read, tReader_word, tReader_isFull, tReader_readOne, tReader_readWall, tReader_readPaper, tReader_readTenant, tReader_sortOfPaper, tReader_number, tReader_semicolon, tReader_fail, tReader_step, tReader_isName, tReader_isBlank, tReader_isLetter, tReader_isFigure, tRows_isRow, tRows_isLane, tRows_isThere, tRows_alike, tRows_holds, tRows_make, tRows_item, tRows_put, tRows_move, tRows_remove, tRows_howMany, tSpots_isSpot, tSpots_hasRoom, tSpots_layer, tSpots_open, tSpots_lay, tSpots_take, tTape_hasRoom, tTape_append, tTape_at, tMain_row, tMain_set, tMain_copy, tMain_drop, tMain_feed, tMain_house, tMain_fault, tMain_lift, tMain_forget, tMain_spot, tMain_papers, tMain_paper, tMain_orders, tMain_first, tMain_odds, tMain_next, tMain_years, tMain_younger, tMain_lacks, tMain_tenants, tMain_cupboard, tMain_scrap, tMain_tells, tMain_rolls, tMain_image, tMain_restore, tMain_kind, tMain_as, tMain_ask, tMain_trace, tMain_count, tMain_status, tMain_found, tMain_clean, tMain_learnAnew, tMain_isSeen, tMain_areUnlikePapers, tMain_isSwitch, tMain_isSetOf, tMain_has, tMain_greatestShared, tMain_partsUp, tRef_in, tRef_finding, tRef_isRow, tRef_row, tRef_set, tRef_copy, tRef_drop, tRef_feed, tRef_byteAt, tRef_isLetter, tRef_isFigure, tRef_nextToken, tRef_begin, tRef_bad, tRef_must, tRef_name, tRef_figures, tRef_number, tRef_sortOf, tRef_mustEnd, tRef_begins, tRef_readWall, tRef_readPaper, tRef_readTenant, tRef_house, tRef_fault, tRef_isWall, tRef_isPaper, tRef_isSpot, tRef_wall, tRef_of, tRef_lies, tRef_wallOf, tRef_manyAt, tRef_laySpots, tRef_laySure, tRef_inRings, tRef_isIn, tRef_isSeen, tRef_lack, tRef_lift, tRef_forget, tRef_spot, tRef_papers, tRef_paper, tRef_ordersWith, tRef_orders, tRef_first, tRef_divisor, tRef_odds, tRef_next, tRef_layYears, tRef_years, tRef_younger, tRef_lacks, tRef_tenants, tRef_cupboard, tRef_scrap, tRef_tellsBy, tRef_tells, tRef_painted, tRef_rolls, tRef_image, tRef_restore, tRef_isOf, tRef_kind, tRef_as, tRef_began, tRef_plainSize, tRef_markOf, tRef_sizeOf, tRef_ask, tRef_trace, tRef_count, tRef_status, tMath_abs, tMath_max, tMath_min, tStr_length, tStr_charAt, tStr_coder, tStr_isLatin1, tStr_checkIndex, tLat_charAt, tArr_rangeCheck, tArr_fill2, tArr_fill4, tPre_checkIndex]
def mt (n : Nat) : am_T := am_mt.getD n tBodies_askSize
abbrev ConP (d n : Nat) (as : List am_V) (M : am_M) (Po : Option am_V → am_M → Prop) : Prop := am_Con d (mt n) as M Po
abbrev Con (d n : Nat) (as : List am_V) (M : am_M) (r : Option am_V) (M2 : am_M) : Prop := ConP d n as M (fun a b => a = r ∧ b = M2)
end
section
def Cl (d n : Nat) (as : List am_V) (M : am_M) (K : Option am_V → am_M → Prop) : Prop := ∃ (d2 : Nat) (Po : Option am_V → am_M → Prop), d2 < d ∧ ConP d2 n as M Po ∧ ∀ r M2, Po r M2 → K r M2
theorem cl_ {d n d2 : Nat} {as : List am_V} {M M2 : am_M} {r : Option am_V} {K : Option am_V → am_M → Prop} (h : Con d2 n as M r M2) (k : K r M2) (hd : d2 < d := by decide) : Cl d n as M K := ⟨d2, _, hd, h, fun a b hab => by obtain ⟨rfl, rfl⟩ := hab; exact k⟩
theorem clp {d n d2 : Nat} {as : List am_V} {M : am_M} {Po : Option am_V → am_M → Prop} {K : Option am_V → am_M → Prop} (h : ConP d2 n as M Po) (k : ∀ r M2, Po r M2 → K r M2) (hd : d2 < d := by decide) : Cl d n as M K := ⟨d2, _, hd, h, k⟩
def am_nth : am_L → Nat → Option am_V
  | [], _ => none
  | x :: _, 0 => x
  | _ :: t, n + 1 => am_nth t n
def am_set : am_L → Nat → am_V → am_L
  | [], _, _ => []
  | _ :: t, 0, v => some v :: t
  | x :: t, n + 1, v => x :: am_set t n v
def am_none : am_L → Nat → am_L
  | [], _ => []
  | _ :: t, 0 => none :: t
  | x :: t, n + 1 => x :: am_none t n
def am_isL : Option am_V → Bool
  | some (Sum.inr (Sum.inr _)) => true
  | _ => false
/-- a place that may be stored to: not the second half of a long -/
def am_ok1 : am_L → Nat → Bool
  | [], _ => false
  | _ :: _, 0 => true
  | x :: t, n + 1 => match n with
    | 0 => !am_isL x && am_ok1 t 0
    | k + 1 => am_ok1 t (k + 1)
def am_pI (st : List am_V) (f : Int32 → List am_V → Prop) : Prop := match st with
  | Sum.inr (Sum.inl x) :: r => f x r
  | _ => False
def am_pL (st : List am_V) (f : Int64 → List am_V → Prop) : Prop := match st with
  | Sum.inr (Sum.inr x) :: r => f x r
  | _ => False
def am_pR (st : List am_V) (f : Nat → Nat → Nat → List am_V → Prop) : Prop := match st with
  | Sum.inl (k, j, o) :: r => f k j o r
  | _ => False
def am_pA (st : List am_V) (f : am_V → List am_V → Prop) : Prop := match st with
  | Sum.inl (k, j, o) :: r => f (Sum.inl (k, j, o)) r
  | Sum.inr (Sum.inl x) :: r => f (Sum.inr (Sum.inl x)) r
  | _ => False
def am_n1 (ns : List Nat) (f : Nat → Prop) : Prop := match ns with
  | i :: _ => f i
  | [] => False
def am_eI (en : Option am_N) (f : Int32 → Prop) : Prop := match en with
  | some (Sum.inr (Sum.inr (Sum.inl x))) => f x
  | _ => False
def am_ck (b : Bool) (P : Prop) : Prop := match b with
  | true => P
  | false => False
def am_cat : List am_V → Nat
  | [] => 0
  | Sum.inr (Sum.inr _) :: r => 2 + am_cat r
  | _ :: r => 1 + am_cat r
def am_pop : Nat → List am_V → List am_V → Option (List am_V × List am_V)
  | 0, st, acc => some (acc, st)
  | n + 1, v :: st, acc => am_pop n st (v :: acc)
  | _ + 1, [], _ => none
def am_push (r : Option am_V) (rest : List am_V) : List am_V := match r with
  | some v => v :: rest
  | none => rest
def am_al (b : Bool) (k o : Nat) : Option Nat := match o with
  | 0 => none
  | o + 1 => match (am_ar k)[o]? with
    | some q => match q.1, b with
      | true, true => some q.2
      | false, false => some q.2
      | _, _ => none
    | none => none
def am_rcv (k : Nat) (as : List am_V) : Bool := match as with
  | Sum.inl (a, _, o) :: _ => Nat.beq a k && (Nat.beq o 0 || Nat.beq a 13)
  | _ => false
def am_cnd (op : Jvm.ClassFile.Cond) (x y : Int32) (A B : Prop) : Prop := match op with
  | .eq => Br (x = y) A B
  | .ne => Br (x = y) B A
  | .lt => Br (x < y) A B
  | .ge => Br (y ≤ x) A B
  | .gt => Br (y < x) A B
  | .le => Br (x ≤ y) A B
def am_cnd0 (op : Jvm.ClassFile.Cond) (x : Int32) (A B : Prop) : Prop := match op with
  | .eq => Br (x = 0) A B
  | .ne => Br (x = 0) B A
  | .lt => Br (x < 0) A B
  | .ge => Br (0 ≤ x) A B
  | .gt => Br (0 < x) A B
  | .le => Br (x ≤ 0) A B
/-- a switch: the default's target, then target and case, one after the other -/
def am_sw (x : Int32) (K : Nat → Prop) (df : Nat) : List Nat → Prop
  | t :: c :: l => Br (x = Int32.ofNat c) (K t) (am_sw x K df l)
  | _ => K df
def am_ret (ret : Option FieldType) (x : Int32) (P : Prop) : Prop := match ret with
  | some .int => P
  | some ty => Ob (vp_nar ty x = x) P
  | none => False
def am_retL (ret : Option FieldType) (P : Prop) : Prop := match ret with
  | some .long => P
  | _ => False
def am_retV (ret : Option FieldType) (P : Prop) : Prop := match ret with
  | none => P
  | _ => False
/-- an answer is a number -/
def am_res (r : Option am_V) (P : Prop) : Prop := match r with
  | some (Sum.inl _) => False
  | _ => P
def am_call (d n : Nat) (b : Bool) (as rest : List am_V) (M : am_M) (K : List am_V → am_M → Prop) : Prop := am_ck b (am_ck (Nat.ble (am_cat rest) 8) (Cl d n as M (fun r M2 => am_res r (K (am_push r rest) M2))))
def am_callM (d n a : Nat) (kd : Option Nat) (st : List am_V) (M : am_M) (K : List am_V → am_M → Prop) : Prop := match am_pop a st [] with
  | some (as, rest) => am_call d n (match kd with | some k => am_rcv k as | none => true) as rest M K
  | none => False
def am_get (M : am_M) (st : List am_V) (c s : Nat) (K : List am_V → Prop) : Prop := am_pR st fun k j o r => am_ck (Nat.beq k c && Nat.beq o 0) (match (am_ob c)[s]? with
  | some none => K (aI (M k j 0 s) :: r)
  | some (some g) => (match g j with | (k2, j2, o2) => K (Sum.inl (k2, j2, o2) :: r))
  | none => False)
def am_put (M : am_M) (st : List am_V) (c s : Nat) (K : List am_V → am_M → Prop) : Prop := am_pI st fun x r => am_pR r fun k j o r => am_ck (Nat.beq k c && Nat.beq o 0) (match (am_ob c)[s]? with
  | some none => match am_fb c s with
    | false => K r (sA M k j 0 (upd (M k j 0) s x))
    | true => Ob (vp_nar .boolean x = x) (K r (sA M k j 0 (upd (M k j 0) s x)))
  | _ => False)
def am_ild (X : Option (Nat × (Nat → Int32))) (M : am_M) (st : List am_V) (K : List am_V → Prop) : Prop := am_pI st fun i r => am_pR r fun k j o r => match am_al false k o with
  | some n => Ob (vp_in i n) (K (aI (M k j o i.toNatClampNeg) :: r))
  | none => match k with
    | 12 => Ob (vp_in i 6) (K (aI ((am_sc o).getD i.toNatClampNeg 0) :: r))
    | 16 => (match X with | some (L, xs) => Ob (vp_in i L) (K (aI (xs i.toNatClampNeg) :: r)) | none => False)
    | _ => False
def am_bld (M : am_M) (st : List am_V) (K : List am_V → Prop) : Prop := am_pI st fun i r => am_pR r fun k j o r => match am_al true k o with
  | some n => Ob (vp_in i n) (K (aI (M k j o i.toNatClampNeg) :: r))
  | none => match k with
    | 14 => Ob (vp_in i (am_sl.getD o 0)) (K (aI ((am_sb.getD o []).getD i.toNatClampNeg 0) :: r))
    | _ => False
def am_ist (M : am_M) (st : List am_V) (K : List am_V → am_M → Prop) : Prop := am_pI st fun x r => am_pI r fun i r => am_pR r fun k j o r => match am_al false k o with
  | some n => Ob (vp_in i n) (K r (sA M k j o (upd (M k j o) i.toNatClampNeg x)))
  | none => False
def am_bst (M : am_M) (st : List am_V) (K : List am_V → am_M → Prop) : Prop := am_pI st fun x r => am_pI r fun i r => am_pR r fun k j o r => match am_al true k o with
  | some n => Ob (vp_in i n) (K r (sA M k j o (upd (M k j o) i.toNatClampNeg (vp_nar .boolean x))))
  | none => False
def am_len (X : Option (Nat × (Nat → Int32))) (M : am_M) (st : List am_V) (K : List am_V → Prop) : Prop := am_pR st fun k _ o r => match am_al false k o with
  | some n => K (aI (Int32.ofNat n) :: r)
  | none => match k with
    | 12 => K (aI 6 :: r)
    | 14 => K (aI (Int32.ofNat (am_sl.getD o 0)) :: r)
    | 16 => (match X with | some (L, _) => K (aI (Int32.ofNat L) :: r) | none => False)
    | _ => False
def am_cpy (d : Nat) (M : am_M) (st : List am_V) (K : List am_V → am_M → Prop) : Prop := am_pI st fun n r => am_pI r fun dp r => am_pR r fun k1 j1 o1 r => am_pI r fun sp r => am_pR r fun k0 j0 o0 r => am_ck (Nat.ble 1 d && r.isEmpty) (match am_al false k0 o0, am_al false k1 o1 with
  | some n0, some n1 => Ob (¬ sp < 0 ∧ ¬ dp < 0 ∧ ¬ n < 0 ∧ sp.toNatClampNeg + n.toNatClampNeg ≤ n0 ∧ dp.toNatClampNeg + n.toNatClampNeg ≤ n1) (K r (sA M k1 j1 o1 (va_cpy (M k0 j0 o0) (M k1 j1 o1) sp.toNatClampNeg dp.toNatClampNeg n.toNatClampNeg)))
  | _, _ => False)
/-- one instruction: k is what comes behind it, J what stands at a target, Rt what must hold at the end -/
def am_step (d : Nat) (X : Option (Nat × (Nat → Int32))) (ret : Option FieldType) (J : Nat → am_L → List am_V → am_M → Prop) (Rt : Option am_V → am_M → Prop) (el : am_E) (k : am_L → List am_V → am_M → Prop) (lv : am_L) (st : List am_V) (M : am_M) : Prop :=
  match el.2.1 with
  | .iconst _ => am_eI el.2.2.2 fun v => k lv (aI v :: st) M
  | .bipush _ => am_eI el.2.2.2 fun v => k lv (aI v :: st) M
  | .sipush _ => am_eI el.2.2.2 fun v => k lv (aI v :: st) M
  | .ldc _ => (match el.2.2.2 with
    | some (Sum.inr (Sum.inr (Sum.inl v))) => k lv (aI v :: st) M
    | some (Sum.inr (Sum.inr (Sum.inr (Sum.inr (Sum.inl v))))) => k lv (v :: st) M
    | _ => False)
  | .ldc_w _ => am_eI el.2.2.2 fun v => k lv (aI v :: st) M
  | .ldc2_w _ => (match el.2.2.2 with
    | some (Sum.inr (Sum.inr (Sum.inr (Sum.inl v)))) => k lv (aL v :: st) M
    | _ => False)
  | .lconst _ => (match el.2.2.2 with
    | some (Sum.inr (Sum.inr (Sum.inr (Sum.inl v)))) => k lv (aL v :: st) M
    | _ => False)
  | .iload_n _ => am_n1 el.2.2.1 fun i => (match am_nth lv i with | some (Sum.inr (Sum.inl x)) => k lv (aI x :: st) M | _ => False)
  | .iload _ => am_n1 el.2.2.1 fun i => (match am_nth lv i with | some (Sum.inr (Sum.inl x)) => k lv (aI x :: st) M | _ => False)
  | .lload_n _ => am_n1 el.2.2.1 fun i => (match am_nth lv i with | some (Sum.inr (Sum.inr x)) => k lv (aL x :: st) M | _ => False)
  | .lload _ => am_n1 el.2.2.1 fun i => (match am_nth lv i with | some (Sum.inr (Sum.inr x)) => k lv (aL x :: st) M | _ => False)
  | .aload_n _ => am_n1 el.2.2.1 fun i => (match am_nth lv i with | some (Sum.inl (kd, j, o)) => k lv (Sum.inl (kd, j, o) :: st) M | _ => False)
  | .aload _ => am_n1 el.2.2.1 fun i => (match am_nth lv i with | some (Sum.inl (kd, j, o)) => k lv (Sum.inl (kd, j, o) :: st) M | _ => False)
  | .istore_n _ => am_n1 el.2.2.1 fun i => am_pI st fun x r => am_ck (am_ok1 lv i) (k (am_set lv i (aI x)) r M)
  | .istore _ => am_n1 el.2.2.1 fun i => am_pI st fun x r => am_ck (am_ok1 lv i) (k (am_set lv i (aI x)) r M)
  | .astore_n _ => am_n1 el.2.2.1 fun i => am_pR st fun kd j o r => am_ck (am_ok1 lv i && !Nat.beq kd 15) (k (am_set lv i (Sum.inl (kd, j, o))) r M)
  | .lstore_n _ => am_n1 el.2.2.1 fun i => am_pL st fun x r => am_ck (am_ok1 lv i && Nat.blt (i + 1) lv.length) (k (am_none (am_set lv i (aL x)) (i + 1)) r M)
  | .iinc _ _ => am_n1 el.2.2.1 fun i => am_eI el.2.2.2 fun v => (match am_nth lv i with | some (Sum.inr (Sum.inl x)) => am_ck (am_ok1 lv i) (k (am_set lv i (aI (x + v))) st M) | _ => False)
  | .iadd => am_pI st fun y r => am_pI r fun x r => k lv (aI (x + y) :: r) M
  | .isub => am_pI st fun y r => am_pI r fun x r => k lv (aI (x - y) :: r) M
  | .imul => am_pI st fun y r => am_pI r fun x r => k lv (aI (x * y) :: r) M
  | .idiv => am_pI st fun y r => am_pI r fun x r => Ob (¬ y = 0) (k lv (aI (x / y) :: r) M)
  | .irem => am_pI st fun y r => am_pI r fun x r => Ob (¬ y = 0) (k lv (aI (x - x / y * y) :: r) M)
  | .ineg => am_pI st fun x r => k lv (aI (-x) :: r) M
  | .iand => am_pI st fun y r => am_pI r fun x r => k lv (aI (x &&& y) :: r) M
  | .ior => am_pI st fun y r => am_pI r fun x r => k lv (aI (x ||| y) :: r) M
  | .ixor => am_pI st fun y r => am_pI r fun x r => k lv (aI (x ^^^ y) :: r) M
  | .ishl => am_pI st fun y r => am_pI r fun x r => k lv (aI (x <<< (y &&& 31)) :: r) M
  | .ishr => am_pI st fun y r => am_pI r fun x r => k lv (aI (x >>> (y &&& 31)) :: r) M
  | .ladd => am_pL st fun y r => am_pL r fun x r => k lv (aL (x + y) :: r) M
  | .land => am_pL st fun y r => am_pL r fun x r => k lv (aL (x &&& y) :: r) M
  | .lor => am_pL st fun y r => am_pL r fun x r => k lv (aL (x ||| y) :: r) M
  | .lshl => am_pI st fun y r => am_pL r fun x r => k lv (aL (x <<< (y.toInt64 &&& 63)) :: r) M
  | .lshr => am_pI st fun y r => am_pL r fun x r => k lv (aL (x >>> (y.toInt64 &&& 63)) :: r) M
  | .lushr => am_pI st fun y r => am_pL r fun x r => k lv (aL (x.toUInt64 >>> (y.toInt64.toUInt64 &&& Int64.toUInt64 63)).toInt64 :: r) M
  | .lcmp => am_pL st fun y r => am_pL r fun x r => k lv (aI (lg_cmp x y) :: r) M
  | .i2l => am_pI st fun x r => k lv (aL x.toInt64 :: r) M
  | .l2i => am_pL st fun x r => k lv (aI x.toInt32 :: r) M
  | .i2b => am_pI st fun x r => k lv (aI x.toInt8.toInt32 :: r) M
  | .i2s => am_pI st fun x r => k lv (aI x.toInt16.toInt32 :: r) M
  | .i2c => am_pI st fun x r => k lv (aI (x.toUInt32 % 65536).toInt32 :: r) M
  | .dup => am_pA st fun x r => k lv (x :: x :: r) M
  | .dup2 => am_pA st fun x r => am_pA r fun y r => k lv (x :: y :: x :: y :: r) M
  | .pop => am_pA st fun _ r => k lv r M
  | .getfield _ => (match el.2.2.2 with
    | some (Sum.inl (c, s)) => am_get M st c s fun r => k lv r M
    | some (Sum.inr (Sum.inr (Sum.inr (Sum.inr (Sum.inr (Sum.inl n)))))) => am_pR st fun kd _ o r => am_ck (Nat.beq kd 13) (match n with | 0 => k lv (aI 0 :: r) M | _ => k lv (aR 14 0 o :: r) M)
    | _ => False)
  | .putfield _ => (match el.2.2.2 with
    | some (Sum.inl (c, s)) => am_put M st c s fun r M2 => k lv r M2
    | _ => False)
  | .getstatic _ => (match el.2.2.2 with
    | some (Sum.inr (Sum.inr (Sum.inl v))) => k lv (aI v :: st) M
    | some (Sum.inr (Sum.inr (Sum.inr (Sum.inr (Sum.inl v))))) => k lv (v :: st) M
    | _ => False)
  | .arraylength => am_len X M st fun r => k lv r M
  | .iaload => am_ild X M st fun r => k lv r M
  | .baload => am_bld M st fun r => k lv r M
  | .iastore => am_ist M st fun r M2 => k lv r M2
  | .bastore => am_bst M st fun r M2 => k lv r M2
  | .if_icmp op _ => am_n1 el.2.2.1 fun t => am_pI st fun y r => am_pI r fun x r => am_cnd op x y (J t lv r M) (k lv r M)
  | .ifCond op _ => am_n1 el.2.2.1 fun t => am_pI st fun x r => am_cnd0 op x (J t lv r M) (k lv r M)
  | .goto _ => am_n1 el.2.2.1 fun t => J t lv st M
  | .tableswitch _ _ _ _ => (match el.2.2.1 with
    | df :: l => am_pI st fun x r => am_sw x (fun t => J t lv r M) df l
    | [] => False)
  | .invokevirtual _ => (match el.2.2.2 with
    | some (Sum.inr (Sum.inl (n, a, kd))) => am_callM d n a (some kd) st M fun r M2 => k lv r M2
    | _ => False)
  | .invokestatic _ => (match el.2.2.2 with
    | some (Sum.inr (Sum.inl (n, a, _))) => am_callM d n a none st M fun r M2 => k lv r M2
    | some (Sum.inr (Sum.inr (Sum.inr (Sum.inr (Sum.inr (Sum.inr _)))))) => am_cpy d M st fun r M2 => k lv r M2
    | _ => False)
  | .ireturn => am_pI st fun x r => am_ck r.isEmpty (am_ret ret x (Rt (some (aI x)) M))
  | .lreturn => am_pL st fun x r => am_ck r.isEmpty (am_retL ret (Rt (some (aL x)) M))
  | .return_ => am_ck st.isEmpty (am_retV ret (Rt none M))
  | _ => False
def am_to (pc : Nat) : List am_E → List am_E
  | [] => []
  | el :: L => match Nat.beq el.1 pc with
    | true => el :: L
    | false => am_to pc L
/-- what comes behind an instruction: at the places of cut it stands as J -/
def am_rst (d : Nat) (X : Option (Nat × (Nat → Int32))) (ret : Option FieldType) (J : Nat → am_L → List am_V → am_M → Prop) (Rt : Option am_V → am_M → Prop) (cut : List Nat) : List am_E → am_L → List am_V → am_M → Prop
  | [] => fun _ _ _ => False
  | el :: L => match cut.any (Nat.beq el.1) with
    | true => J el.1
    | false => am_step d X ret J Rt el (am_rst d X ret J Rt cut L)
def am_blk (d : Nat) (X : Option (Nat × (Nat → Int32))) (ret : Option FieldType) (J : Nat → am_L → List am_V → am_M → Prop) (Rt : Option am_V → am_M → Prop) (cut : List Nat) : List am_E → am_L → List am_V → am_M → Prop
  | [] => fun _ _ _ => False
  | el :: L => am_step d X ret J Rt el (am_rst d X ret J Rt cut L)
/-- J is closed under the code -/
def am_cl (d : Nat) (X : Option (Nat × (Nat → Int32))) (ret : Option FieldType) (code : List am_E) (J : Nat → am_L → List am_V → am_M → Prop) (Rt : Option am_V → am_M → Prop) : Prop := ∀ (cut : List Nat) (pc : Nat) (lv : am_L) (st : List am_V) (M : am_M), am_blk d X ret J Rt cut (am_to pc code) lv st M → J pc lv st M
def am_args : List am_V → am_L
  | [] => []
  | Sum.inr (Sum.inr x) :: t => some (aL x) :: none :: am_args t
  | v :: t => some v :: am_args t
def am_lv0 (nL : Nat) (as : List am_V) : am_L := am_args as ++ List.replicate (nL - (am_args as).length) none
/-- the code comes to its end as Po wants it -/
def am_Sem (d : Nat) (ret : Option FieldType) (code : List am_E) (lv0 : am_L) (M : am_M) (Po : Option am_V → am_M → Prop) : Prop := ∀ J : Nat → am_L → List am_V → am_M → Prop, am_cl d none ret code J Po → J 0 lv0 [] M
end
section
/-! what is checked of a row of code -/
def am_isw : Instr → Bool
  | .tableswitch _ _ _ _ => true
  | _ => false
def am_ln : Instr → Nat
  | .bipush _ => 2
  | .sipush _ => 3
  | .ldc _ => 2
  | .ldc_w _ => 3
  | .ldc2_w _ => 3
  | .iload _ => 2
  | .lload _ => 2
  | .aload _ => 2
  | .istore _ => 2
  | .iinc _ _ => 3
  | .getfield _ => 3
  | .putfield _ => 3
  | .getstatic _ => 3
  | .if_icmp _ _ => 3
  | .ifCond _ _ => 3
  | .goto _ => 3
  | .invokevirtual _ => 3
  | .invokestatic _ => 3
  | .invokespecial _ => 3
  | .new _ => 3
  | _ => 1
def am_swc (pc : Nat) : Int → List Int → List Nat → Bool
  | _, [], [] => true
  | lo, off :: os, t :: c :: l => decide ((pc : Int) + off = (t : Int)) && decide ((c : Int) = lo) && decide (c < 1000) && am_swc pc (lo + 1) os l
  | _, _, _ => false
def am_eIc (en : Option am_N) (v : Int32) : Bool := match en with
  | some (Sum.inr (Sum.inr (Sum.inl x))) => decide (v = x)
  | _ => true
def am_eLc (en : Option am_N) (v : Int64) : Bool := match en with
  | some (Sum.inr (Sum.inr (Sum.inr (Sum.inl x)))) => decide (v = x)
  | _ => true
def am_n1c (ns : List Nat) (n : Nat) : Bool := match ns with
  | i :: _ => decide (n = i)
  | [] => true
def am_tgc (ns : List Nat) (pc : Nat) (off : Int) : Bool := match ns with
  | t :: _ => decide ((pc : Int) + off = (t : Int))
  | [] => true
def am_sc1 (el : am_E) : Bool := match el.2.1 with
  | .iconst n => am_eIc el.2.2.2 (Int32.ofInt n)
  | .bipush n => am_eIc el.2.2.2 (Int8.ofInt n).toInt32
  | .sipush n => am_eIc el.2.2.2 (Int16.ofInt n).toInt32
  | .lconst n => am_eLc el.2.2.2 (Int64.ofNat (n : Nat))
  | .iload_n n => am_n1c el.2.2.1 n
  | .lload_n n => am_n1c el.2.2.1 n
  | .aload_n n => am_n1c el.2.2.1 n
  | .istore_n n => am_n1c el.2.2.1 n
  | .astore_n n => am_n1c el.2.2.1 n
  | .lstore_n n => am_n1c el.2.2.1 n
  | .iload n => am_n1c el.2.2.1 n
  | .lload n => am_n1c el.2.2.1 n
  | .aload n => am_n1c el.2.2.1 n
  | .istore n => am_n1c el.2.2.1 n
  | .iinc i n => am_n1c el.2.2.1 i && am_eIc el.2.2.2 (Int32.ofInt n)
  | .if_icmp _ off => am_tgc el.2.2.1 el.1 off
  | .ifCond _ off => am_tgc el.2.2.1 el.1 off
  | .goto off => am_tgc el.2.2.1 el.1 off
  | .tableswitch df lo hi offs => am_tgc el.2.2.1 el.1 df && am_swc el.1 lo offs.toList (el.2.2.1.drop 1) && decide (hi + 1 = lo + (offs.toList.length : Int))
  | _ => true
def am_key : Instr → Option (Nat × Nat)
  | .getfield i => some (0, i)
  | .putfield i => some (0, i)
  | .ldc i => some (1, i)
  | .ldc_w i => some (1, i)
  | .ldc2_w i => some (2, i)
  | .getstatic i => some (3, i)
  | .invokevirtual i => some (4, i)
  | .invokestatic i => some (5, i)
  | _ => none
def am_eqV (a b : am_V) : Bool := match a, b with
  | Sum.inl (x, y, z), Sum.inl (x2, y2, z2) => x == x2 && y == y2 && z == z2
  | _, _ => false
theorem am_eqV_ok {a b : am_V} (h : am_eqV a b = true) : a = b := by
  unfold am_eqV at h
  split at h
  · simp only [Bool.and_eq_true, beq_iff_eq] at h
    obtain ⟨⟨rfl, rfl⟩, rfl⟩ := h
    rfl
  · cases h
def am_eqN (a b : am_N) : Bool := match a, b with
  | Sum.inl (x, y), Sum.inl (x2, y2) => x == x2 && y == y2
  | Sum.inr (Sum.inl (x, y, z)), Sum.inr (Sum.inl (x2, y2, z2)) => x == x2 && y == y2 && z == z2
  | Sum.inr (Sum.inr (Sum.inl x)), Sum.inr (Sum.inr (Sum.inl y)) => decide (x = y)
  | Sum.inr (Sum.inr (Sum.inr (Sum.inl x))), Sum.inr (Sum.inr (Sum.inr (Sum.inl y))) => decide (x = y)
  | Sum.inr (Sum.inr (Sum.inr (Sum.inr (Sum.inl x)))), Sum.inr (Sum.inr (Sum.inr (Sum.inr (Sum.inl y)))) => am_eqV x y
  | Sum.inr (Sum.inr (Sum.inr (Sum.inr (Sum.inr (Sum.inl x))))), Sum.inr (Sum.inr (Sum.inr (Sum.inr (Sum.inr (Sum.inl y))))) => x == y
  | Sum.inr (Sum.inr (Sum.inr (Sum.inr (Sum.inr (Sum.inr _))))), Sum.inr (Sum.inr (Sum.inr (Sum.inr (Sum.inr (Sum.inr _))))) => true
  | _, _ => false
theorem am_eqN_ok {a b : am_N} (h : am_eqN a b = true) : a = b := by
  unfold am_eqN at h
  split at h
  · simp only [Bool.and_eq_true, beq_iff_eq] at h
    obtain ⟨rfl, rfl⟩ := h
    rfl
  · simp only [Bool.and_eq_true, beq_iff_eq] at h
    obtain ⟨⟨rfl, rfl⟩, rfl⟩ := h
    rfl
  · rw [of_decide_eq_true h]
  · rw [of_decide_eq_true h]
  · rw [am_eqV_ok h]
  · simp only [beq_iff_eq] at h
    rw [h]
  · rfl
  · cases h
def am_poc (pool : List (Nat × Nat × am_N)) (el : am_E) : Bool := match am_key el.2.1, el.2.2.2 with
  | some (t, i), some e => pool.any (fun q => q.1 == t && q.2.1 == i && am_eqN q.2.2 e)
  | _, _ => true
/-- a code against its bytes and a pool -/
def am_chk (cc : ByteArray) (pool : List (Nat × Nat × am_N)) : List am_E → Bool
  | [] => true
  | el :: L => (match decode cc el.1 with
    | .ok (i, n) => decide (i = el.2.1) && (am_isw i || (n == am_ln i && (match L with | [] => true | e2 :: _ => e2.1 == el.1 + n)))
    | .error _ => false) && am_sc1 el && am_poc pool el && am_chk cc pool L
/-- a call's own words -/
def am_cw (t : am_T) (np : Nat) : Prop := Cond.code t.1 t.2.1 t.2.2.1 t.2.2.2 ∈ gtb ∧ Cond.initialized t.1.cls ∈ gtb ∧ t.1.cls ≠ "java/lang/invoke/MethodHandle" ∧ t.1.cls ≠ "java/lang/invoke/VarHandle" ∧ (parseMethodDescriptor t.1.desc).map (fun d => d.parameters.length) = some np ∧ t.2.2.1 ≤ 45
def am_pk (own : String) (tag idx : Nat) (e : am_N) : Prop := match tag, e with
  | 0, Sum.inl (c, s) => ∃ r : vw_C, am_cls[c]? = some r ∧ s < r.2.2 ∧ Cond.fieldLink own idx (r.2.1 s).1 (r.2.1 s).2.1 (r.2.1 s).2.2.1 ∈ gtb
  | 0, Sum.inr (Sum.inr (Sum.inr (Sum.inr (Sum.inr (Sum.inl n))))) => (n = 0 ∧ Cond.fieldLink own idx "java/lang/String" "coder" "B" ∈ gtb) ∨ (n = 1 ∧ Cond.fieldLink own idx "java/lang/String" "value" "[B" ∈ gtb)
  | 1, Sum.inr (Sum.inr (Sum.inl v)) => Cond.constant own idx v ∈ gtb
  | 1, Sum.inr (Sum.inr (Sum.inr (Sum.inr (Sum.inl v)))) => ∃ i, i < 8 ∧ v = aR 13 0 i ∧ own = "PaperedOver$Reader" ∧ idx = am_si i
  | 2, Sum.inr (Sum.inr (Sum.inr (Sum.inl v))) => Cond.constantLong own idx v ∈ gtb
  | 3, Sum.inr (Sum.inr (Sum.inl v)) => v = 1 ∧ Cond.fieldLink own idx "java/lang/String" "COMPACT_STRINGS" "Z" ∈ gtb
  | 3, Sum.inr (Sum.inr (Sum.inr (Sum.inr (Sum.inl v)))) => (∃ i, i < 3 ∧ v = aR 12 0 i ∧ Cond.fieldLink own idx (am_sa i).1 (am_sa i).2 "[I" ∈ gtb) ∨ (v = aR 15 0 0 ∧ Cond.fieldLink own idx "jdk/internal/util/Preconditions" "SIOOBE_FORMATTER" "Ljava/util/function/BiFunction;" ∈ gtb)
  | 4, Sum.inr (Sum.inl (n, a, kd)) => ∃ np, a = np + 1 ∧ am_cw (mt n) np ∧ Cond.methodLink own idx (mt n).1 ∈ gtb ∧ Cond.instanceMethod (mt n).1 ∈ gtb ∧ Cond.selects (mt n).1.cls (mt n).1 (mt n).1 ∈ gtb ∧ ((∃ r : vw_C, am_cls[kd]? = some r ∧ r.1 = (mt n).1.cls) ∨ (kd = 13 ∧ (mt n).1.cls = "java/lang/String"))
  | 5, Sum.inr (Sum.inl (n, a, _)) => am_cw (mt n) a ∧ Cond.static (mt n).1 ∈ gtb ∧ (Cond.methodLink own idx (mt n).1 ∈ gtb ∨ Cond.methodLinkNest own idx (mt n).1 "PaperedOver" ∈ am_nw)
  | 5, Sum.inr (Sum.inr (Sum.inr (Sum.inr (Sum.inr (Sum.inr _))))) => Cond.methodLink own idx arraycopyName ∈ gtb ∧ Cond.native arraycopyName ∈ gtb ∧ Cond.static arraycopyName ∈ gtb ∧ Cond.initialized "java/lang/System" ∈ gtb
  | _, _ => True
end
section
/-! inversions of the machine's words -/
theorem pI_inv {st : List am_V} {f : Int32 → List am_V → Prop} (h : am_pI st f) : ∃ x r, st = aI x :: r ∧ f x r := by
  unfold am_pI at h
  split at h
  · exact ⟨_, _, rfl, h⟩
  · exact h.elim
theorem pL_inv {st : List am_V} {f : Int64 → List am_V → Prop} (h : am_pL st f) : ∃ x r, st = aL x :: r ∧ f x r := by
  unfold am_pL at h
  split at h
  · exact ⟨_, _, rfl, h⟩
  · exact h.elim
theorem pR_inv {st : List am_V} {f : Nat → Nat → Nat → List am_V → Prop} (h : am_pR st f) : ∃ k j o r, st = aR k j o :: r ∧ f k j o r := by
  unfold am_pR at h
  split at h
  · exact ⟨_, _, _, _, rfl, h⟩
  · exact h.elim
theorem pA_inv {st : List am_V} {f : am_V → List am_V → Prop} (h : am_pA st f) : ∃ v r, st = v :: r ∧ (∀ x, v ≠ aL x) ∧ f v r := by
  unfold am_pA at h
  split at h
  · exact ⟨_, _, rfl, (fun x q => by cases q), h⟩
  · exact ⟨_, _, rfl, (fun x q => by cases q), h⟩
  · exact h.elim
theorem n1_inv {ns : List Nat} {f : Nat → Prop} (h : am_n1 ns f) : ∃ i l, ns = i :: l ∧ f i := by
  unfold am_n1 at h
  split at h
  · exact ⟨_, _, rfl, h⟩
  · exact h.elim
theorem eI_inv {en : Option am_N} {f : Int32 → Prop} (h : am_eI en f) : ∃ x, en = some (eI x) ∧ f x := by
  unfold am_eI at h
  split at h
  · exact ⟨_, rfl, h⟩
  · exact h.elim
theorem ck_inv {b : Bool} {P : Prop} (h : am_ck b P) : b = true ∧ P := by
  unfold am_ck at h
  split at h
  · exact ⟨rfl, h⟩
  · exact h.elim
/-! the world -/
theorem am_nodup : am_all.Nodup := by decide +kernel
theorem am_no15 : ∀ q ∈ am_all, ¬ q.1 = 15 := by decide +kernel
theorem am_ro15 : ∀ q ∈ am_ro, q.1 = 15 ∨ ¬ q.1 = 15 := by decide +kernel
section Wl
variable {ad : Nat × Nat × Nat → Nat} {fv : Value} {cI cZ : ClassId}
theorem cv_ref {q : Nat × Nat × Nat} (h : ¬ q.1 = 15) : cv ad fv (Sum.inl q) = .ref (ad q) := by simp [cv, h]
theorem wl_at {M : am_M} {p : Nat} {q : Nat × Nat × Nat} (h : am_all[p]? = some q) : (am_wl ad cI cZ M)[p]? = some (ad q, am_cell ad cI cZ M q) := by simp [am_wl, h]
theorem wl_set {M M2 : am_M} {p : Nat} {q : Nat × Nat × Nat} (h : am_all[p]? = some q) (hM : ∀ q2, q2 ≠ q → am_cell ad cI cZ M2 q2 = am_cell ad cI cZ M q2) : (am_wl ad cI cZ M).set p (ad q, am_cell ad cI cZ M2 q) = am_wl ad cI cZ M2 := by
  apply List.ext_getElem?
  intro i
  by_cases hi : i = p
  · subst hi
    have hl := (List.getElem?_eq_some_iff.mp (wl_at (ad := ad) (cI := cI) (cZ := cZ) (M := M) h)).1
    rw [List.getElem?_set_self hl, wl_at h]
  · rw [List.getElem?_set_ne (Ne.symm hi)]
    simp only [am_wl, List.getElem?_map]
    cases hq : am_all[i]? with
    | none => rfl
    | some q2 =>
      have hne : q2 ≠ q := by
        intro e
        subst e
        exact hi ((List.getElem?_inj (List.getElem?_eq_some_iff.mp hq).1 am_nodup).mp (hq.trans h.symm))
      simp [hM q2 hne]
theorem fl_congr {M M2 : am_M} {k j : Nat} (h : M2 k j 0 = M k j 0) : ∀ (L : List (Option (Nat → Nat × Nat × Nat))) (i : Nat), am_fl ad M2 k j i L = am_fl ad M k j i L
  | [], _ => rfl
  | none :: t, i => by
    show Value.int (M2 k j 0 i) :: am_fl ad M2 k j (i + 1) t = Value.int (M k j 0 i) :: am_fl ad M k j (i + 1) t
    rw [h, fl_congr h t (i + 1)]
  | some g :: t, i => by
    show Value.ref (ad (g j)) :: am_fl ad M2 k j (i + 1) t = Value.ref (ad (g j)) :: am_fl ad M k j (i + 1) t
    rw [fl_congr h t (i + 1)]
theorem fl_none {M : am_M} {k j : Nat} : ∀ (L : List (Option (Nat → Nat × Nat × Nat))) (i s : Nat), L[s]? = some none → (am_fl ad M k j i L)[s]? = some (.int (M k j 0 (i + s)))
  | [], _, _, h => by simp at h
  | none :: t, i, 0, _ => rfl
  | some g :: t, i, 0, h => by simp at h
  | none :: t, i, s + 1, h => by
    show (Value.int (M k j 0 i) :: am_fl ad M k j (i + 1) t)[s + 1]? = _
    rw [List.getElem?_cons_succ, fl_none t (i + 1) s (by simpa using h), Nat.add_right_comm, Nat.add_assoc]
  | some g :: t, i, s + 1, h => by
    show (Value.ref (ad (g j)) :: am_fl ad M k j (i + 1) t)[s + 1]? = _
    rw [List.getElem?_cons_succ, fl_none t (i + 1) s (by simpa using h), Nat.add_right_comm, Nat.add_assoc]
theorem fl_some {M : am_M} {k j : Nat} {g : Nat → Nat × Nat × Nat} : ∀ (L : List (Option (Nat → Nat × Nat × Nat))) (i s : Nat), L[s]? = some (some g) → (am_fl ad M k j i L)[s]? = some (.ref (ad (g j)))
  | [], _, _, h => by simp at h
  | none :: t, i, 0, h => by simp at h
  | some g2 :: t, i, 0, h => by
    simp at h
    subst h
    rfl
  | none :: t, i, s + 1, h => by
    show (Value.int (M k j 0 i) :: am_fl ad M k j (i + 1) t)[s + 1]? = _
    rw [List.getElem?_cons_succ, fl_some t (i + 1) s (by simpa using h)]
  | some g2 :: t, i, s + 1, h => by
    show (Value.ref (ad (g2 j)) :: am_fl ad M k j (i + 1) t)[s + 1]? = _
    rw [List.getElem?_cons_succ, fl_some t (i + 1) s (by simpa using h)]
theorem fl_len {M : am_M} {k j : Nat} : ∀ (L : List (Option (Nat → Nat × Nat × Nat))) (i : Nat), (am_fl ad M k j i L).length = L.length
  | [], _ => rfl
  | none :: t, i => by
    show (am_fl ad M k j (i + 1) t).length + 1 = _
    rw [fl_len t (i + 1)]; rfl
  | some g :: t, i => by
    show (am_fl ad M k j (i + 1) t).length + 1 = _
    rw [fl_len t (i + 1)]; rfl
theorem fl_set {M M2 : am_M} {k j : Nat} {x : Int32} : ∀ (L : List (Option (Nat → Nat × Nat × Nat))) (i s : Nat), L[s]? = some none → M2 k j 0 = upd (M k j 0) (i + s) x → (am_fl ad M k j i L).set s (.int x) = am_fl ad M2 k j i L
  | [], _, _, h, _ => by simp at h
  | none :: t, i, 0, _, hM => by
    have h1 : am_fl ad M2 k j (i + 1) t = am_fl ad M k j (i + 1) t := by
      have key : ∀ (t : List (Option (Nat → Nat × Nat × Nat))) (n : Nat), i < n → am_fl ad M2 k j n t = am_fl ad M k j n t := by
        intro t
        induction t with
        | nil => intro n _; rfl
        | cons a t ih =>
          intro n hn
          cases a with
          | none =>
            show Value.int (M2 k j 0 n) :: am_fl ad M2 k j (n + 1) t = Value.int (M k j 0 n) :: am_fl ad M k j (n + 1) t
            rw [ih (n + 1) (by omega), hM]
            have : ¬ n = i + 0 := by omega
            simp only [upd, if_neg this]
          | some g =>
            show Value.ref (ad (g j)) :: am_fl ad M2 k j (n + 1) t = Value.ref (ad (g j)) :: am_fl ad M k j (n + 1) t
            rw [ih (n + 1) (by omega)]
      exact key t (i + 1) (by omega)
    show Value.int x :: am_fl ad M k j (i + 1) t = Value.int (M2 k j 0 i) :: am_fl ad M2 k j (i + 1) t
    rw [h1, hM]
    simp [upd]
  | some g :: t, i, 0, h, _ => by simp at h
  | none :: t, i, s + 1, h, hM => by
    show Value.int (M k j 0 i) :: (am_fl ad M k j (i + 1) t).set s (.int x) = Value.int (M2 k j 0 i) :: am_fl ad M2 k j (i + 1) t
    rw [fl_set (M2 := M2) t (i + 1) s (by simpa using h) (by rw [hM]; congr 1; omega), hM]
    have : ¬ i = i + (s + 1) := by omega
    simp only [upd, if_neg this]
  | some g :: t, i, s + 1, h, hM => by
    show Value.ref (ad (g j)) :: (am_fl ad M k j (i + 1) t).set s (.int x) = Value.ref (ad (g j)) :: am_fl ad M2 k j (i + 1) t
    rw [fl_set (M2 := M2) t (i + 1) s (by simpa using h) (by rw [hM]; congr 1; omega)]
theorem sA_same {M : am_M} {k j o : Nat} {f : Nat → Int32} : sA M k j o f k j o = f := by simp [sA]
theorem sA_ne {M : am_M} {k j o : Nat} {f : Nat → Int32} {a b c : Nat} (h : ¬ (a, b, c) = (k, j, o)) : sA M k j o f a b c = M a b c := by
  have h2 : ¬ (a = k ∧ b = j ∧ c = o) := fun q => h (by rw [q.1, q.2.1, q.2.2])
  simp only [sA, if_neg h2]
theorem cell_ne {M : am_M} {k j o : Nat} {f : Nat → Int32} : ∀ q2 : Nat × Nat × Nat, q2 ≠ (k, j, o) → am_cell ad cI cZ (sA M k j o f) q2 = am_cell ad cI cZ M q2 := by
  rintro ⟨a, b, c⟩ hne
  unfold am_cell
  cases c with
  | zero =>
    show Sum.inr (a, am_fl ad (sA M k j o f) a b 0 (am_ob a)) = Sum.inr (a, am_fl ad M a b 0 (am_ob a))
    rw [fl_congr (sA_ne hne)]
  | succ c =>
    show (match (am_ar a)[c]? with
      | some bn => Sum.inl (if bn.1 = true then cZ else cI, bn.2, Sum.inl (sA M k j o f a b (c + 1)))
      | none => Sum.inl (cI, 0, Sum.inl (fun _ => 0))) = (match (am_ar a)[c]? with
      | some bn => Sum.inl (if bn.1 = true then cZ else cI, bn.2, Sum.inl (M a b (c + 1)))
      | none => Sum.inl (cI, 0, Sum.inl (fun _ => 0)))
    rw [sA_ne hne]
/-- an array's cell, by its sort -/
theorem cell_arr {M : am_M} {b : Bool} {k j o n : Nat} (h : am_al b k o = some n) : am_cell ad cI cZ M (k, j, o) = .inl (if b then cZ else cI, n, .inl (M k j o)) := by
  unfold am_al at h
  cases o with
  | zero => cases h
  | succ o =>
    dsimp only at h
    show (match (am_ar k)[o]? with
      | some bn => Sum.inl (if bn.1 = true then cZ else cI, bn.2, Sum.inl (M k j (o + 1)))
      | none => Sum.inl (cI, 0, Sum.inl (fun _ => 0))) = _
    cases hq : (am_ar k)[o]? with
    | none => rw [hq] at h; cases h
    | some q =>
      rw [hq] at h
      obtain ⟨q1, q2⟩ := q
      cases q1 <;> cases b <;> first | (cases h; rfl) | cases h
end Wl
/-! locals -/
def am_H (ad : Nat × Nat × Nat → Nat) (fv : Value) (ls : Array Slot) (nL : Nat) (lv : am_L) : Prop := ls.size = nL ∧ lv.length = nL ∧ lv_wf ls ∧ ∀ (i : Nat) (v : am_V), am_nth lv i = some v → ls[i]? = some (.val (cv ad fv v))
def am_as (ad : Nat × Nat × Nat → Nat) (fv : Value) (lv : am_L) : List (Nat × Value) := (List.range lv.length).filterMap (fun i => (am_nth lv i).map (fun v => (i, cv ad fv v)))
theorem nth_lt : ∀ {lv : am_L} {i : Nat} {v : am_V}, am_nth lv i = some v → i < lv.length
  | [], i, v, h => by simp [am_nth] at h
  | x :: t, 0, v, h => by simp
  | x :: t, i + 1, v, h => by
    have := nth_lt (lv := t) (i := i) h
    simp; omega
theorem as_mem {ad : Nat × Nat × Nat → Nat} {fv : Value} {lv : am_L} {i : Nat} {v : am_V} (h : am_nth lv i = some v) : (i, cv ad fv v) ∈ am_as ad fv lv := List.mem_filterMap.mpr ⟨i, List.mem_range.mpr (nth_lt h), by rw [h]; rfl⟩
theorem as_has {ad : Nat × Nat × Nat → Nat} {fv : Value} {ls : Array Slot} {nL : Nat} {lv : am_L} (h : am_H ad fv ls nL lv) : lv_has ls nL (am_as ad fv lv) := by
  refine ⟨h.1, h.2.2.1, fun q hq => ?_⟩
  obtain ⟨i, -, hi⟩ := List.mem_filterMap.mp hq
  cases hv : am_nth lv i with
  | none => rw [hv] at hi; cases hi
  | some v =>
    rw [hv] at hi
    cases hi
    exact h.2.2.2 i v hv
theorem set_nth : ∀ {lv : am_L} {i j : Nat} {v w : am_V}, am_nth (am_set lv i v) j = some w → (j = i ∧ w = v) ∨ (j ≠ i ∧ am_nth lv j = some w)
  | [], i, j, v, w, h => by simp [am_set, am_nth] at h
  | x :: t, 0, 0, v, w, h => by
    left
    simp [am_set, am_nth] at h
    exact ⟨rfl, h.symm⟩
  | x :: t, 0, j + 1, v, w, h => Or.inr ⟨by omega, h⟩
  | x :: t, i + 1, 0, v, w, h => Or.inr ⟨by omega, h⟩
  | x :: t, i + 1, j + 1, v, w, h => by
    rcases set_nth (lv := t) (i := i) (j := j) h with ⟨a, b⟩ | ⟨a, b⟩
    · exact Or.inl ⟨by omega, b⟩
    · exact Or.inr ⟨by omega, b⟩
theorem none_nth : ∀ {lv : am_L} {i j : Nat} {w : am_V}, am_nth (am_none lv i) j = some w → j ≠ i ∧ am_nth lv j = some w
  | [], i, j, w, h => by simp [am_none, am_nth] at h
  | x :: t, 0, 0, w, h => by simp [am_none, am_nth] at h
  | x :: t, 0, j + 1, w, h => ⟨by omega, h⟩
  | x :: t, i + 1, 0, w, h => ⟨by omega, h⟩
  | x :: t, i + 1, j + 1, w, h => by
    obtain ⟨a, b⟩ := none_nth (lv := t) (i := i) (j := j) h
    exact ⟨by omega, b⟩
theorem set_len : ∀ (lv : am_L) (i : Nat) (v : am_V), (am_set lv i v).length = lv.length
  | [], _, _ => rfl
  | _ :: _, 0, _ => rfl
  | x :: t, i + 1, v => by simp [am_set, set_len t i v]
theorem none_len : ∀ (lv : am_L) (i : Nat), (am_none lv i).length = lv.length
  | [], _ => rfl
  | _ :: _, 0 => rfl
  | x :: t, i + 1 => by simp [am_none, none_len t i]
theorem ok1_lt : ∀ {lv : am_L} {i : Nat}, am_ok1 lv i = true → i < lv.length
  | [], i, h => by simp [am_ok1] at h
  | x :: t, 0, h => by simp
  | x :: t, 1, h => by
    simp only [am_ok1, Bool.and_eq_true] at h
    have := ok1_lt (lv := t) (i := 0) h.2
    simp; omega
  | x :: t, i + 2, h => by
    have := ok1_lt (lv := t) (i := i + 1) h
    simp; omega
theorem ok1_prev : ∀ {lv : am_L} {i : Nat} {v : am_V}, am_ok1 lv (i + 1) = true → am_nth lv i = some v → ∀ x, v ≠ aL x
  | [], i, v, h, _ => by simp [am_ok1] at h
  | x :: t, 0, v, h, hv => by
    simp only [am_ok1, Bool.and_eq_true] at h
    intro y hy
    subst hy
    have hx : x = some (aL y) := hv
    subst hx
    simp [am_isL] at h
  | x :: t, i + 1, v, h, hv => ok1_prev (lv := t) (i := i) h hv
theorem cv_cat1 {ad : Nat × Nat × Nat → Nat} {fv : Value} (hf : fv = .null ∨ ∃ t : Nat, fv = .ref t) {v : am_V} (h : ∀ x, v ≠ aL x) : (cv ad fv v).category = 1 := by
  rcases v with q | x | x
  · by_cases hq : q.1 = 15
    · rcases hf with rfl | ⟨t, rfl⟩ <;> simp [cv, hq, Value.category]
    · simp [cv, hq, Value.category]
  · rfl
  · exact absurd rfl (h x)
theorem H_set1 {ad : Nat × Nat × Nat → Nat} {fv : Value} (hf : fv = .null ∨ ∃ t : Nat, fv = .ref t) {ls ls2 : Array Slot} {nL i : Nat} {lv : am_L} {v : am_V} (h : am_H ad fv ls nL lv) (ho : am_ok1 lv i = true) (h2 : lv_has ls2 nL ((i, cv ad fv v) :: (am_as ad fv lv).filter (fun q => !(q.1 == i) && !(q.1 + 1 == i && q.2.category == 2)))) : am_H ad fv ls2 nL (am_set lv i v) := by
  refine ⟨h2.1, (set_len lv i v).trans h.2.1, h2.2.1, fun j w hw => ?_⟩
  rcases set_nth hw with ⟨rfl, rfl⟩ | ⟨hne, hw3⟩
  · exact h2.2.2 _ List.mem_cons_self
  · refine h2.2.2 (j, cv ad fv w) (List.mem_cons_of_mem _ (List.mem_filter.mpr ⟨as_mem hw3, ?_⟩))
    by_cases hj : j + 1 = i
    · subst hj
      have := cv_cat1 (ad := ad) hf (ok1_prev ho hw3)
      simp [this]
    · simp [hne, hj]
theorem H_set2 {ad : Nat × Nat × Nat → Nat} {fv : Value} (hf : fv = .null ∨ ∃ t : Nat, fv = .ref t) {ls ls2 : Array Slot} {nL i : Nat} {lv : am_L} {v : am_V} (h : am_H ad fv ls nL lv) (ho : am_ok1 lv i = true) (h2 : lv_has ls2 nL ((i, cv ad fv v) :: (am_as ad fv lv).filter (fun q => !(q.1 == i) && (!(q.1 == i + 1) && !(q.1 + 1 == i && q.2.category == 2))))) : am_H ad fv ls2 nL (am_none (am_set lv i v) (i + 1)) := by
  refine ⟨h2.1, (none_len _ _).trans ((set_len lv i v).trans h.2.1), h2.2.1, fun j w hw => ?_⟩
  obtain ⟨hn1, hw⟩ := none_nth hw
  rcases set_nth hw with ⟨rfl, rfl⟩ | ⟨hne, hw3⟩
  · exact h2.2.2 _ List.mem_cons_self
  · refine h2.2.2 (j, cv ad fv w) (List.mem_cons_of_mem _ (List.mem_filter.mpr ⟨as_mem hw3, ?_⟩))
    by_cases hj : j + 1 = i
    · subst hj
      have := cv_cat1 (ad := ad) hf (ok1_prev ho hw3)
      simp [this, hn1]
    · simp [hne, hj, hn1]
def am_lvl (lv : am_L) : Prop := ∀ (i : Nat) (v : am_V), am_nth lv i = some v → am_vl v
theorem lvl_set {lv : am_L} {i : Nat} {v : am_V} (h : am_lvl lv) (hv : am_vl v) : am_lvl (am_set lv i v) := by
  intro j w hw
  rcases set_nth hw with ⟨-, rfl⟩ | ⟨-, hw⟩
  · exact hv
  · exact h j w hw
theorem lvl_none {lv : am_L} {i : Nat} (h : am_lvl lv) : am_lvl (am_none lv i) := fun j w hw => h j w (none_nth hw).2
/-! a switch -/
theorem ofNat_toInt {c : Nat} (h : c < 1000) : (Int32.ofNat c).toInt = (c : Int) := nI_toInt (n := c) (by omega)
theorem sw_in {pc : Nat} {x : Int32} {K : Nat → Prop} {df : Nat} : ∀ (os : List Int) (l : List Nat) (lo : Int) (i : Nat) (off : Int), am_swc pc lo os l = true → os[i]? = some off → x.toInt = lo + i → am_sw x K df l → ∃ t : Nat, (pc : Int) + off = (t : Int) ∧ K t
  | [], l, lo, i, off, _, h, _, _ => by simp at h
  | o :: os, [], lo, i, off, h, _, _, _ => by simp [am_swc] at h
  | o :: os, [t], lo, i, off, h, _, _, _ => by simp [am_swc] at h
  | o :: os, t :: c :: l, lo, 0, off, h, ho, hx, hs => by
    simp only [am_swc, Bool.and_eq_true, decide_eq_true_eq] at h
    simp at ho
    subst ho
    refine ⟨t, h.1.1.1, hs.1 (Int32.toInt_inj.mp ?_)⟩
    rw [ofNat_toInt h.1.2, h.1.1.2, hx]
    simp
  | o :: os, t :: c :: l, lo, i + 1, off, h, ho, hx, hs => by
    simp only [am_swc, Bool.and_eq_true, decide_eq_true_eq] at h
    have hne : ¬ x = Int32.ofNat c := by
      intro e
      rw [e, ofNat_toInt h.1.2, h.1.1.2] at hx
      omega
    exact sw_in os l (lo + 1) i off h.2 (by simpa using ho) (by rw [hx]; omega) (hs.2 hne)
theorem sw_out {pc : Nat} {x : Int32} {K : Nat → Prop} {df : Nat} : ∀ (os : List Int) (l : List Nat) (lo : Int), am_swc pc lo os l = true → (x.toInt < lo ∨ lo + os.length ≤ x.toInt) → am_sw x K df l → K df
  | [], [], lo, _, _, hs => hs
  | [], t :: l, lo, h, _, _ => by simp [am_swc] at h
  | o :: os, [], lo, h, _, _ => by simp [am_swc] at h
  | o :: os, [t], lo, h, _, _ => by simp [am_swc] at h
  | o :: os, t :: c :: l, lo, h, hx, hs => by
    simp only [am_swc, Bool.and_eq_true, decide_eq_true_eq] at h
    have hne : ¬ x = Int32.ofNat c := by
      intro e
      rw [e, ofNat_toInt h.1.2, h.1.1.2] at hx
      simp at hx
      omega
    exact sw_out os l (lo + 1) h.2 (by simp at hx; omega) (hs.2 hne)
end
section
section Snd
variable {p : Program} {l : Launch} {e : Env} {R : Room} {s : State} {m : MethodId} {args : Array Value} {below : List Frame} {meth : Method} {c : Code} {cells slots : Nat} {Q : State → Prop} {cc : ByteArray} {nL : Nat} {own : String} {D : va_G} {ad : Nat × Nat × Nat → Nat} {fv : Value} {cI cZ : ClassId} {A : Nat → Prop} {d : Nat} {X : Option (Nat × (Nat → Int32))} {ret : Option FieldType} {Rt : Option am_V → am_M → Prop}
def am_J (p : Program) (l : Launch) (e : Env) (R : Room) (s : State) (m : MethodId) (args : Array Value) (below : List Frame) (meth : Method) (c : Code) (cells slots : Nat) (Q : State → Prop) (nL : Nat) (D : va_G) (ad : Nat × Nat × Nat → Nat) (fv : Value) (cI cZ : ClassId) (A : Nat → Prop) : Nat → am_L → List am_V → am_M → Prop := fun pc lv st M =>
  ∀ (H : Heap) (locs : List Loc) (ls : Array Slot), va_P D am_cls (am_wl ad cI cZ M) H → va_S A s.heap H locs → am_H ad fv ls nL lv → am_lvl lv → (∀ v ∈ st, am_vl v) → W p l e R s m args below meth c H locs cells slots Q (F0 m pc ls (st.map (cv ad fv)))
def am_X (X : Option (Nat × (Nat → Int32))) (ad : Nat × Nat × Nat → Nat) (s : State) (A : Nat → Prop) : Prop := match X with
  | none => True
  | some (L, xs) => va_X (ad (16, 0, 0)) L xs s s.heap ∧ ad (16, 0, 0) < s.heap.size ∧ ¬ A (ad (16, 0, 0))
def am_Cx (p : Program) (R : Room) (s : State) (m : MethodId) (args : Array Value) (c : Code) (cells slots : Nat) (cc : ByteArray) (nL : Nat) (own : String) (D : va_G) (ad : Nat × Nat × Nat → Nat) (fv : Value) (cI cZ : ClassId) (A : Nat → Prop) (d : Nat) (X : Option (Nat × (Nat → Int32))) : Prop :=
  p.tables.exec = Jvm.exec ∧ c.code = cc ∧ c.maxLocals = nL ∧ s.vm.findClass own = some m.cls ∧ (∀ w ∈ gtb, w.before args s = true) ∧ va_K D am_cls [(cI, .int), (cZ, .boolean)] s ∧ (∀ M, va_D A (am_wl ad cI cZ M)) ∧ am_Ev ad fv A s s.heap ∧ (d ≤ R.frames ∧ 64 * d ≤ R.locals) ∧ (cells ≤ R.cells ∧ slots ≤ R.slots) ∧ am_X X ad s A
theorem Af_A (hD : ∀ M, va_D A (am_wl ad cI cZ M)) : ∀ q, am_Af ad q → A q := by
  rintro q ⟨k, hk, rfl⟩
  obtain ⟨i, hi⟩ := List.getElem?_of_mem hk
  exact (hD (fun _ _ _ _ => 0)).2 i _ (wl_at hi)
theorem D_Af (hD : ∀ M, va_D A (am_wl ad cI cZ M)) (M : am_M) : va_D (am_Af ad) (am_wl ad cI cZ M) := by
  refine (hD M).weaken (fun k q hq _ => ?_)
  simp only [am_wl, List.getElem?_map] at hq
  cases hk : am_all[k]? with
  | none => rw [hk] at hq; cases hq
  | some x =>
    rw [hk] at hq
    cases hq
    exact ⟨x, List.mem_of_getElem? hk, rfl⟩
theorem gin {L : List Cond} (h : ∀ w ∈ L, w ∈ gtb) : GoodIn gtb L := fun w hw => gtb_good w (h w hw)
theorem am_ws_in {t : am_T} (h : Cond.code t.1 t.2.1 t.2.2.1 t.2.2.2 ∈ gtb) : ∀ w ∈ am_ws t, w ∈ gtb := by
  intro w hw
  rcases List.mem_cons.mp hw with rfl | hw
  · exact h
  · exact hw
theorem am_run {H : Heap} {locs : List Loc} {ls : Array Slot} {pc : Nat} {st0 rest : List Value} {a : Array Value} {Po : Option am_V → am_M → Prop} (hr : va_Run p l e R s m args below meth c H locs cells slots 0 0 (F0 m pc ls st0) rest (am_Q D ad fv cI cZ Po a) (am_Af ad)) (hS : va_S A s.heap H locs) (hA : ∀ q, am_Af ad q → A q)
    (kk : ∀ (r : Option am_V) (M2 : am_M), Po r M2 → ∀ (H1 : Heap) (locs1 : List Loc), va_P D am_cls (am_wl ad cI cZ M2) H1 → va_S A s.heap H1 locs1 → W p l e R s m args below meth c H1 locs1 cells slots Q (F0 m (pc + 3) ls ((r.map (cv ad fv)).toList ++ rest))) : W p l e R s m args below meth c H locs cells slots Q (F0 m pc ls st0) := by
  intro T hT X'
  obtain ⟨v, st₀, t, T', L, h0, X', hL, e1, e2, ⟨r, M2, hpo, hv, hp, hz, hk⟩, st⟩ := hr T hT X'
  have hv2 : v = r.map (cv ad fv) := by injection hv
  subst hv2
  rw [h0] at hz hk
  obtain ⟨t2, a1, b1⟩ := kk r M2 hpo T'.heap (locs ++ L) (by rw [e1]; exact hp) ⟨Nat.le_trans hS.1 (by rw [e1]; exact hz), fun q h1 h2 => by rw [e1, hk q (Nat.lt_of_lt_of_le h1 hS.1) (fun z => h2 (hA q z))]; exact hS.2.1 q h1 h2, fun q hq => by
      rcases List.mem_append.mp hq with h | h
      · exact hS.2.2 q h
      · exact hA _ (hL q h)⟩ T' rfl X'
  exact ⟨t2, st t2 a1, b1⟩
theorem am_blind {M : am_M} {av : List Value} : FrameBlind (va_Pc av (am_B D ad fv cI cZ M)) := by
  intro a U g mk h
  obtain ⟨h1, h2, h3, h4, h5⟩ := h
  exact ⟨h1, h2, h3, va_K.moved (u := U) (U := U.calling g mk a) (Vm.Alike.refl U.vm) h4, h5.call⟩
theorem am_pre (C : am_Cx p R s m args c cells slots cc nL own D ad fv cI cZ A d X) {H : Heap} {locs : List Loc} {M : am_M} (hP : va_P D am_cls (am_wl ad cI cZ M) H) (hS : va_S A s.heap H locs) {av : List Value} : ∀ U : State, U.heap = H → s.WarmedH U.vm → va_Pc av (am_B D ad fv cI cZ M) av.toArray U := by
  obtain ⟨hx, hb, hml, hown, hts, hK, hD, hE, hR, hR2, hX⟩ := C
  intro U hU hW
  exact ⟨rfl, by rw [hU]; exact hP, D_Af hD M, va_K.moved hW.alike hK, hE.go hS hU hW (Af_A hD)⟩
theorem cat_sum (hf : fv = .null ∨ ∃ t : Nat, fv = .ref t) : ∀ rest : List am_V, ((rest.map (cv ad fv)).map fun v => v.category).sum = am_cat rest
  | [] => rfl
  | Sum.inl q :: r => by
    have h1 := cv_cat1 (ad := ad) hf (v := Sum.inl q) (fun x h => by cases h)
    simp only [List.map_cons, List.sum_cons, h1, am_cat]
    rw [cat_sum hf r]
  | Sum.inr (Sum.inl x) :: r => by
    have h1 := cv_cat1 (ad := ad) hf (v := Sum.inr (Sum.inl x)) (fun x h => by cases h)
    simp only [List.map_cons, List.sum_cons, h1, am_cat]
    rw [cat_sum hf r]
  | Sum.inr (Sum.inr x) :: r => by
    simp only [List.map_cons, List.sum_cons, am_cat]
    rw [cat_sum hf r]
    rfl
theorem pop_inv : ∀ (n : Nat) (st acc as rest : List am_V), am_pop n st acc = some (as, rest) → ∃ bs, st = bs ++ rest ∧ as = bs.reverse ++ acc ∧ bs.length = n
  | 0, st, acc, as, rest, h => by
    simp only [am_pop, Option.some.injEq, Prod.mk.injEq] at h
    exact ⟨[], by simp [h.2], by simp [h.1], rfl⟩
  | n + 1, [], acc, as, rest, h => by simp [am_pop] at h
  | n + 1, v :: st, acc, as, rest, h => by
    obtain ⟨bs, h1, h2, h3⟩ := pop_inv n st (v :: acc) as rest h
    exact ⟨v :: bs, by simp [h1], by simp [h2], by simp [h3]⟩
/-- a call of a static method -/
theorem am_callS (C : am_Cx p R s m args c cells slots cc nL own D ad fv cI cZ A d X) {n d2 idx pc kd : Nat} {as rest : List am_V} {M : am_M} {Po : Option am_V → am_M → Prop} (hc : ConP d2 n as M Po) (hd2 : d2 < d) (hpk : am_pk own 5 idx (eC n as.length kd)) {H : Heap} {locs : List Loc} {ls : Array Slot} (hP : va_P D am_cls (am_wl ad cI cZ M) H) (hS : va_S A s.heap H locs) (hsz : ls.size = nL) (hcat : am_cat rest ≤ 8) (hval : ∀ v ∈ as, am_vl v) (hdg : decode cc pc = .ok (.invokestatic idx, 3))
    (kk : ∀ (r : Option am_V) (M2 : am_M), Po r M2 → ∀ (H1 : Heap) (locs1 : List Loc), va_P D am_cls (am_wl ad cI cZ M2) H1 → va_S A s.heap H1 locs1 → W p l e R s m args below meth c H1 locs1 cells slots Q (F0 m (pc + 3) ls ((r.map (cv ad fv)).toList ++ rest.map (cv ad fv)))) : W p l e R s m args below meth c H locs cells slots Q (F0 m pc ls ((as.map (cv ad fv)).reverse ++ rest.map (cv ad fv))) := by
  have hpre := am_pre C hP hS (av := as.map (cv ad fv))
  obtain ⟨hx, hb, hml, hown, hts, hK, hD, hE, hR, hR2, hX⟩ := C
  obtain ⟨⟨w1, w2, w3, w4, w5, w6⟩, hst, hlink⟩ := hpk
  have hws := am_ws_in w1
  have hroom : (am_rm d2).frames + 1 ≤ R.frames ∧ 8 + ((mt n).2.2.1 + 11) + (am_rm d2).locals ≤ R.locals := by
    have e1 : (am_rm d2).frames = d2 := rfl
    have e2 : (am_rm d2).locals = 64 * d2 := rfl
    rw [e1, e2]
    omega
  have hcat2 : 2 * (F0 m pc ls ((as.map (cv ad fv)).reverse ++ rest.map (cv ad fv))).monitorRoom + ((rest.map (cv ad fv)).map fun v => v.category).sum ≤ 8 := lv_room (by rw [cat_sum hE.2.2.2.2.1]; exact hcat)
  rcases hlink with hlink | hlink
  · exact am_run (va_runS (As := as.map (cv ad fv)) (rest := rest.map (cv ad fv)) ⟨hx, hb, hml, hown, hts⟩ (hc l D ad fv cI cZ hval) (va_cwS (ws' := gtb) as.length hts (gin (by
      intro w hw
      rcases List.mem_append.mp hw with h | h
      · simp only [List.mem_cons, List.not_mem_nil, or_false] at h
        rcases h with rfl | rfl | rfl
        · exact hlink
        · exact hst
        · exact w2
      · exact hws w h)) rfl rfl rfl ⟨w3, w4, w5⟩ hroom) ⟨am_blind, hpre⟩ rfl (by simp) hsz rfl hcat2 hdg ⟨hR2.1, hR2.2⟩) hS (Af_A hD) kk
  · exact am_run (va_runSN (host := "PaperedOver") (As := as.map (cv ad fv)) (rest := rest.map (cv ad fv)) ⟨hx, hb, hml, hown, hts⟩ (hc l D ad fv cI cZ hval) ⟨va_cnB (ws' := gtb) as.length hts (gin hws) rfl rfl rfl (hE.1 _ hlink) (hts _ w2) ⟨w3, w4, w5⟩ hroom, hts _ hst, trivial⟩ ⟨am_blind, hpre⟩ rfl (by simp) hsz rfl hcat2 hdg ⟨hR2.1, hR2.2⟩) hS (Af_A hD) kk
/-- a call of an instance's method -/
theorem am_callV (C : am_Cx p R s m args c cells slots cc nL own D ad fv cI cZ A d X) {n d2 idx pc k j o : Nat} {as rest : List am_V} {M : am_M} {Po : Option am_V → am_M → Prop} (hc : ConP d2 n (aR k j o :: as) M Po) (hd2 : d2 < d) (ho : o = 0 ∨ k = 13) (hpk : am_pk own 4 idx (eC n (as.length + 1) k)) {H : Heap} {locs : List Loc} {ls : Array Slot} (hP : va_P D am_cls (am_wl ad cI cZ M) H) (hS : va_S A s.heap H locs) (hsz : ls.size = nL) (hcat : am_cat rest ≤ 8) (hval : ∀ v ∈ aR k j o :: as, am_vl v) (hdg : decode cc pc = .ok (.invokevirtual idx, 3))
    (kk : ∀ (r : Option am_V) (M2 : am_M), Po r M2 → ∀ (H1 : Heap) (locs1 : List Loc), va_P D am_cls (am_wl ad cI cZ M2) H1 → va_S A s.heap H1 locs1 → W p l e R s m args below meth c H1 locs1 cells slots Q (F0 m (pc + 3) ls ((r.map (cv ad fv)).toList ++ rest.map (cv ad fv)))) : W p l e R s m args below meth c H locs cells slots Q (F0 m pc ls ((as.map (cv ad fv)).reverse ++ cv ad fv (aR k j o) :: rest.map (cv ad fv))) := by
  have hpre := am_pre C hP hS (av := (aR k j o :: as).map (cv ad fv))
  obtain ⟨hx, hb, hml, hown, hts, hK, hD, hE, hR, hR2, hX⟩ := C
  obtain ⟨np, hnp, ⟨w1, w2, w3, w4, w5, w6⟩, hlink, hin, hsel, hcls⟩ := hpk
  have hnp : np = as.length := by omega
  subst hnp
  have hws := am_ws_in w1
  have hroom : (am_rm d2).frames + 1 ≤ R.frames ∧ 8 + ((mt n).2.2.1 + 11) + (am_rm d2).locals ≤ R.locals := by
    have e1 : (am_rm d2).frames = d2 := rfl
    have e2 : (am_rm d2).locals = 64 * d2 := rfl
    rw [e1, e2]
    omega
  have hcat2 : 2 * (F0 m pc ls ((as.map (cv ad fv)).reverse ++ cv ad fv (aR k j o) :: rest.map (cv ad fv))).monitorRoom + ((rest.map (cv ad fv)).map fun v => v.category).sum ≤ 8 := lv_room (by rw [cat_sum hE.2.2.2.2.1]; exact hcat)
  have hgood : GoodIn gtb (wsV own idx (mt n).1.cls (mt n).1 (am_ws (mt n))) := gin (by
      intro w hw
      rcases List.mem_append.mp hw with h | h
      · simp only [List.mem_cons, List.not_mem_nil, or_false] at h
        rcases h with rfl | rfl | rfl | rfl
        · exact hlink
        · exact hin
        · exact hsel
        · exact w2
      · exact hws w h)
  have hv1 : am_vl (aR k j o) := hval _ List.mem_cons_self
  have hrec : ¬ k = 15 ∧ ∃ cell : Cell, H[ad (k, j, o)]? = some cell ∧ cell.vm.isStatics = false ∧ s.vm.findClass (mt n).1.cls = some cell.cls := by
    rcases hcls with ⟨rc, h1, h2⟩ | ⟨h1, h2⟩
    · have hk12 : k < 12 := (List.getElem?_eq_some_iff.mp h1).1
      refine ⟨by omega, ?_⟩
      rcases ho with rfl | rfl
      · rcases hv1 with hv1 | hv1
        · obtain ⟨i, hi⟩ := List.getElem?_of_mem hv1
          have := va_recv hK hP h1 (q0 := i) (a := ad (k, j, 0)) (fs := am_fl ad M k j 0 (am_ob k)) (wl_at hi)
          rw [h2] at this
          exact this
        · exfalso
          revert hv1
          simp only [am_ro, List.mem_cons, Prod.mk.injEq, List.not_mem_nil, or_false]
          omega
      · omega
    · subst h1
      refine ⟨by omega, ?_⟩
      rcases hv1 with hv1 | hv1
      · exact absurd hv1 (fun h => absurd ((by decide +kernel : ∀ q ∈ am_all, q.1 < 12) _ h) (show ¬ (13 : Nat) < 12 by decide))
      · have hj : j = 0 ∧ o < 8 := by
          revert hv1
          simp only [am_ro, List.mem_cons, Prod.mk.injEq, List.not_mem_nil, or_false]
          omega
        obtain ⟨rfl, ho8⟩ := hj
        have := vk_recv hE.2.2.2.2.2.1 ho8 hS
        rw [h2]
        exact this
  have hcv : cv ad fv (aR k j o) = .ref (ad (k, j, o)) := cv_ref hrec.1
  rw [hcv]
  have hM := hc l D ad fv cI cZ hval
  have e0 : (aR k j o :: as).map (cv ad fv) = Value.ref (ad (k, j, o)) :: as.map (cv ad fv) := by rw [List.map_cons, hcv]
  rw [e0] at hM hpre
  exact am_run (va_runV (As := as.map (cv ad fv)) (rest := rest.map (cv ad fv)) ⟨hx, hb, hml, hown, hts⟩ hM (cwV (ws' := gtb) as.length hts hgood rfl rfl rfl ⟨rfl, w3, w4, w5⟩ hroom) ⟨am_blind, hrec.2, hpre⟩ rfl (by simp) hsz rfl (by rw [hcv] at hcat2; exact hcat2) hdg ⟨hR2.1, hR2.2⟩) hS (Af_A hD) kk
end Snd
end
section
theorem ck_bb {a b c : Nat} (h : (Nat.beq a b && Nat.beq c 0) = true) : a = b ∧ c = 0 := by
  obtain ⟨h1, h2⟩ := (Bool.and_eq_true _ _).mp h
  exact ⟨Nat.eq_of_beq_eq_true h1, Nat.eq_of_beq_eq_true h2⟩
/-! the facts of the shapes, by program -/
theorem sh_ref : ∀ q ∈ am_all, ∀ g, some g ∈ am_ob q.1 → q.2.2 = 0 → g q.2.1 ∈ am_all := by
  intro q hq g hg h0
  have key : am_all.all (fun q => !(q.2.2 == 0) || (am_ob q.1).all (fun x => match x with | some g => decide (g q.2.1 ∈ am_all) | none => true)) = true := by decide +kernel
  have h1 := List.all_eq_true.mp key q hq
  simp only [h0, beq_self_eq_true, Bool.not_true, Bool.false_or] at h1
  have h2 := List.all_eq_true.mp h1 _ hg
  exact of_decide_eq_true h2
theorem sh_put : ∀ c, c < 12 → ∀ s, s < 40 → (am_ob c)[s]? = some none → ∃ r : vw_C, am_cls[c]? = some r ∧ (r.2.1 s).2.2.2 = false ∧ parseFieldDescriptor (r.2.1 s).2.2.1 = some (if am_fb c s then .boolean else .int) := by
  have key : (List.range 12).all (fun c => (List.range 40).all (fun s => match (am_ob c)[s]? with
    | some none => (match am_cls[c]? with | some r => decide ((r.2.1 s).2.2.2 = false) && decide (parseFieldDescriptor (r.2.1 s).2.2.1 = some (if am_fb c s then .boolean else .int)) | none => false)
    | _ => true)) = true := by decide +kernel
  intro c hc s hs h
  have h1 := List.all_eq_true.mp (List.all_eq_true.mp key c (List.mem_range.mpr hc)) s (List.mem_range.mpr hs)
  rw [h] at h1
  cases hr : am_cls[c]? with
  | none => rw [hr] at h1; cases h1
  | some r =>
    rw [hr] at h1
    simp only [Bool.and_eq_true, decide_eq_true_eq] at h1
    exact ⟨r, rfl, h1.1, h1.2⟩
theorem sh_len : ∀ c, c < 12 → ∃ r : vw_C, am_cls[c]? = some r ∧ r.2.2 = (am_ob c).length ∧ r.2.2 < 40 := by
  have key : (List.range 12).all (fun c => match am_cls[c]? with | some r => decide (r.2.2 = (am_ob c).length) && decide (r.2.2 < 40) | none => false) = true := by decide +kernel
  intro c hc
  have h1 := List.all_eq_true.mp key c (List.mem_range.mpr hc)
  cases hr : am_cls[c]? with
  | none => rw [hr] at h1; cases h1
  | some r =>
    rw [hr] at h1
    simp only [Bool.and_eq_true, decide_eq_true_eq] at h1
    exact ⟨r, rfl, h1.1, h1.2⟩
def am_clok : Prop := ∀ (c : Nat) (r : vw_C), am_cls[c]? = some r → (∀ w ∈ u_ws r.1 r.2.1 r.2.2, w ∈ gtb) ∧ (∃ ty0 : Nat → FieldType, ∀ k, k < r.2.2 → parseFieldDescriptor (r.2.1 k).2.2.1 = some (ty0 k)) ∧ ∀ a, a < r.2.2 → ∀ b, b < r.2.2 → a ≠ b → (r.2.1 a).2.1 ≠ (r.2.1 b).2.1
theorem vl_in {k j o : Nat} (h : am_vl (aR k j o)) (hk : k < 12) : (k, j, o) ∈ am_all := by
  rcases h with h | h
  · exact h
  · exfalso
    revert h
    simp only [am_ro, List.mem_cons, Prod.mk.injEq, List.not_mem_nil, or_false]
    omega
theorem vl_all {q : Nat × Nat × Nat} (h : q ∈ am_all) : am_vl (Sum.inl q) := Or.inl h
theorem al_lt {b : Bool} {k o n : Nat} (h : am_al b k o = some n) : k < 12 := by
  unfold am_al at h
  cases o with
  | zero => cases h
  | succ o =>
    dsimp only at h
    by_cases hk : k < 12
    · exact hk
    · have : am_ar k = [] := by
        unfold am_ar
        split <;> first | rfl | omega
      rw [this] at h
      simp at h
section Snd2
variable {p : Program} {l : Launch} {e : Env} {R : Room} {s : State} {m : MethodId} {args : Array Value} {below : List Frame} {meth : Method} {c : Code} {cells slots : Nat} {Q : State → Prop} {cc : ByteArray} {nL : Nat} {own : String} {D : va_G} {ad : Nat × Nat × Nat → Nat} {fv : Value} {cI cZ : ClassId} {A : Nat → Prop} {d : Nat} {X : Option (Nat × (Nat → Int32))} {ret : Option FieldType} {Rt : Option am_V → am_M → Prop}
theorem snd_get (hcl : am_clok) (C : am_Cx p R s m args c cells slots cc nL own D ad fv cI cZ A d X) {idx pc ci sl : Nat} {lv : am_L} {st : List am_V} {M : am_M} {K : List am_V → Prop} (hpk : am_pk own 0 idx (eF ci sl)) (hdg : decode cc pc = .ok (.getfield idx, 3)) (hk : ∀ r, K r → am_J p l e R s m args below meth c cells slots Q nL D ad fv cI cZ A (pc + 3) lv r M) (h : am_get M st ci sl K) : am_J p l e R s m args below meth c cells slots Q nL D ad fv cI cZ A pc lv st M := by
  obtain ⟨hx, hb, hml, hown, hts, hK, hD, hE, hR, hR2, hX⟩ := C
  obtain ⟨k, j, o, r, rfl, h2⟩ := pR_inv h
  clear h
  obtain ⟨hb2, h⟩ := ck_inv h2
  clear h2
  obtain ⟨rfl, rfl⟩ := ck_bb hb2
  obtain ⟨rc, hrc, hsl, hlink⟩ := hpk
  obtain ⟨hw, -, -⟩ := hcl _ _ hrc
  intro H locs ls hP hS hl hlv hst
  have hk12 : k < 12 := (List.getElem?_eq_some_iff.mp hrc).1
  have hin := vl_in (hst _ List.mem_cons_self) hk12
  obtain ⟨i, hi⟩ := List.getElem?_of_mem hin
  have hat := wl_at (ad := ad) (cI := cI) (cZ := cZ) (M := M) hi
  show W p l e R s m args below meth c H locs cells slots Q (F0 m pc ls (cv ad fv (Sum.inl (k, j, 0)) :: r.map (cv ad fv)))
  rw [cv_ref (am_no15 _ hin)]
  cases ho : (am_ob k)[sl]? with
  | none => rw [ho] at h; exact h.elim
  | some x =>
    rw [ho] at h
    cases x with
    | none =>
      exact va_get hx hb hts hw hown hK hP i hat hrc sl hsl (hts _ hlink) (fun _ q => q) (v := .int (M k j 0 sl)) (by rw [fl_none _ _ _ ho, Nat.zero_add]) hdg (hk _ h H locs ls hP hS hl hlv (fun v hv => by
        rcases List.mem_cons.mp hv with rfl | hv
        · exact trivial
        · exact hst v (List.mem_cons_of_mem _ hv)))
    | some g =>
      have hg : g j ∈ am_all := sh_ref _ hin g (List.mem_of_getElem? ho) rfl
      refine va_get hx hb hts hw hown hK hP i hat hrc sl hsl (hts _ hlink) (fun _ q => q) (v := .ref (ad (g j))) (fl_some _ _ _ ho) hdg ?_
      have := hk _ h H locs ls hP hS hl hlv (fun v hv => by
        rcases List.mem_cons.mp hv with rfl | hv
        · exact vl_all hg
        · exact hst v (List.mem_cons_of_mem _ hv))
      rw [List.map_cons, cv_ref (am_no15 _ hg)] at this
      exact this
theorem snd_put (hcl : am_clok) (C : am_Cx p R s m args c cells slots cc nL own D ad fv cI cZ A d X) {idx pc ci sl : Nat} {lv : am_L} {st : List am_V} {M : am_M} {K : List am_V → am_M → Prop} (hpk : am_pk own 0 idx (eF ci sl)) (hdg : decode cc pc = .ok (.putfield idx, 3)) (hk : ∀ r M2, K r M2 → am_J p l e R s m args below meth c cells slots Q nL D ad fv cI cZ A (pc + 3) lv r M2) (h : am_put M st ci sl K) : am_J p l e R s m args below meth c cells slots Q nL D ad fv cI cZ A pc lv st M := by
  obtain ⟨hx, hb, hml, hown, hts, hK, hD, hE, hR, hR2, hX⟩ := C
  obtain ⟨x, r1, rfl, h1⟩ := pI_inv h
  clear h
  obtain ⟨k, j, o, r, rfl, h2⟩ := pR_inv h1
  clear h1
  obtain ⟨hb2, h⟩ := ck_inv h2
  clear h2
  obtain ⟨rfl, rfl⟩ := ck_bb hb2
  obtain ⟨rc, hrc, hsl, hlink⟩ := hpk
  obtain ⟨hw, ⟨ty0, hty⟩, hnm⟩ := hcl _ _ hrc
  intro H locs ls hP hS hl hlv hst
  have hk12 : k < 12 := (List.getElem?_eq_some_iff.mp hrc).1
  obtain ⟨rc2, hrc2, hlen, h40⟩ := sh_len k hk12
  obtain rfl : rc = rc2 := Option.some.inj (hrc.symm.trans hrc2)
  have hin := vl_in (hst _ (List.mem_cons_of_mem _ List.mem_cons_self)) hk12
  obtain ⟨i, hi⟩ := List.getElem?_of_mem hin
  have hat := wl_at (ad := ad) (cI := cI) (cZ := cZ) (M := M) hi
  show W p l e R s m args below meth c H locs cells slots Q (F0 m pc ls (.int x :: cv ad fv (Sum.inl (k, j, 0)) :: r.map (cv ad fv)))
  rw [cv_ref (am_no15 _ hin)]
  cases ho : (am_ob k)[sl]? with
  | none => rw [ho] at h; exact h.elim
  | some y =>
    rw [ho] at h
    cases y with
    | some g => exact h.elim
    | none =>
      obtain ⟨rc3, hrc3, hfin, hd⟩ := sh_put k hk12 sl (by omega) ho
      obtain rfl : rc = rc3 := Option.some.inj (hrc.symm.trans hrc3)
      have hKv : K r (sA M k j 0 (upd (M k j 0) sl x)) ∧ narrow (if am_fb k sl then .boolean else .int) (.int x) = .int x ∧ fits (if am_fb k sl then .boolean else .int) (.int x) = true := by
        dsimp only at h
        cases hfb : am_fb k sl with
        | false => rw [hfb] at h; exact ⟨h, rfl, rfl⟩
        | true =>
          rw [hfb] at h
          have h1 : vp_nar .boolean x = x := h.1
          have h2 : x &&& 1 = x := h1
          refine ⟨h.2, by show Value.int (x &&& 1) = .int x; rw [h2], ?_⟩
          show (x == 0 || x == 1) = true
          obtain ⟨q, hq, e1⟩ := pk_andE x (m := 1) 1 (by decide)
          rw [h2] at e1
          have : q = 0 ∨ q = 1 := by omega
          rcases this with rfl | rfl <;> (rw [e1]; decide)
      have hset : (am_wl ad cI cZ M).set i (ad (k, j, 0), .inr (k, (am_fl ad M k j 0 (am_ob k)).set sl (.int x))) = am_wl ad cI cZ (sA M k j 0 (upd (M k j 0) sl x)) := by
        rw [← wl_set (M2 := sA M k j 0 (upd (M k j 0) sl x)) hi (cell_ne)]
        congr 2
        show Sum.inr (k, _) = Sum.inr (k, am_fl ad (sA M k j 0 (upd (M k j 0) sl x)) k j 0 (am_ob k))
        rw [fl_set (M2 := sA M k j 0 (upd (M k j 0) sl x)) _ _ _ ho (by rw [sA_same, Nat.zero_add])]
      refine va_put hx hb hts hw ty0 hty hnm hown hK hP (hD M) hS i hat hrc sl hsl (hts _ hlink) (fun _ q => q) hfin hd hKv.2.1 hKv.2.2 (by rw [fl_len]; show sl < (am_ob k).length; omega) hdg (fun H1 locs1 hP1 _ hS1 => ?_)
      have hP2 : va_P D am_cls (am_wl ad cI cZ (sA M k j 0 (upd (M k j 0) sl x))) H1 := by
        rw [← hset]
        exact hP1
      exact hk _ _ hKv.1 H1 locs1 ls hP2 hS1 hl hlv (fun v hv => hst v (List.mem_cons_of_mem _ (List.mem_cons_of_mem _ hv)))
end Snd2
end
section
section Snd3
variable {p : Program} {l : Launch} {e : Env} {R : Room} {s : State} {m : MethodId} {args : Array Value} {below : List Frame} {meth : Method} {c : Code} {cells slots : Nat} {Q : State → Prop} {cc : ByteArray} {nL : Nat} {own : String} {D : va_G} {ad : Nat × Nat × Nat → Nat} {fv : Value} {cI cZ : ClassId} {A : Nat → Prop} {d : Nat} {X : Option (Nat × (Nat → Int32))} {ret : Option FieldType} {Rt : Option am_V → am_M → Prop}
theorem vl_tl {v : am_V} {st : List am_V} (h : ∀ w ∈ v :: st, am_vl w) : ∀ w ∈ st, am_vl w := fun w hw => h w (List.mem_cons_of_mem _ hw)
theorem vl_cons {v : am_V} {st : List am_V} (hv : am_vl v) (h : ∀ w ∈ st, am_vl w) : ∀ w ∈ v :: st, am_vl w := fun w hw => by
  rcases List.mem_cons.mp hw with rfl | hw
  · exact hv
  · exact h w hw
theorem snd_ild (C : am_Cx p R s m args c cells slots cc nL own D ad fv cI cZ A d X) {pc : Nat} {lv : am_L} {st : List am_V} {M : am_M} {K : List am_V → Prop} (hdg : decode cc pc = .ok (.iaload, 1)) (hk : ∀ r, K r → am_J p l e R s m args below meth c cells slots Q nL D ad fv cI cZ A (pc + 1) lv r M) (h : am_ild X M st K) : am_J p l e R s m args below meth c cells slots Q nL D ad fv cI cZ A pc lv st M := by
  obtain ⟨hx, hb, hml, hown, hts, hK, hD, hE, hR, hR2, hX⟩ := C
  obtain ⟨i, r1, rfl, h1⟩ := pI_inv h
  clear h
  obtain ⟨k, j, o, r, rfl, h⟩ := pR_inv h1
  clear h1
  intro H locs ls hP hS hl hlv hst
  have hst2 := vl_tl (vl_tl hst)
  have hv1 : am_vl (aR k j o) := hst _ (List.mem_cons_of_mem _ List.mem_cons_self)
  show W p l e R s m args below meth c H locs cells slots Q (F0 m pc ls (.int i :: cv ad fv (Sum.inl (k, j, o)) :: r.map (cv ad fv)))
  cases ha : am_al false k o with
  | some n =>
    rw [ha] at h
    have hin := vl_in hv1 (al_lt ha)
    obtain ⟨i2, hi⟩ := List.getElem?_of_mem hin
    have hat := wl_at (ad := ad) (cI := cI) (cZ := cZ) (M := M) hi
    rw [cell_arr ha] at hat
    rw [cv_ref (am_no15 _ hin)]
    exact va_iald hx hb hK hP i2 0 hat rfl h.1 hdg (hk _ h.2 H locs ls hP hS hl hlv (vl_cons trivial hst2))
  | none =>
    rw [ha] at h
    dsimp only at h
    split at h
    · have hv2 : j = 0 ∧ o < 3 := by
        rcases hv1 with q | q
        · exact absurd ((by decide +kernel : ∀ q ∈ am_all, q.1 < 12) _ q) (show ¬ (12 : Nat) < 12 by decide)
        · revert q
          simp only [am_ro, List.mem_cons, Prod.mk.injEq, List.not_mem_nil, or_false]
          omega
      obtain ⟨rfl, ho⟩ := hv2
      rw [cv_ref (show ¬ (12 : Nat) = 15 by decide)]
      exact va_ti hx hb (hE.2.1 o ho).2 hS h.1 rfl hdg (hk _ h.2 H locs ls hP hS hl hlv (vl_cons trivial hst2))
    · cases X with
      | none => exact h.elim
      | some q =>
        obtain ⟨L, xs⟩ := q
        have hv2 : j = 0 ∧ o = 0 := by
          rcases hv1 with q | q
          · exact absurd ((by decide +kernel : ∀ q ∈ am_all, q.1 < 12) _ q) (show ¬ (16 : Nat) < 12 by decide)
          · revert q
            simp only [am_ro, List.mem_cons, Prod.mk.injEq, List.not_mem_nil, or_false]
            omega
        obtain ⟨rfl, rfl⟩ := hv2
        rw [cv_ref (show ¬ (16 : Nat) = 15 by decide)]
        exact va_sld hx hb hX.1 hX.2.1 hX.2.2 hS h.1 hdg (hk _ h.2 H locs ls hP hS hl hlv (vl_cons trivial hst2))
    · exact h.elim
theorem snd_bld (C : am_Cx p R s m args c cells slots cc nL own D ad fv cI cZ A d X) {pc : Nat} {lv : am_L} {st : List am_V} {M : am_M} {K : List am_V → Prop} (hdg : decode cc pc = .ok (.baload, 1)) (hk : ∀ r, K r → am_J p l e R s m args below meth c cells slots Q nL D ad fv cI cZ A (pc + 1) lv r M) (h : am_bld M st K) : am_J p l e R s m args below meth c cells slots Q nL D ad fv cI cZ A pc lv st M := by
  obtain ⟨hx, hb, hml, hown, hts, hK, hD, hE, hR, hR2, hX⟩ := C
  obtain ⟨i, r1, rfl, h1⟩ := pI_inv h
  clear h
  obtain ⟨k, j, o, r, rfl, h⟩ := pR_inv h1
  clear h1
  intro H locs ls hP hS hl hlv hst
  have hst2 := vl_tl (vl_tl hst)
  have hv1 : am_vl (aR k j o) := hst _ (List.mem_cons_of_mem _ List.mem_cons_self)
  show W p l e R s m args below meth c H locs cells slots Q (F0 m pc ls (.int i :: cv ad fv (Sum.inl (k, j, o)) :: r.map (cv ad fv)))
  cases ha : am_al true k o with
  | some n =>
    rw [ha] at h
    have hin := vl_in hv1 (al_lt ha)
    obtain ⟨i2, hi⟩ := List.getElem?_of_mem hin
    have hat := wl_at (ad := ad) (cI := cI) (cZ := cZ) (M := M) hi
    rw [cell_arr ha] at hat
    rw [cv_ref (am_no15 _ hin)]
    exact va_zald hx hb hK hP i2 1 hat rfl h.1 hdg (hk _ h.2 H locs ls hP hS hl hlv (vl_cons trivial hst2))
  | none =>
    rw [ha] at h
    dsimp only at h
    split at h
    · have hv2 : j = 0 ∧ o < 8 := by
        rcases hv1 with q | q
        · exact absurd ((by decide +kernel : ∀ q ∈ am_all, q.1 < 12) _ q) (show ¬ (14 : Nat) < 12 by decide)
        · revert q
          simp only [am_ro, List.mem_cons, Prod.mk.injEq, List.not_mem_nil, or_false]
          omega
      obtain ⟨rfl, ho⟩ := hv2
      rw [cv_ref (show ¬ (14 : Nat) = 15 by decide)]
      exact va_tb hx hb (hE.2.2.2.2.2.1.1 o ho).2.2.2 hS h.1 rfl hdg (hk _ h.2 H locs ls hP hS hl hlv (vl_cons trivial hst2))
    · exact h.elim
theorem snd_len (C : am_Cx p R s m args c cells slots cc nL own D ad fv cI cZ A d X) {pc : Nat} {lv : am_L} {st : List am_V} {M : am_M} {K : List am_V → Prop} (hdg : decode cc pc = .ok (.arraylength, 1)) (hk : ∀ r, K r → am_J p l e R s m args below meth c cells slots Q nL D ad fv cI cZ A (pc + 1) lv r M) (h : am_len X M st K) : am_J p l e R s m args below meth c cells slots Q nL D ad fv cI cZ A pc lv st M := by
  obtain ⟨hx, hb, hml, hown, hts, hK, hD, hE, hR, hR2, hX⟩ := C
  obtain ⟨k, j, o, r, rfl, h1⟩ := pR_inv h
  clear h
  have h := h1
  clear h1
  intro H locs ls hP hS hl hlv hst
  have hst2 := vl_tl hst
  have hv1 : am_vl (aR k j o) := hst _ List.mem_cons_self
  show W p l e R s m args below meth c H locs cells slots Q (F0 m pc ls (cv ad fv (Sum.inl (k, j, o)) :: r.map (cv ad fv)))
  cases ha : am_al false k o with
  | some n =>
    rw [ha] at h
    have hin := vl_in hv1 (al_lt ha)
    obtain ⟨i2, hi⟩ := List.getElem?_of_mem hin
    have hat := wl_at (ad := ad) (cI := cI) (cZ := cZ) (M := M) hi
    rw [cell_arr ha] at hat
    rw [cv_ref (am_no15 _ hin)]
    exact va_alen hx hb hK hP i2 0 hat (ty := .int) rfl rfl hdg (hk _ h H locs ls hP hS hl hlv (vl_cons trivial hst2))
  | none =>
    rw [ha] at h
    dsimp only at h
    split at h
    · have hv2 : j = 0 ∧ o < 3 := by
        rcases hv1 with q | q
        · exact absurd ((by decide +kernel : ∀ q ∈ am_all, q.1 < 12) _ q) (show ¬ (12 : Nat) < 12 by decide)
        · revert q
          simp only [am_ro, List.mem_cons, Prod.mk.injEq, List.not_mem_nil, or_false]
          omega
      obtain ⟨rfl, ho⟩ := hv2
      rw [cv_ref (show ¬ (12 : Nat) = 15 by decide)]
      exact va_tlen hx hb (hE.2.1 o ho).2 hS rfl hdg (hk _ h H locs ls hP hS hl hlv (vl_cons trivial hst2))
    · have hv2 : j = 0 ∧ o < 8 := by
        rcases hv1 with q | q
        · exact absurd ((by decide +kernel : ∀ q ∈ am_all, q.1 < 12) _ q) (show ¬ (14 : Nat) < 12 by decide)
        · revert q
          simp only [am_ro, List.mem_cons, Prod.mk.injEq, List.not_mem_nil, or_false]
          omega
      obtain ⟨rfl, ho⟩ := hv2
      rw [cv_ref (show ¬ (14 : Nat) = 15 by decide)]
      exact va_tlen hx hb (hE.2.2.2.2.2.1.1 o ho).2.2.2 hS rfl hdg (hk _ h H locs ls hP hS hl hlv (vl_cons trivial hst2))
    · cases X with
      | none => exact h.elim
      | some q =>
        obtain ⟨L, xs⟩ := q
        have hv2 : j = 0 ∧ o = 0 := by
          rcases hv1 with q | q
          · exact absurd ((by decide +kernel : ∀ q ∈ am_all, q.1 < 12) _ q) (show ¬ (16 : Nat) < 12 by decide)
          · revert q
            simp only [am_ro, List.mem_cons, Prod.mk.injEq, List.not_mem_nil, or_false]
            omega
        obtain ⟨rfl, rfl⟩ := hv2
        rw [cv_ref (show ¬ (16 : Nat) = 15 by decide)]
        exact va_slen hx hb hX.1 hX.2.1 hX.2.2 hS hdg (hk _ h H locs ls hP hS hl hlv (vl_cons trivial hst2))
    · exact h.elim
theorem wl_setA {b : Bool} {M : am_M} {k j o n i : Nat} {f : Nat → Int32} (ha : am_al b k o = some n) (hi : am_all[i]? = some (k, j, o)) : (am_wl ad cI cZ M).set i (ad (k, j, o), .inl (if b then cZ else cI, n, .inl f)) = am_wl ad cI cZ (sA M k j o f) := by
  rw [← wl_set (M2 := sA M k j o f) hi cell_ne, cell_arr ha, sA_same]
theorem snd_ist (C : am_Cx p R s m args c cells slots cc nL own D ad fv cI cZ A d X) {pc : Nat} {lv : am_L} {st : List am_V} {M : am_M} {K : List am_V → am_M → Prop} (hdg : decode cc pc = .ok (.iastore, 1)) (hk : ∀ r M2, K r M2 → am_J p l e R s m args below meth c cells slots Q nL D ad fv cI cZ A (pc + 1) lv r M2) (h : am_ist M st K) : am_J p l e R s m args below meth c cells slots Q nL D ad fv cI cZ A pc lv st M := by
  obtain ⟨hx, hb, hml, hown, hts, hK, hD, hE, hR, hR2, hX⟩ := C
  obtain ⟨x, r0, rfl, h0⟩ := pI_inv h
  clear h
  obtain ⟨i, r1, rfl, h1⟩ := pI_inv h0
  clear h0
  obtain ⟨k, j, o, r, rfl, h⟩ := pR_inv h1
  clear h1
  intro H locs ls hP hS hl hlv hst
  have hst2 := vl_tl (vl_tl (vl_tl hst))
  have hv1 : am_vl (aR k j o) := hst _ (List.mem_cons_of_mem _ (List.mem_cons_of_mem _ List.mem_cons_self))
  show W p l e R s m args below meth c H locs cells slots Q (F0 m pc ls (.int x :: .int i :: cv ad fv (Sum.inl (k, j, o)) :: r.map (cv ad fv)))
  cases ha : am_al false k o with
  | none => rw [ha] at h; exact h.elim
  | some n =>
    rw [ha] at h
    have hin := vl_in hv1 (al_lt ha)
    obtain ⟨i2, hi⟩ := List.getElem?_of_mem hin
    have hat := wl_at (ad := ad) (cI := cI) (cZ := cZ) (M := M) hi
    rw [cell_arr ha] at hat
    rw [cv_ref (am_no15 _ hin)]
    refine va_iast hx hb hK hP (hD M) hS i2 0 hat rfl h.1 hdg (fun H1 locs1 hP1 _ hS1 => ?_)
    have hP2 : va_P D am_cls (am_wl ad cI cZ (sA M k j o (upd (M k j o) i.toNatClampNeg x))) H1 := by
      rw [← wl_setA ha hi]
      exact hP1
    exact hk _ _ h.2 H1 locs1 ls hP2 hS1 hl hlv hst2
theorem snd_bst (C : am_Cx p R s m args c cells slots cc nL own D ad fv cI cZ A d X) {pc : Nat} {lv : am_L} {st : List am_V} {M : am_M} {K : List am_V → am_M → Prop} (hdg : decode cc pc = .ok (.bastore, 1)) (hk : ∀ r M2, K r M2 → am_J p l e R s m args below meth c cells slots Q nL D ad fv cI cZ A (pc + 1) lv r M2) (h : am_bst M st K) : am_J p l e R s m args below meth c cells slots Q nL D ad fv cI cZ A pc lv st M := by
  obtain ⟨hx, hb, hml, hown, hts, hK, hD, hE, hR, hR2, hX⟩ := C
  obtain ⟨x, r0, rfl, h0⟩ := pI_inv h
  clear h
  obtain ⟨i, r1, rfl, h1⟩ := pI_inv h0
  clear h0
  obtain ⟨k, j, o, r, rfl, h⟩ := pR_inv h1
  clear h1
  intro H locs ls hP hS hl hlv hst
  have hst2 := vl_tl (vl_tl (vl_tl hst))
  have hv1 : am_vl (aR k j o) := hst _ (List.mem_cons_of_mem _ (List.mem_cons_of_mem _ List.mem_cons_self))
  show W p l e R s m args below meth c H locs cells slots Q (F0 m pc ls (.int x :: .int i :: cv ad fv (Sum.inl (k, j, o)) :: r.map (cv ad fv)))
  cases ha : am_al true k o with
  | none => rw [ha] at h; exact h.elim
  | some n =>
    rw [ha] at h
    have hin := vl_in hv1 (al_lt ha)
    obtain ⟨i2, hi⟩ := List.getElem?_of_mem hin
    have hat := wl_at (ad := ad) (cI := cI) (cZ := cZ) (M := M) hi
    rw [cell_arr ha] at hat
    rw [cv_ref (am_no15 _ hin)]
    refine va_zast hx hb hK hP (hD M) hS i2 1 hat rfl h.1 hdg (fun H1 locs1 hP1 _ hS1 => ?_)
    have hP2 : va_P D am_cls (am_wl ad cI cZ (sA M k j o (upd (M k j o) i.toNatClampNeg (vp_nar .boolean x)))) H1 := by
      rw [← wl_setA ha hi]
      exact hP1
    exact hk _ _ h.2 H1 locs1 ls hP2 hS1 hl hlv hst2
theorem snd_cpy (C : am_Cx p R s m args c cells slots cc nL own D ad fv cI cZ A d X) {pc idx : Nat} {lv : am_L} {st : List am_V} {M : am_M} {K : List am_V → am_M → Prop} (hpk : am_pk own 5 idx eX) (hdg : decode cc pc = .ok (.invokestatic idx, 3)) (hk : ∀ r M2, K r M2 → am_J p l e R s m args below meth c cells slots Q nL D ad fv cI cZ A (pc + 3) lv r M2) (h : am_cpy d M st K) : am_J p l e R s m args below meth c cells slots Q nL D ad fv cI cZ A pc lv st M := by
  obtain ⟨hx, hb, hml, hown, hts, hK, hD, hE, hR, hR2, hX⟩ := C
  obtain ⟨w1, w2, w3, w4⟩ := hpk
  obtain ⟨n, r0, rfl, h0⟩ := pI_inv h
  clear h
  obtain ⟨dp, r1, rfl, h1⟩ := pI_inv h0
  clear h0
  obtain ⟨k1, j1, o1, r2, rfl, h2⟩ := pR_inv h1
  clear h1
  obtain ⟨sp, r3, rfl, h3⟩ := pI_inv h2
  clear h2
  obtain ⟨k0, j0, o0, r, rfl, h4⟩ := pR_inv h3
  clear h3
  obtain ⟨hck, h⟩ := ck_inv h4
  clear h4
  obtain ⟨hd1, hr⟩ := (Bool.and_eq_true _ _).mp hck
  obtain rfl := List.isEmpty_iff.mp hr
  have hd1 : 1 ≤ d := Nat.le_of_ble_eq_true hd1
  intro H locs ls hP hS hl hlv hst
  have hv1 : am_vl (aR k1 j1 o1) := hst _ (List.mem_cons_of_mem _ (List.mem_cons_of_mem _ List.mem_cons_self))
  have hv0 : am_vl (aR k0 j0 o0) := hst _ (List.mem_cons_of_mem _ (List.mem_cons_of_mem _ (List.mem_cons_of_mem _ (List.mem_cons_of_mem _ List.mem_cons_self))))
  show W p l e R s m args below meth c H locs cells slots Q (F0 m pc ls (.int n :: .int dp :: cv ad fv (Sum.inl (k1, j1, o1)) :: .int sp :: cv ad fv (Sum.inl (k0, j0, o0)) :: []))
  cases ha0 : am_al false k0 o0 with
  | none => rw [ha0] at h; exact h.elim
  | some n0 =>
    cases ha1 : am_al false k1 o1 with
    | none => rw [ha0, ha1] at h; exact h.elim
    | some n1 =>
      rw [ha0, ha1] at h
      obtain ⟨⟨g1, g2, g3, g4, g5⟩, h⟩ := h
      have hin0 := vl_in hv0 (al_lt ha0)
      have hin1 := vl_in hv1 (al_lt ha1)
      obtain ⟨i0, hi0⟩ := List.getElem?_of_mem hin0
      obtain ⟨i1, hi1⟩ := List.getElem?_of_mem hin1
      have hat0 := wl_at (ad := ad) (cI := cI) (cZ := cZ) (M := M) hi0
      have hat1 := wl_at (ad := ad) (cI := cI) (cZ := cZ) (M := M) hi1
      rw [cell_arr ha0] at hat0
      rw [cell_arr ha1] at hat1
      rw [cv_ref (am_no15 _ hin0), cv_ref (am_no15 _ hin1)]
      refine va_copyi hx hb (hml.trans hl.1.symm) hown (hts _ w1) (hts _ w2) (hts _ w3) (hts _ w4) hK hP (hD M) hS i0 i1 0 0 (ty := .int) hat0 hat1 rfl rfl rfl g1 g2 g3 g4 g5 (fun _ _ => rfl) (Nat.le_trans hd1 hR.1) (by
        have : nativeFrameWords "java/lang/System" "arraycopy" 5 ≤ 50 := by decide +kernel
        show 0 + _ ≤ _
        omega) hdg (fun H1 locs1 hP1 _ hS1 => ?_)
      have hP2 : va_P D am_cls (am_wl ad cI cZ (sA M k1 j1 o1 (va_cpy (M k0 j0 o0) (M k1 j1 o1) sp.toNatClampNeg dp.toNatClampNeg n.toNatClampNeg))) H1 := by
        rw [← wl_setA ha1 hi1]
        exact hP1
      exact hk _ _ h H1 locs1 ls hP2 hS1 hl hlv (fun v hv => by cases hv)
end Snd3
end
section
theorem ro_12 {i : Nat} (h : i < 3) : am_vl (aR 12 0 i) := by
  have : i = 0 ∨ i = 1 ∨ i = 2 := by omega
  rcases this with rfl | rfl | rfl <;> exact Or.inr (by decide)
theorem ro_13 {i : Nat} (h : i < 8) : am_vl (aR 13 0 i) := by
  have : i = 0 ∨ i = 1 ∨ i = 2 ∨ i = 3 ∨ i = 4 ∨ i = 5 ∨ i = 6 ∨ i = 7 := by omega
  rcases this with rfl | rfl | rfl | rfl | rfl | rfl | rfl | rfl <;> exact Or.inr (by decide)
theorem ro_14 {i : Nat} (h : i < 8) : am_vl (aR 14 0 i) := by
  have : i = 0 ∨ i = 1 ∨ i = 2 ∨ i = 3 ∨ i = 4 ∨ i = 5 ∨ i = 6 ∨ i = 7 := by omega
  rcases this with rfl | rfl | rfl | rfl | rfl | rfl | rfl | rfl <;> exact Or.inr (by decide)
section Snd4
variable {p : Program} {l : Launch} {e : Env} {R : Room} {s : State} {m : MethodId} {args : Array Value} {below : List Frame} {meth : Method} {c : Code} {cells slots : Nat} {Q : State → Prop} {cc : ByteArray} {nL : Nat} {own : String} {D : va_G} {ad : Nat × Nat × Nat → Nat} {fv : Value} {cI cZ : ClassId} {A : Nat → Prop} {d : Nat} {X : Option (Nat × (Nat → Int32))} {ret : Option FieldType} {Rt : Option am_V → am_M → Prop}
def am_Re (p : Program) (l : Launch) (e : Env) (R : Room) (s : State) (m : MethodId) (args : Array Value) (below : List Frame) (meth : Method) (c : Code) (cells slots : Nat) (Q : State → Prop) (cc : ByteArray) (D : va_G) (ad : Nat × Nat × Nat → Nat) (cI cZ : ClassId) (A : Nat → Prop) (ret : Option FieldType) (Rt : Option am_V → am_M → Prop) : Prop :=
  (∀ (x : Int32) (M : am_M) (H : Heap) (locs : List Loc) (ls : Array Slot) (pc : Nat), am_ret ret x (Rt (some (aI x)) M) → va_P D am_cls (am_wl ad cI cZ M) H → va_S A s.heap H locs → decode cc pc = .ok (.ireturn, 1) → W p l e R s m args below meth c H locs cells slots Q (F0 m pc ls [.int x])) ∧
  (∀ (x : Int64) (M : am_M) (H : Heap) (locs : List Loc) (ls : Array Slot) (pc : Nat), am_retL ret (Rt (some (aL x)) M) → va_P D am_cls (am_wl ad cI cZ M) H → va_S A s.heap H locs → decode cc pc = .ok (.lreturn, 1) → W p l e R s m args below meth c H locs cells slots Q (F0 m pc ls [.long x])) ∧
  (∀ (M : am_M) (H : Heap) (locs : List Loc) (ls : Array Slot) (pc : Nat), am_retV ret (Rt none M) → va_P D am_cls (am_wl ad cI cZ M) H → va_S A s.heap H locs → decode cc pc = .ok (.return_, 1) → W p l e R s m args below meth c H locs cells slots Q (F0 m pc ls []))
set_option maxHeartbeats 4000000 in
theorem snd_step (hcl : am_clok) (C : am_Cx p R s m args c cells slots cc nL own D ad fv cI cZ A d X) (hRe : am_Re p l e R s m args below meth c cells slots Q cc D ad cI cZ A ret Rt) {el : am_E} {k : am_L → List am_V → am_M → Prop} {n : Nat} (hdec : decode cc el.1 = .ok (el.2.1, n)) (hn : am_isw el.2.1 = false → n = am_ln el.2.1) (hk : am_isw el.2.1 = false → ∀ lv st M, k lv st M → am_J p l e R s m args below meth c cells slots Q nL D ad fv cI cZ A (el.1 + n) lv st M) (hsc : am_sc1 el = true) (hpo : ∀ t i en, am_key el.2.1 = some (t, i) → el.2.2.2 = some en → am_pk own t i en) {lv : am_L} {st : List am_V} {M : am_M} (h : am_step d X ret (am_J p l e R s m args below meth c cells slots Q nL D ad fv cI cZ A) Rt el k lv st M) : am_J p l e R s m args below meth c cells slots Q nL D ad fv cI cZ A el.1 lv st M := by
  obtain ⟨pc, ins, ns, en⟩ := el
  have C0 := C
  obtain ⟨hx, hb, hml, hown, hts, hK, hD, hE, hR, hR2, hX⟩ := C0
  have hf := hE.2.2.2.2.1
  cases ins with
  | iconst b =>
    obtain rfl : n = 1 := hn rfl
    replace hk := hk rfl
    obtain ⟨v, rfl, h2⟩ := eI_inv h
    intro H locs ls hP hS hl hlv hst
    exact lv_iconst hx hb hdec (of_decide_eq_true hsc) (hk _ _ _ h2 H locs ls hP hS hl hlv (vl_cons trivial hst))
  | bipush b =>
    obtain rfl : n = 2 := hn rfl
    replace hk := hk rfl
    obtain ⟨v, rfl, h2⟩ := eI_inv h
    intro H locs ls hP hS hl hlv hst
    exact lv_bipush hx hb hdec (of_decide_eq_true hsc) (hk _ _ _ h2 H locs ls hP hS hl hlv (vl_cons trivial hst))
  | sipush b =>
    obtain rfl : n = 3 := hn rfl
    replace hk := hk rfl
    obtain ⟨v, rfl, h2⟩ := eI_inv h
    intro H locs ls hP hS hl hlv hst
    exact lv_sipush hx hb hdec (of_decide_eq_true hsc) (hk _ _ _ h2 H locs ls hP hS hl hlv (vl_cons trivial hst))
  | lconst b =>
    obtain rfl : n = 1 := hn rfl
    replace hk := hk rfl
    cases en with
    | none => exact h.elim
    | some ev =>
      rcases ev with cs | cl | ci | cj | cr | ct | cu
      · exact h.elim
      · exact h.elim
      · exact h.elim
      · intro H locs ls hP hS hl hlv hst
        exact lv_lconst hx hb hdec (of_decide_eq_true hsc) (hk _ _ _ h H locs ls hP hS hl hlv (vl_cons trivial hst))
      · exact h.elim
      · exact h.elim
      · exact h.elim
  | ldc idx =>
    obtain rfl : n = 2 := hn rfl
    replace hk := hk rfl
    cases en with
    | none => exact h.elim
    | some ev =>
      rcases ev with cs | cl | ci | cj | cr | ct | cu
      · exact h.elim
      · exact h.elim
      · intro H locs ls hP hS hl hlv hst
        exact lv_ldc hx hb hown (hts _ (hpo 1 idx _ rfl rfl)) hdec (hk _ _ _ h H locs ls hP hS hl hlv (vl_cons trivial hst))
      · exact h.elim
      · obtain ⟨i, hi, rfl, hw, rfl⟩ := hpo 1 idx _ rfl rfl
        subst hw
        intro H locs ls hP hS hl hlv hst
        refine va_ldcS hx hb hown (hE.2.2.2.2.2.2 i hi) hdec ?_
        have h5 := hk _ _ _ h H locs ls hP hS hl hlv (vl_cons (ro_13 hi) hst)
        rw [List.map_cons, cv_ref (show ¬ (13 : Nat) = 15 by decide)] at h5
        exact h5
      · exact h.elim
      · exact h.elim
  | ldc_w idx =>
    obtain rfl : n = 3 := hn rfl
    replace hk := hk rfl
    obtain ⟨v, rfl, h2⟩ := eI_inv h
    intro H locs ls hP hS hl hlv hst
    exact lv_ldcw hx hb hown (hts _ (hpo 1 idx _ rfl rfl)) hdec (hk _ _ _ h2 H locs ls hP hS hl hlv (vl_cons trivial hst))
  | ldc2_w idx =>
    obtain rfl : n = 3 := hn rfl
    replace hk := hk rfl
    cases en with
    | none => exact h.elim
    | some ev =>
      rcases ev with cs | cl | ci | cj | cr | ct | cu
      · exact h.elim
      · exact h.elim
      · exact h.elim
      · intro H locs ls hP hS hl hlv hst
        exact lv_ldc2 hx hb hown (hts _ (hpo 2 idx _ rfl rfl)) hdec (hk _ _ _ h H locs ls hP hS hl hlv (vl_cons trivial hst))
      · exact h.elim
      · exact h.elim
      · exact h.elim
  | iload_n b =>
    obtain rfl : n = 1 := hn rfl
    replace hk := hk rfl
    obtain ⟨i, l2, rfl, h2⟩ := n1_inv h
    clear h
    split at h2
    · rename_i x hx2
      intro H locs ls hP hS hl hlv hst
      exact lv_iload_n hx hb hdec (of_decide_eq_true hsc) (hl.2.2.2 _ _ hx2) (hk _ _ _ h2 H locs ls hP hS hl hlv (vl_cons trivial hst))
    · exact h2.elim
  | iload b =>
    obtain rfl : n = 2 := hn rfl
    replace hk := hk rfl
    obtain ⟨i, l2, rfl, h2⟩ := n1_inv h
    clear h
    obtain rfl := of_decide_eq_true hsc
    split at h2
    · rename_i x hx2
      intro H locs ls hP hS hl hlv hst
      exact lv_iload hx hb hdec  (hl.2.2.2 _ _ hx2) (hk _ _ _ h2 H locs ls hP hS hl hlv (vl_cons trivial hst))
    · exact h2.elim
  | lload_n b =>
    obtain rfl : n = 1 := hn rfl
    replace hk := hk rfl
    obtain ⟨i, l2, rfl, h2⟩ := n1_inv h
    clear h
    split at h2
    · rename_i x hx2
      intro H locs ls hP hS hl hlv hst
      exact lv_lload_n hx hb hdec (of_decide_eq_true hsc) (hl.2.2.2 _ _ hx2) (hk _ _ _ h2 H locs ls hP hS hl hlv (vl_cons trivial hst))
    · exact h2.elim
  | lload b =>
    obtain rfl : n = 2 := hn rfl
    replace hk := hk rfl
    obtain ⟨i, l2, rfl, h2⟩ := n1_inv h
    clear h
    obtain rfl := of_decide_eq_true hsc
    split at h2
    · rename_i x hx2
      intro H locs ls hP hS hl hlv hst
      exact lv_lload hx hb hdec  (hl.2.2.2 _ _ hx2) (hk _ _ _ h2 H locs ls hP hS hl hlv (vl_cons trivial hst))
    · exact h2.elim
  | aload_n b =>
    obtain rfl : n = 1 := hn rfl
    replace hk := hk rfl
    obtain ⟨i, l2, rfl, h2⟩ := n1_inv h
    clear h
    split at h2
    · rename_i kd j o hx2
      intro H locs ls hP hS hl hlv hst
      have h5 := hk _ _ _ h2 H locs ls hP hS hl hlv (vl_cons (hlv _ _ hx2) hst)
      have h6 := hl.2.2.2 _ _ hx2
      by_cases h15 : kd = 15
      · have e0 : cv ad fv (Sum.inl (kd, j, o)) = fv := by simp [cv, h15]
        rw [List.map_cons, e0] at h5
        rw [e0] at h6
        rcases hf with rfl | ⟨t, rfl⟩
        · exact lv_aload_nN hx hb hdec (of_decide_eq_true hsc) h6 h5
        · exact lv_aload_n hx hb hdec (of_decide_eq_true hsc) h6 h5
      · have e0 : cv ad fv (Sum.inl (kd, j, o)) = .ref (ad (kd, j, o)) := cv_ref h15
        rw [List.map_cons, e0] at h5
        rw [e0] at h6
        exact lv_aload_n hx hb hdec (of_decide_eq_true hsc) h6 h5
    · exact h2.elim
  | aload b =>
    obtain rfl : n = 2 := hn rfl
    replace hk := hk rfl
    obtain ⟨i, l2, rfl, h2⟩ := n1_inv h
    clear h
    obtain rfl := of_decide_eq_true hsc
    split at h2
    · rename_i kd j o hx2
      intro H locs ls hP hS hl hlv hst
      have h5 := hk _ _ _ h2 H locs ls hP hS hl hlv (vl_cons (hlv _ _ hx2) hst)
      have h6 := hl.2.2.2 _ _ hx2
      by_cases h15 : kd = 15
      · have e0 : cv ad fv (Sum.inl (kd, j, o)) = fv := by simp [cv, h15]
        rw [List.map_cons, e0] at h5
        rw [e0] at h6
        rcases hf with rfl | ⟨t, rfl⟩
        · exact lv_aloadN hx hb hdec  h6 h5
        · exact lv_aload hx hb hdec  h6 h5
      · have e0 : cv ad fv (Sum.inl (kd, j, o)) = .ref (ad (kd, j, o)) := cv_ref h15
        rw [List.map_cons, e0] at h5
        rw [e0] at h6
        exact lv_aload hx hb hdec  h6 h5
    · exact h2.elim
  | istore_n b =>
    obtain rfl : n = 1 := hn rfl
    replace hk := hk rfl
    obtain ⟨i, l2, rfl, h2⟩ := n1_inv h
    clear h
    obtain ⟨x, r, rfl, h3⟩ := pI_inv h2
    obtain ⟨hok, h4⟩ := ck_inv h3
    intro H locs ls hP hS hl hlv hst
    exact lv_istore_n hx hb hdec (of_decide_eq_true hsc) (as_has hl) (by have := ok1_lt hok; have := hl.2.1; omega) rfl (fun ls2 hl2 => hk _ _ _ h4 H locs ls2 hP hS (H_set1 (v := aI x) hf hl hok hl2) (lvl_set hlv trivial) (vl_tl hst))
  | istore b =>
    obtain rfl : n = 2 := hn rfl
    replace hk := hk rfl
    obtain ⟨i, l2, rfl, h2⟩ := n1_inv h
    clear h
    obtain rfl := of_decide_eq_true hsc
    obtain ⟨x, r, rfl, h3⟩ := pI_inv h2
    obtain ⟨hok, h4⟩ := ck_inv h3
    intro H locs ls hP hS hl hlv hst
    exact lv_istore hx hb hdec  (as_has hl) (by have := ok1_lt hok; have := hl.2.1; omega) rfl (fun ls2 hl2 => hk _ _ _ h4 H locs ls2 hP hS (H_set1 (v := aI x) hf hl hok hl2) (lvl_set hlv trivial) (vl_tl hst))
  | astore_n b =>
    obtain rfl : n = 1 := hn rfl
    replace hk := hk rfl
    obtain ⟨i, l2, rfl, h2⟩ := n1_inv h
    clear h
    obtain ⟨kd, j, o, r, rfl, h3⟩ := pR_inv h2
    obtain ⟨hok2, h4⟩ := ck_inv h3
    obtain ⟨hok, hn15⟩ := (Bool.and_eq_true _ _).mp hok2
    have h15 : ¬ kd = 15 := by
      intro e0
      subst e0
      cases hn15
    intro H locs ls hP hS hl hlv hst
    have e0 : cv ad fv (Sum.inl (kd, j, o)) = .ref (ad (kd, j, o)) := cv_ref h15
    show W p l e R s m args below meth c H locs cells slots Q (F0 m pc ls (cv ad fv (Sum.inl (kd, j, o)) :: r.map (cv ad fv)))
    rw [e0]
    exact lv_astore_n hx hb hdec (of_decide_eq_true hsc) (as_has hl) (by have := ok1_lt hok; have := hl.2.1; omega) rfl (fun ls2 hl2 => hk _ _ _ h4 H locs ls2 hP hS (H_set1 (v := Sum.inl (kd, j, o)) hf hl hok (by rw [e0]; exact hl2)) (lvl_set hlv (hst _ List.mem_cons_self)) (vl_tl hst))
  | lstore_n b =>
    obtain rfl : n = 1 := hn rfl
    replace hk := hk rfl
    obtain ⟨i, l2, rfl, h2⟩ := n1_inv h
    clear h
    obtain ⟨x, r, rfl, h3⟩ := pL_inv h2
    obtain ⟨hok2, h4⟩ := ck_inv h3
    obtain ⟨hok, hlt⟩ := (Bool.and_eq_true _ _).mp hok2
    have hlt2 : i + 1 < lv.length := Nat.le_of_ble_eq_true hlt
    intro H locs ls hP hS hl hlv hst
    exact lv_lstore_n hx hb hdec (of_decide_eq_true hsc) (as_has hl) (by have := hl.2.1; omega) rfl (fun ls2 hl2 => hk _ _ _ h4 H locs ls2 hP hS (H_set2 (v := aL x) hf hl hok hl2) (lvl_none (lvl_set hlv trivial)) (vl_tl hst))
  | iinc a b =>
    obtain rfl : n = 3 := hn rfl
    replace hk := hk rfl
    obtain ⟨i, l2, rfl, h2⟩ := n1_inv h
    clear h
    obtain ⟨v, rfl, h3⟩ := eI_inv h2
    obtain ⟨hs1, hs2⟩ := (Bool.and_eq_true _ _).mp hsc
    obtain rfl := of_decide_eq_true hs1
    have hs2 := of_decide_eq_true hs2
    split at h3
    · rename_i x hx2
      obtain ⟨hok, h4⟩ := ck_inv h3
      intro H locs ls hP hS hl hlv hst
      obtain ⟨q, hq⟩ := List.getElem?_of_mem (as_mem (ad := ad) (fv := fv) hx2)
      exact lv_iinc (v := x + v) hx hb hdec (as_has hl) hq (by rw [hs2]) (by have := ok1_lt hok; have := hl.2.1; omega) rfl (fun ls2 hl2 => hk _ _ _ h4 H locs ls2 hP hS (H_set1 (v := aI (x + v)) hf hl hok hl2) (lvl_set hlv trivial) hst)
    · exact h3.elim
  | iadd =>
    obtain rfl : n = 1 := hn rfl
    replace hk := hk rfl
    obtain ⟨y, r1, rfl, h2⟩ := pI_inv h
    clear h
    obtain ⟨x, r, rfl, h3⟩ := pI_inv h2
    clear h2
    intro H locs ls hP hS hl hlv hst
    exact lv_iadd hx hb hdec (hk _ _ _ h3 H locs ls hP hS hl hlv (vl_cons trivial (vl_tl (vl_tl hst))))
  | isub =>
    obtain rfl : n = 1 := hn rfl
    replace hk := hk rfl
    obtain ⟨y, r1, rfl, h2⟩ := pI_inv h
    clear h
    obtain ⟨x, r, rfl, h3⟩ := pI_inv h2
    clear h2
    intro H locs ls hP hS hl hlv hst
    exact lv_isub hx hb hdec (hk _ _ _ h3 H locs ls hP hS hl hlv (vl_cons trivial (vl_tl (vl_tl hst))))
  | imul =>
    obtain rfl : n = 1 := hn rfl
    replace hk := hk rfl
    obtain ⟨y, r1, rfl, h2⟩ := pI_inv h
    clear h
    obtain ⟨x, r, rfl, h3⟩ := pI_inv h2
    clear h2
    intro H locs ls hP hS hl hlv hst
    exact lv_imul hx hb hdec (hk _ _ _ h3 H locs ls hP hS hl hlv (vl_cons trivial (vl_tl (vl_tl hst))))
  | iand =>
    obtain rfl : n = 1 := hn rfl
    replace hk := hk rfl
    obtain ⟨y, r1, rfl, h2⟩ := pI_inv h
    clear h
    obtain ⟨x, r, rfl, h3⟩ := pI_inv h2
    clear h2
    intro H locs ls hP hS hl hlv hst
    exact lv_iand hx hb hdec (hk _ _ _ h3 H locs ls hP hS hl hlv (vl_cons trivial (vl_tl (vl_tl hst))))
  | ior =>
    obtain rfl : n = 1 := hn rfl
    replace hk := hk rfl
    obtain ⟨y, r1, rfl, h2⟩ := pI_inv h
    clear h
    obtain ⟨x, r, rfl, h3⟩ := pI_inv h2
    clear h2
    intro H locs ls hP hS hl hlv hst
    exact lv_ior hx hb hdec (hk _ _ _ h3 H locs ls hP hS hl hlv (vl_cons trivial (vl_tl (vl_tl hst))))
  | ixor =>
    obtain rfl : n = 1 := hn rfl
    replace hk := hk rfl
    obtain ⟨y, r1, rfl, h2⟩ := pI_inv h
    clear h
    obtain ⟨x, r, rfl, h3⟩ := pI_inv h2
    clear h2
    intro H locs ls hP hS hl hlv hst
    exact lv_ixor hx hb hdec (hk _ _ _ h3 H locs ls hP hS hl hlv (vl_cons trivial (vl_tl (vl_tl hst))))
  | ishl =>
    obtain rfl : n = 1 := hn rfl
    replace hk := hk rfl
    obtain ⟨y, r1, rfl, h2⟩ := pI_inv h
    clear h
    obtain ⟨x, r, rfl, h3⟩ := pI_inv h2
    clear h2
    intro H locs ls hP hS hl hlv hst
    exact lv_ishl hx hb hdec (hk _ _ _ h3 H locs ls hP hS hl hlv (vl_cons trivial (vl_tl (vl_tl hst))))
  | ishr =>
    obtain rfl : n = 1 := hn rfl
    replace hk := hk rfl
    obtain ⟨y, r1, rfl, h2⟩ := pI_inv h
    clear h
    obtain ⟨x, r, rfl, h3⟩ := pI_inv h2
    clear h2
    intro H locs ls hP hS hl hlv hst
    exact lv_ishr hx hb hdec (hk _ _ _ h3 H locs ls hP hS hl hlv (vl_cons trivial (vl_tl (vl_tl hst))))
  | idiv =>
    obtain rfl : n = 1 := hn rfl
    replace hk := hk rfl
    obtain ⟨y, r1, rfl, h2⟩ := pI_inv h
    clear h
    obtain ⟨x, r, rfl, h3⟩ := pI_inv h2
    clear h2
    intro H locs ls hP hS hl hlv hst
    exact lv_idiv hx hb hdec h3.1 (hk _ _ _ h3.2 H locs ls hP hS hl hlv (vl_cons trivial (vl_tl (vl_tl hst))))
  | irem =>
    obtain rfl : n = 1 := hn rfl
    replace hk := hk rfl
    obtain ⟨y, r1, rfl, h2⟩ := pI_inv h
    clear h
    obtain ⟨x, r, rfl, h3⟩ := pI_inv h2
    clear h2
    intro H locs ls hP hS hl hlv hst
    exact lv_irem hx hb hdec h3.1 (hk _ _ _ h3.2 H locs ls hP hS hl hlv (vl_cons trivial (vl_tl (vl_tl hst))))
  | ladd =>
    obtain rfl : n = 1 := hn rfl
    replace hk := hk rfl
    obtain ⟨y, r1, rfl, h2⟩ := pL_inv h
    clear h
    obtain ⟨x, r, rfl, h3⟩ := pL_inv h2
    clear h2
    intro H locs ls hP hS hl hlv hst
    exact lv_ladd hx hb hdec (hk _ _ _ h3 H locs ls hP hS hl hlv (vl_cons trivial (vl_tl (vl_tl hst))))
  | land =>
    obtain rfl : n = 1 := hn rfl
    replace hk := hk rfl
    obtain ⟨y, r1, rfl, h2⟩ := pL_inv h
    clear h
    obtain ⟨x, r, rfl, h3⟩ := pL_inv h2
    clear h2
    intro H locs ls hP hS hl hlv hst
    exact lv_land hx hb hdec (hk _ _ _ h3 H locs ls hP hS hl hlv (vl_cons trivial (vl_tl (vl_tl hst))))
  | lor =>
    obtain rfl : n = 1 := hn rfl
    replace hk := hk rfl
    obtain ⟨y, r1, rfl, h2⟩ := pL_inv h
    clear h
    obtain ⟨x, r, rfl, h3⟩ := pL_inv h2
    clear h2
    intro H locs ls hP hS hl hlv hst
    exact lv_lor hx hb hdec (hk _ _ _ h3 H locs ls hP hS hl hlv (vl_cons trivial (vl_tl (vl_tl hst))))
  | lcmp =>
    obtain rfl : n = 1 := hn rfl
    replace hk := hk rfl
    obtain ⟨y, r1, rfl, h2⟩ := pL_inv h
    clear h
    obtain ⟨x, r, rfl, h3⟩ := pL_inv h2
    clear h2
    intro H locs ls hP hS hl hlv hst
    exact W.lcmp hx hb hdec (hk _ _ _ h3 H locs ls hP hS hl hlv (vl_cons trivial (vl_tl (vl_tl hst))))
  | lshl =>
    obtain rfl : n = 1 := hn rfl
    replace hk := hk rfl
    obtain ⟨y, r1, rfl, h2⟩ := pI_inv h
    clear h
    obtain ⟨x, r, rfl, h3⟩ := pL_inv h2
    clear h2
    intro H locs ls hP hS hl hlv hst
    exact lv_lshl hx hb hdec rfl (hk _ _ _ h3 H locs ls hP hS hl hlv (vl_cons trivial (vl_tl (vl_tl hst))))
  | lshr =>
    obtain rfl : n = 1 := hn rfl
    replace hk := hk rfl
    obtain ⟨y, r1, rfl, h2⟩ := pI_inv h
    clear h
    obtain ⟨x, r, rfl, h3⟩ := pL_inv h2
    clear h2
    intro H locs ls hP hS hl hlv hst
    exact lv_lshr hx hb hdec rfl (hk _ _ _ h3 H locs ls hP hS hl hlv (vl_cons trivial (vl_tl (vl_tl hst))))
  | lushr =>
    obtain rfl : n = 1 := hn rfl
    replace hk := hk rfl
    obtain ⟨y, r1, rfl, h2⟩ := pI_inv h
    clear h
    obtain ⟨x, r, rfl, h3⟩ := pL_inv h2
    clear h2
    intro H locs ls hP hS hl hlv hst
    exact lv_lushr hx hb hdec rfl (hk _ _ _ h3 H locs ls hP hS hl hlv (vl_cons trivial (vl_tl (vl_tl hst))))
  | ineg =>
    obtain rfl : n = 1 := hn rfl
    replace hk := hk rfl
    obtain ⟨x, r, rfl, h2⟩ := pI_inv h
    clear h
    intro H locs ls hP hS hl hlv hst
    exact lv_ineg hx hb hdec (hk _ _ _ h2 H locs ls hP hS hl hlv (vl_cons trivial (vl_tl hst)))
  | i2l =>
    obtain rfl : n = 1 := hn rfl
    replace hk := hk rfl
    obtain ⟨x, r, rfl, h2⟩ := pI_inv h
    clear h
    intro H locs ls hP hS hl hlv hst
    exact lv_i2l hx hb hdec rfl (hk _ _ _ h2 H locs ls hP hS hl hlv (vl_cons trivial (vl_tl hst)))
  | l2i =>
    obtain rfl : n = 1 := hn rfl
    replace hk := hk rfl
    obtain ⟨x, r, rfl, h2⟩ := pL_inv h
    clear h
    intro H locs ls hP hS hl hlv hst
    exact lv_l2i hx hb hdec rfl (hk _ _ _ h2 H locs ls hP hS hl hlv (vl_cons trivial (vl_tl hst)))
  | i2b =>
    obtain rfl : n = 1 := hn rfl
    replace hk := hk rfl
    obtain ⟨x, r, rfl, h2⟩ := pI_inv h
    clear h
    intro H locs ls hP hS hl hlv hst
    exact lv_i2b hx hb hdec rfl (hk _ _ _ h2 H locs ls hP hS hl hlv (vl_cons trivial (vl_tl hst)))
  | i2s =>
    obtain rfl : n = 1 := hn rfl
    replace hk := hk rfl
    obtain ⟨x, r, rfl, h2⟩ := pI_inv h
    clear h
    intro H locs ls hP hS hl hlv hst
    exact lv_i2s hx hb hdec rfl (hk _ _ _ h2 H locs ls hP hS hl hlv (vl_cons trivial (vl_tl hst)))
  | i2c =>
    obtain rfl : n = 1 := hn rfl
    replace hk := hk rfl
    obtain ⟨x, r, rfl, h2⟩ := pI_inv h
    clear h
    intro H locs ls hP hS hl hlv hst
    exact lv_i2c hx hb hdec rfl (hk _ _ _ h2 H locs ls hP hS hl hlv (vl_cons trivial (vl_tl hst)))
  | dup =>
    obtain rfl : n = 1 := hn rfl
    replace hk := hk rfl
    replace h : am_pA st (fun x r => k lv (x :: x :: r) M) := h
    obtain ⟨v, r, rfl, hv, h2⟩ := pA_inv h
    clear h
    intro H locs ls hP hS hl hlv hst
    exact lv_dup hx hb hdec (cv_cat1 hf hv) (hk _ _ _ h2 H locs ls hP hS hl hlv (vl_cons (hst _ List.mem_cons_self) hst))
  | dup2 =>
    obtain rfl : n = 1 := hn rfl
    replace hk := hk rfl
    replace h : am_pA st (fun x r => am_pA r fun y r => k lv (x :: y :: x :: y :: r) M) := h
    obtain ⟨v, r1, rfl, hv, h2⟩ := pA_inv h
    clear h
    obtain ⟨w, r, rfl, hw, h3⟩ := pA_inv h2
    clear h2
    intro H locs ls hP hS hl hlv hst
    exact lv_dup2_11 hx hb hdec (cv_cat1 hf hv) (cv_cat1 hf hw) (hk _ _ _ h3 H locs ls hP hS hl hlv (vl_cons (hst _ List.mem_cons_self) (vl_cons (hst _ (List.mem_cons_of_mem _ List.mem_cons_self)) hst)))
  | pop =>
    obtain rfl : n = 1 := hn rfl
    replace hk := hk rfl
    replace h : am_pA st (fun _ r => k lv r M) := h
    obtain ⟨v, r, rfl, hv, h2⟩ := pA_inv h
    clear h
    intro H locs ls hP hS hl hlv hst
    exact lv_pop hx hb hdec (cv_cat1 hf hv) (hk _ _ _ h2 H locs ls hP hS hl hlv (vl_tl hst))
  | getfield idx =>
    obtain rfl : n = 3 := hn rfl
    replace hk := hk rfl
    cases en with
    | none => exact h.elim
    | some ev =>
      rcases ev with cs | cl | ci | cj | cr | ct | cu
      · obtain ⟨c1, s1⟩ := cs
        exact snd_get hcl C (hpo 0 idx _ rfl rfl) hdec (fun r hr => hk _ _ _ hr) h
      · exact h.elim
      · exact h.elim
      · exact h.elim
      · exact h.elim
      · obtain ⟨kd, j, o, r, rfl, h2⟩ := pR_inv h
        obtain ⟨hck, h3⟩ := ck_inv h2
        obtain rfl := Nat.eq_of_beq_eq_true hck
        intro H locs ls hP hS hl hlv hst
        have hv2 : j = 0 ∧ o < 8 := by
          rcases hst _ List.mem_cons_self with q | q
          · exact absurd ((by decide +kernel : ∀ q ∈ am_all, q.1 < 12) _ q) (show ¬ (13 : Nat) < 12 by decide)
          · revert q
            simp only [am_ro, List.mem_cons, Prod.mk.injEq, List.not_mem_nil, or_false]
            omega
        obtain ⟨rfl, ho⟩ := hv2
        have hst2 := vl_tl hst
        show W p l e R s m args below meth c H locs cells slots Q (F0 m pc ls (cv ad fv (Sum.inl (13, 0, o)) :: r.map (cv ad fv)))
        rw [cv_ref (show ¬ (13 : Nat) = 15 by decide)]
        rcases hpo 0 idx _ rfl rfl with ⟨rfl, hlk⟩ | ⟨rfl, hlk⟩
        · exact vk_getf hx hb (hE.2.2.2.2.2.1.1 o ho).2.1 hS hown (hts _ hlk) (fun _ q => q) hdec (hk _ _ _ h3 H locs ls hP hS hl hlv (vl_cons trivial hst2))
        · refine vk_getf hx hb (hE.2.2.2.2.2.1.1 o ho).2.2.1 hS hown (hts _ hlk) (fun _ q => q) hdec ?_
          have h5 := hk _ _ _ h3 H locs ls hP hS hl hlv (vl_cons (ro_14 ho) hst2)
          rw [List.map_cons, cv_ref (show ¬ (14 : Nat) = 15 by decide)] at h5
          exact h5
      · exact h.elim
  | putfield idx =>
    obtain rfl : n = 3 := hn rfl
    replace hk := hk rfl
    cases en with
    | none => exact h.elim
    | some ev =>
      rcases ev with cs | ev
      · obtain ⟨c1, s1⟩ := cs
        exact snd_put hcl C (hpo 0 idx _ rfl rfl) hdec (fun r M2 hr => hk _ _ _ hr) h
      · exact h.elim
  | getstatic idx =>
    obtain rfl : n = 3 := hn rfl
    replace hk := hk rfl
    cases en with
    | none => exact h.elim
    | some ev =>
      rcases ev with cs | cl | ci | cj | cr | ct | cu
      · exact h.elim
      · exact h.elim
      · obtain ⟨rfl, hlk⟩ := hpo 3 idx _ rfl rfl
        intro H locs ls hP hS hl hlv hst
        exact va_gets hx hb hE.2.2.1 hS hown (hts _ hlk) (fun _ q => q) hdec (hk _ _ _ h H locs ls hP hS hl hlv (vl_cons trivial hst))
      · exact h.elim
      · intro H locs ls hP hS hl hlv hst
        rcases hpo 3 idx _ rfl rfl with ⟨i, hi, rfl, hlk⟩ | ⟨rfl, hlk⟩
        · refine va_gets hx hb (hE.2.1 i hi).1 hS hown (hts _ hlk) (fun _ q => q) hdec ?_
          have h5 := hk _ _ _ h H locs ls hP hS hl hlv (vl_cons (ro_12 hi) hst)
          rw [List.map_cons, cv_ref (show ¬ (12 : Nat) = 15 by decide)] at h5
          exact h5
        · refine va_gets hx hb hE.2.2.2.1 hS hown (hts _ hlk) (fun _ q => q) hdec ?_
          exact hk _ _ _ h H locs ls hP hS hl hlv (vl_cons (Or.inr (by decide)) hst)
      · exact h.elim
      · exact h.elim
  | arraylength =>
    obtain rfl : n = 1 := hn rfl
    replace hk := hk rfl
    exact snd_len C hdec (fun r hr => hk _ _ _ hr) h
  | iaload =>
    obtain rfl : n = 1 := hn rfl
    replace hk := hk rfl
    exact snd_ild C hdec (fun r hr => hk _ _ _ hr) h
  | baload =>
    obtain rfl : n = 1 := hn rfl
    replace hk := hk rfl
    exact snd_bld C hdec (fun r hr => hk _ _ _ hr) h
  | iastore =>
    obtain rfl : n = 1 := hn rfl
    replace hk := hk rfl
    exact snd_ist C hdec (fun r M2 hr => hk _ _ _ hr) h
  | bastore =>
    obtain rfl : n = 1 := hn rfl
    replace hk := hk rfl
    exact snd_bst C hdec (fun r M2 hr => hk _ _ _ hr) h
  | if_icmp op off =>
    obtain rfl : n = 3 := hn rfl
    replace hk := hk rfl
    obtain ⟨t, l2, rfl, h2⟩ := n1_inv h
    clear h
    obtain ⟨y, r1, rfl, h3⟩ := pI_inv h2
    clear h2
    obtain ⟨x, r, rfl, h4⟩ := pI_inv h3
    clear h3
    have ht := of_decide_eq_true hsc
    intro H locs ls hP hS hl hlv hst
    have hst2 := vl_tl (vl_tl hst)
    cases op with
    | eq => exact lv_icmp_eq hx hb hdec ht (fun q => h4.1 q H locs ls hP hS hl hlv hst2) (fun q => hk _ _ _ (h4.2 q) H locs ls hP hS hl hlv hst2)
    | ne => exact lv_icmp_ne hx hb hdec ht (fun q => h4.2 q H locs ls hP hS hl hlv hst2) (fun q => hk _ _ _ (h4.1 q) H locs ls hP hS hl hlv hst2)
    | lt => exact lv_icmp_lt hx hb hdec ht (fun q => h4.1 q H locs ls hP hS hl hlv hst2) (fun q => hk _ _ _ (h4.2 q) H locs ls hP hS hl hlv hst2)
    | ge => exact lv_icmp_ge hx hb hdec ht (fun q => h4.1 q H locs ls hP hS hl hlv hst2) (fun q => hk _ _ _ (h4.2 q) H locs ls hP hS hl hlv hst2)
    | gt => exact lv_icmp_gt hx hb hdec ht (fun q => h4.1 q H locs ls hP hS hl hlv hst2) (fun q => hk _ _ _ (h4.2 q) H locs ls hP hS hl hlv hst2)
    | le => exact lv_icmp_le hx hb hdec ht (fun q => h4.1 q H locs ls hP hS hl hlv hst2) (fun q => hk _ _ _ (h4.2 q) H locs ls hP hS hl hlv hst2)
  | ifCond op off =>
    obtain rfl : n = 3 := hn rfl
    replace hk := hk rfl
    obtain ⟨t, l2, rfl, h2⟩ := n1_inv h
    clear h
    obtain ⟨x, r, rfl, h4⟩ := pI_inv h2
    clear h2
    have ht := of_decide_eq_true hsc
    intro H locs ls hP hS hl hlv hst
    have hst2 := vl_tl hst
    cases op with
    | eq => exact lv_if_eq hx hb hdec ht (fun q => h4.1 q H locs ls hP hS hl hlv hst2) (fun q => hk _ _ _ (h4.2 q) H locs ls hP hS hl hlv hst2)
    | ne => exact lv_if_ne hx hb hdec ht (fun q => h4.2 q H locs ls hP hS hl hlv hst2) (fun q => hk _ _ _ (h4.1 q) H locs ls hP hS hl hlv hst2)
    | lt => exact lv_if_lt hx hb hdec ht (fun q => h4.1 q H locs ls hP hS hl hlv hst2) (fun q => hk _ _ _ (h4.2 q) H locs ls hP hS hl hlv hst2)
    | ge => exact lv_if_ge hx hb hdec ht (fun q => h4.1 q H locs ls hP hS hl hlv hst2) (fun q => hk _ _ _ (h4.2 q) H locs ls hP hS hl hlv hst2)
    | gt => exact lv_if_gt hx hb hdec ht (fun q => h4.1 q H locs ls hP hS hl hlv hst2) (fun q => hk _ _ _ (h4.2 q) H locs ls hP hS hl hlv hst2)
    | le => exact lv_if_le hx hb hdec ht (fun q => h4.1 q H locs ls hP hS hl hlv hst2) (fun q => hk _ _ _ (h4.2 q) H locs ls hP hS hl hlv hst2)
  | goto off =>
    obtain rfl : n = 3 := hn rfl
    replace hk := hk rfl
    obtain ⟨t, l2, rfl, h2⟩ := n1_inv h
    clear h
    have ht := of_decide_eq_true hsc
    intro H locs ls hP hS hl hlv hst
    exact lv_goto hx hb hdec ht (h2 H locs ls hP hS hl hlv hst)
  | tableswitch df lo hi offs =>
    cases ns with
    | nil => exact h.elim
    | cons t0 l0 =>
      obtain ⟨x, r, rfl, h2⟩ := pI_inv h
      clear h
      obtain ⟨hs1, hs3⟩ := (Bool.and_eq_true _ _).mp hsc
      obtain ⟨hs1, hs2⟩ := (Bool.and_eq_true _ _).mp hs1
      have hs1 := of_decide_eq_true hs1
      have hs3 := of_decide_eq_true hs3
      intro H locs ls hP hS hl hlv hst
      have hst2 := vl_tl hst
      by_cases hr0 : x.toInt < lo ∨ hi < x.toInt
      · have h5 := sw_out offs.toList l0 lo hs2 (by omega) h2
        exact lv_tableOut hx hb hdec hr0 hs1 (h5 H locs ls hP hS hl hlv hst2)
      · have hlt : (x.toInt - lo).toNat < offs.toList.length := by omega
        have ho : offs.toList[(x.toInt - lo).toNat]? = some offs.toList[(x.toInt - lo).toNat] := List.getElem?_eq_getElem hlt
        obtain ⟨t, ht, h5⟩ := sw_in offs.toList l0 lo _ _ hs2 ho (by omega) h2
        exact lv_tableIn hx hb hdec (by omega) (by omega) (by rw [← Array.getElem?_toList]; exact ho) ht (h5 H locs ls hP hS hl hlv hst2)
  | invokevirtual idx =>
    obtain rfl : n = 3 := hn rfl
    replace hk := hk rfl
    cases en with
    | none => exact h.elim
    | some ev =>
      rcases ev with cs | cl | cw
      · exact h.elim
      · obtain ⟨n0, a0, kd⟩ := cl
        replace h : am_callM d n0 a0 (some kd) st M (fun r M2 => k lv r M2) := h
        unfold am_callM at h
        cases hp : am_pop a0 st [] with
        | none => rw [hp] at h; exact h.elim
        | some q =>
          obtain ⟨as, rest⟩ := q
          rw [hp] at h
          obtain ⟨hrc, h2⟩ := ck_inv h
          obtain ⟨hct, d2, Po, hd2, hcon, h30⟩ := ck_inv h2
          obtain ⟨bs, rfl, e2, e3⟩ := pop_inv _ _ _ _ _ hp
          cases as with
          | nil => cases hrc
          | cons v as =>
            rcases v with q | x
            · obtain ⟨k0, j0, o0⟩ := q
              have hrc2 : (Nat.beq k0 kd && (Nat.beq o0 0 || Nat.beq k0 13)) = true := hrc
              obtain ⟨g1, g2⟩ := (Bool.and_eq_true _ _).mp hrc2
              obtain rfl := Nat.eq_of_beq_eq_true g1
              have g3 : o0 = 0 ∨ k0 = 13 := by
                rcases (Bool.or_eq_true _ _).mp g2 with q | q
                · exact Or.inl (Nat.eq_of_beq_eq_true q)
                · exact Or.inr (Nat.eq_of_beq_eq_true q)
              have e4 : bs = as.reverse ++ [aR k0 j0 o0] := by
                have e5 : bs.reverse = aR k0 j0 o0 :: as := by simpa using e2.symm
                have e6 := congrArg List.reverse e5
                simpa using e6
              have e7 : a0 = as.length + 1 := by rw [← e3, e4]; simp
              subst e7
              subst e4
              intro H locs ls hP hS hl hlv hst
              have hval : ∀ v ∈ aR k0 j0 o0 :: as, am_vl v := fun v hv => hst v (by
                rcases List.mem_cons.mp hv with rfl | hv
                · simp
                · simp [hv])
              have e8 : ((as.reverse ++ [aR k0 j0 o0]) ++ rest).map (cv ad fv) = (as.map (cv ad fv)).reverse ++ cv ad fv (aR k0 j0 o0) :: rest.map (cv ad fv) := by simp
              show W p l e R s m args below meth c H locs cells slots Q (F0 m pc ls (((as.reverse ++ [aR k0 j0 o0]) ++ rest).map (cv ad fv)))
              rw [e8]
              refine am_callV C hcon hd2 g3 (hpo 4 idx _ rfl rfl) hP hS hl.1 (Nat.le_of_ble_eq_true hct) hval hdec (fun r M2 hpo9 H1 locs1 hP1 hS1 => ?_)
              have h3 := h30 r M2 hpo9
              have hrest : ∀ v ∈ rest, am_vl v := fun v hv => hst v (by simp [hv])
              cases r with
              | none => exact hk _ _ _ h3 H1 locs1 ls hP1 hS1 hl hlv hrest
              | some rv =>
                rcases rv with q | x
                · exact h3.elim
                · exact hk _ _ _ h3 H1 locs1 ls hP1 hS1 hl hlv (vl_cons trivial hrest)
            · cases hrc
      · exact h.elim
  | invokestatic idx =>
    obtain rfl : n = 3 := hn rfl
    replace hk := hk rfl
    cases en with
    | none => exact h.elim
    | some ev =>
      rcases ev with cs | cl | ci | cj | cr | ct | cu
      · exact h.elim
      · obtain ⟨n0, a0, kd⟩ := cl
        replace h : am_callM d n0 a0 none st M (fun r M2 => k lv r M2) := h
        unfold am_callM at h
        cases hp : am_pop a0 st [] with
        | none => rw [hp] at h; exact h.elim
        | some q =>
          obtain ⟨as, rest⟩ := q
          rw [hp] at h
          obtain ⟨hrc, h2⟩ := ck_inv h
          obtain ⟨hct, d2, Po, hd2, hcon, h30⟩ := ck_inv h2
          obtain ⟨bs, rfl, e2, e3⟩ := pop_inv _ _ _ _ _ hp
          have e4 : bs = as.reverse := by
            have e5 : bs.reverse = as := by simpa using e2.symm
            have e6 := congrArg List.reverse e5
            simpa using e6
          have e7 : a0 = as.length := by rw [← e3, e4]; simp
          subst e7
          subst e4
          intro H locs ls hP hS hl hlv hst
          have hval : ∀ v ∈ as, am_vl v := fun v hv => hst v (by simp [hv])
          have e8 : (as.reverse ++ rest).map (cv ad fv) = (as.map (cv ad fv)).reverse ++ rest.map (cv ad fv) := by simp
          show W p l e R s m args below meth c H locs cells slots Q (F0 m pc ls ((as.reverse ++ rest).map (cv ad fv)))
          rw [e8]
          refine am_callS C hcon hd2 (hpo 5 idx _ rfl rfl) hP hS hl.1 (Nat.le_of_ble_eq_true hct) hval hdec (fun r M2 hpo9 H1 locs1 hP1 hS1 => ?_)
          have h3 := h30 r M2 hpo9
          have hrest : ∀ v ∈ rest, am_vl v := fun v hv => hst v (by simp [hv])
          cases r with
          | none => exact hk _ _ _ h3 H1 locs1 ls hP1 hS1 hl hlv hrest
          | some rv =>
            rcases rv with q | x
            · exact h3.elim
            · exact hk _ _ _ h3 H1 locs1 ls hP1 hS1 hl hlv (vl_cons trivial hrest)
      · exact h.elim
      · exact h.elim
      · exact h.elim
      · exact h.elim
      · exact snd_cpy C (hpo 5 idx _ rfl rfl) hdec (fun r M2 hr => hk _ _ _ hr) h
  | ireturn =>
    obtain rfl : n = 1 := hn rfl
    replace hk := hk rfl
    obtain ⟨x, r, rfl, h2⟩ := pI_inv h
    clear h
    obtain ⟨hr, h3⟩ := ck_inv h2
    obtain rfl := List.isEmpty_iff.mp hr
    intro H locs ls hP hS hl hlv hst
    exact hRe.1 x M H locs ls pc h3 hP hS hdec
  | lreturn =>
    obtain rfl : n = 1 := hn rfl
    replace hk := hk rfl
    obtain ⟨x, r, rfl, h2⟩ := pL_inv h
    clear h
    obtain ⟨hr, h3⟩ := ck_inv h2
    obtain rfl := List.isEmpty_iff.mp hr
    intro H locs ls hP hS hl hlv hst
    exact hRe.2.1 x M H locs ls pc h3 hP hS hdec
  | return_ =>
    obtain rfl : n = 1 := hn rfl
    replace hk := hk rfl
    obtain ⟨hr, h3⟩ := ck_inv h
    obtain rfl := List.isEmpty_iff.mp hr
    intro H locs ls hP hS hl hlv hst
    exact hRe.2.2 M H locs ls pc h3 hP hS hdec
  | _ => exact h.elim
end Snd4
end
section
theorem poc_inv {pool : List (Nat × Nat × am_N)} {el : am_E} {t i : Nat} {en : am_N} (h : am_poc pool el = true) (hk : am_key el.2.1 = some (t, i)) (he : el.2.2.2 = some en) : (t, i, en) ∈ pool := by
  unfold am_poc at h
  rw [hk, he] at h
  obtain ⟨q, hq, h2⟩ := List.any_eq_true.mp h
  simp only [Bool.and_eq_true, beq_iff_eq] at h2
  obtain ⟨⟨rfl, rfl⟩, h3⟩ := h2
  rw [← am_eqN_ok h3]
  exact hq
theorem chk_inv {cc : ByteArray} {pool : List (Nat × Nat × am_N)} {el : am_E} {L : List am_E} (h : am_chk cc pool (el :: L) = true) : ∃ n, decode cc el.1 = .ok (el.2.1, n) ∧ (am_isw el.2.1 = false → n = am_ln el.2.1 ∧ ∀ e2 L2, L = e2 :: L2 → e2.1 = el.1 + n) ∧ am_sc1 el = true ∧ am_poc pool el = true ∧ am_chk cc pool L = true := by
  unfold am_chk at h
  obtain ⟨h123, h4⟩ := (Bool.and_eq_true _ _).mp h
  obtain ⟨h12, h3⟩ := (Bool.and_eq_true _ _).mp h123
  obtain ⟨h1, h2⟩ := (Bool.and_eq_true _ _).mp h12
  cases hd : decode cc el.1 with
  | error x => rw [hd] at h1; cases h1
  | ok q =>
    obtain ⟨i, n⟩ := q
    rw [hd] at h1
    obtain ⟨g1, g2⟩ := (Bool.and_eq_true _ _).mp h1
    obtain rfl := of_decide_eq_true g1
    refine ⟨n, rfl, fun hs => ?_, h2, h3, h4⟩
    rw [hs, Bool.false_or] at g2
    obtain ⟨g3, g4⟩ := (Bool.and_eq_true _ _).mp g2
    refine ⟨by simpa using g3, fun e2 L2 e => ?_⟩
    subst e
    simpa using g4
theorem to_suf {cc : ByteArray} {pool : List (Nat × Nat × am_N)} (pc : Nat) : ∀ code : List am_E, am_chk cc pool code = true → am_chk cc pool (am_to pc code) = true ∧ ∀ el L, am_to pc code = el :: L → el.1 = pc
  | [], h => ⟨h, fun _ _ e => by cases e⟩
  | el :: L, h => by
    unfold am_to
    cases hb : Nat.beq el.1 pc with
    | true =>
      refine ⟨h, fun e2 L2 e => ?_⟩
      cases e
      exact Nat.eq_of_beq_eq_true hb
    | false =>
      obtain ⟨-, -, -, -, -, h2⟩ := chk_inv h
      exact to_suf pc L h2
section Snd5
variable {p : Program} {l : Launch} {e : Env} {R : Room} {s : State} {m : MethodId} {args : Array Value} {below : List Frame} {meth : Method} {c : Code} {cells slots : Nat} {Q : State → Prop} {cc : ByteArray} {nL : Nat} {own : String} {D : va_G} {ad : Nat × Nat × Nat → Nat} {fv : Value} {cI cZ : ClassId} {A : Nat → Prop} {d : Nat} {X : Option (Nat × (Nat → Int32))} {ret : Option FieldType} {Rt : Option am_V → am_M → Prop}
theorem snd_rst (hcl : am_clok) (C : am_Cx p R s m args c cells slots cc nL own D ad fv cI cZ A d X) (hRe : am_Re p l e R s m args below meth c cells slots Q cc D ad cI cZ A ret Rt) {pool : List (Nat × Nat × am_N)} (hpool : ∀ q ∈ pool, am_pk own q.1 q.2.1 q.2.2) (cut : List Nat) : ∀ (S : List am_E), am_chk cc pool S = true → ∀ (lv : am_L) (st : List am_V) (M : am_M), am_rst d X ret (am_J p l e R s m args below meth c cells slots Q nL D ad fv cI cZ A) Rt cut S lv st M → ∀ el L, S = el :: L → am_J p l e R s m args below meth c cells slots Q nL D ad fv cI cZ A el.1 lv st M
  | [], _, _, _, _, _, _, _, hS => by cases hS
  | el :: L, hc, lv, st, M, h, _, _, hS => by
    cases hS
    obtain ⟨n, h1, h2, h3, h4, h5⟩ := chk_inv hc
    unfold am_rst at h
    cases hcut : cut.any (Nat.beq el.1) with
    | true => rw [hcut] at h; exact h
    | false =>
      rw [hcut] at h
      refine snd_step hcl C hRe (n := n) h1 (fun q => (h2 q).1) (fun q lv st M hk => ?_) h3 (fun t i en hk he => hpool _ (poc_inv h4 hk he)) h
      cases L with
      | nil => exact hk.elim
      | cons e2 L2 =>
        have := snd_rst hcl C hRe hpool cut (e2 :: L2) h5 lv st M hk e2 L2 rfl
        rw [(h2 q).2 e2 L2 rfl] at this
        exact this
theorem snd_blk (hcl : am_clok) (C : am_Cx p R s m args c cells slots cc nL own D ad fv cI cZ A d X) (hRe : am_Re p l e R s m args below meth c cells slots Q cc D ad cI cZ A ret Rt) {pool : List (Nat × Nat × am_N)} (hpool : ∀ q ∈ pool, am_pk own q.1 q.2.1 q.2.2) (cut : List Nat) : ∀ (S : List am_E), am_chk cc pool S = true → ∀ (lv : am_L) (st : List am_V) (M : am_M), am_blk d X ret (am_J p l e R s m args below meth c cells slots Q nL D ad fv cI cZ A) Rt cut S lv st M → ∀ el L, S = el :: L → am_J p l e R s m args below meth c cells slots Q nL D ad fv cI cZ A el.1 lv st M
  | [], _, _, _, _, _, _, _, hS => by cases hS
  | el :: L, hc, lv, st, M, h, _, _, hS => by
    cases hS
    obtain ⟨n, h1, h2, h3, h4, h5⟩ := chk_inv hc
    refine snd_step hcl C hRe (n := n) h1 (fun q => (h2 q).1) (fun q lv st M hk => ?_) h3 (fun t i en hk he => hpool _ (poc_inv h4 hk he)) h
    cases L with
    | nil => exact hk.elim
    | cons e2 L2 =>
      have := snd_rst hcl C hRe hpool cut (e2 :: L2) h5 lv st M hk e2 L2 rfl
      rw [(h2 q).2 e2 L2 rfl] at this
      exact this
theorem snd_cl (hcl : am_clok) (C : am_Cx p R s m args c cells slots cc nL own D ad fv cI cZ A d X) (hRe : am_Re p l e R s m args below meth c cells slots Q cc D ad cI cZ A ret Rt) {pool : List (Nat × Nat × am_N)} (hpool : ∀ q ∈ pool, am_pk own q.1 q.2.1 q.2.2) {code : List am_E} (hc : am_chk cc pool code = true) : am_cl d X ret code (am_J p l e R s m args below meth c cells slots Q nL D ad fv cI cZ A) Rt := by
  intro cut pc lv st M h
  obtain ⟨h1, h2⟩ := to_suf pc code hc
  cases hq : am_to pc code with
  | nil => rw [hq] at h; exact h.elim
  | cons el L =>
    rw [hq] at h h1
    have := snd_blk hcl C hRe hpool cut (el :: L) h1 lv st M h el L rfl
    rw [h2 el L hq] at this
    exact this
end Snd5
theorem sl_cons (v : Value) (vs : List Value) : (lg_sl (v :: vs)).length = (if v.category = 2 then 2 else 1) + (lg_sl vs).length := by
  unfold lg_sl
  rw [List.flatMap_cons, List.length_append]
  by_cases h : v.category = 2
  · rw [if_pos h, if_pos h]; rfl
  · rw [if_neg h, if_neg h]; rfl
theorem args_len {ad : Nat × Nat × Nat → Nat} {fv : Value} (hf : fv = .null ∨ ∃ t : Nat, fv = .ref t) : ∀ as : List am_V, (lg_sl (as.map (cv ad fv))).length = (am_args as).length
  | [] => rfl
  | Sum.inl q :: t => by
    have h1 := cv_cat1 (ad := ad) hf (v := Sum.inl q) (fun x h => by cases h)
    rw [List.map_cons, sl_cons, h1, args_len hf t]
    simp [am_args, Nat.add_comm]
  | Sum.inr (Sum.inl x) :: t => by
    rw [List.map_cons, sl_cons, args_len hf t]
    simp [am_args, cv, Value.category, Nat.add_comm]
  | Sum.inr (Sum.inr x) :: t => by
    rw [List.map_cons, sl_cons, args_len hf t]
    simp [am_args, cv, Value.category]
    omega
theorem nth_rep : ∀ (n i : Nat), am_nth (List.replicate n none) i = none
  | 0, i => by simp [am_nth]
  | n + 1, 0 => by simp [List.replicate_succ, am_nth]
  | n + 1, i + 1 => by
    rw [List.replicate_succ]
    exact nth_rep n i
theorem args_nth {ad : Nat × Nat × Nat → Nat} {fv : Value} (hf : fv = .null ∨ ∃ t : Nat, fv = .ref t) (n : Nat) : ∀ (as : List am_V) (b i : Nat) (v : am_V), am_nth (am_args as ++ List.replicate n none) i = some v → (b + i, cv ad fv v) ∈ lv_args b (as.map (cv ad fv)) ∧ v ∈ as
  | [], b, i, v, h => by
    have h1 : am_nth (List.replicate n none) i = some v := h
    rw [nth_rep] at h1
    cases h1
  | Sum.inl q :: t, b, 0, v, h => by
    cases h
    simp [lv_args]
  | Sum.inl q :: t, b, i + 1, v, h => by
    have h1 := cv_cat1 (ad := ad) hf (v := Sum.inl q) (fun x h => by cases h)
    obtain ⟨h2, h3⟩ := args_nth hf n t (b + 1) i v h
    refine ⟨?_, List.mem_cons_of_mem _ h3⟩
    have hne : ¬ (cv ad fv (Sum.inl q)).category = 2 := by omega
    simp only [List.map_cons, lv_args, if_neg hne]
    refine List.mem_cons_of_mem _ ?_
    have e0 : b + (i + 1) = b + 1 + i := by omega
    rw [e0]
    exact h2
  | Sum.inr (Sum.inl x) :: t, b, 0, v, h => by
    cases h
    simp [lv_args]
  | Sum.inr (Sum.inl x) :: t, b, i + 1, v, h => by
    obtain ⟨h2, h3⟩ := args_nth hf n t (b + 1) i v h
    refine ⟨?_, List.mem_cons_of_mem _ h3⟩
    have hne : ¬ (cv ad fv (Sum.inr (Sum.inl x))).category = 2 := by simp [cv, Value.category]
    simp only [List.map_cons, lv_args, if_neg hne]
    refine List.mem_cons_of_mem _ ?_
    have e0 : b + (i + 1) = b + 1 + i := by omega
    rw [e0]
    exact h2
  | Sum.inr (Sum.inr x) :: t, b, 0, v, h => by
    cases h
    simp [lv_args]
  | Sum.inr (Sum.inr x) :: t, b, 1, v, h => by cases h
  | Sum.inr (Sum.inr x) :: t, b, i + 2, v, h => by
    obtain ⟨h2, h3⟩ := args_nth hf n t (b + 2) i v h
    refine ⟨?_, List.mem_cons_of_mem _ h3⟩
    have hne : (cv ad fv (Sum.inr (Sum.inr x))).category = 2 := by simp [cv, Value.category]
    simp only [List.map_cons, lv_args, if_pos hne]
    refine List.mem_cons_of_mem _ ?_
    have e0 : b + (i + 2) = b + 2 + i := by omega
    rw [e0]
    exact h2
def am_mok (n : Nat) (code : List am_E) : Prop := plainFor (mt n).1 = true ∧ ∃ pool, am_chk (mt n).2.1 pool code = true ∧ ∀ q ∈ pool, am_pk (mt n).1.cls q.1 q.2.1 q.2.2
theorem con_of0 (hcl : am_clok) {d n : Nat} {as : List am_V} {M : am_M} {Po : Option am_V → am_M → Prop} {code : List am_E} (hok : am_mok n code) (lv0 : am_L) (h0 : am_lv0 (mt n).2.2.1 as = lv0) (hlen : (am_args as).length ≤ (mt n).2.2.1) {ret : Option FieldType} (hret : (mt n).2.2.2 = ret) (h : am_Sem d ret code lv0 M Po) : ConP d n as M Po := by
  subst hret
  subst h0
  intro l D ad fv cI cZ hval
  obtain ⟨hpl, pool, hchk, hpool⟩ := hok
  refine va_MetF (cc := (mt n).2.1) (maxL := (mt n).2.2.1) (ret := (mt n).2.2.2) hpl rfl ?_
  intro p e s m args below meth c s₁ B hml hpre
  obtain ⟨rfl, hP, hD, hK, hE⟩ := hpre
  have hf := hE.2.2.2.2.1
  have hts0 : ∀ w ∈ am_ws (mt n), w.before ((as.map (cv ad fv)).toArray) s = true := atoms_spec (ws := am_ws (mt n)) B.pre
  have hts : ∀ w ∈ gtb, w.before ((as.map (cv ad fv)).toArray) s = true := fun w hw => hts0 w (List.mem_cons_of_mem _ hw)
  have hown : s.vm.findClass (mt n).1.cls = some m.cls := findClass_of_methodNamed B.named
  have hDall : ∀ M, va_D (am_Af ad) (am_wl ad cI cZ M) := by
    intro M9
    refine ⟨fun i j x y hi hj hxy => ?_, fun k q hq => ?_⟩
    · simp only [am_wl, List.getElem?_map] at hi hj
      cases h1 : am_all[i]? with
      | none => rw [h1] at hi; cases hi
      | some q1 =>
        cases h2 : am_all[j]? with
        | none => rw [h2] at hj; cases hj
        | some q2 =>
          rw [h1] at hi
          rw [h2] at hj
          cases hi
          cases hj
          exact hD.1 i j _ _ (wl_at h1) (wl_at h2) hxy
    · simp only [am_wl, List.getElem?_map] at hq
      cases h1 : am_all[k]? with
      | none => rw [h1] at hq; cases hq
      | some q1 =>
        rw [h1] at hq
        cases hq
        exact ⟨q1, List.mem_of_getElem? h1, rfl⟩
  have C : am_Cx p (am_rm d) s m ((as.map (cv ad fv)).toArray) c 0 0 (mt n).2.1 (mt n).2.2.1 (mt n).1.cls D ad fv cI cZ (am_Af ad) d none := ⟨B.exec, B.bytes, hml, hown, hts, hK, hDall, hE, ⟨Nat.le_refl _, Nat.le_refl _⟩, ⟨Nat.le_refl _, Nat.le_refl _⟩, trivial⟩
  have hRe : am_Re p l e (am_rm d) s m ((as.map (cv ad fv)).toArray) below meth c 0 0 (MQ below (am_Q D ad fv cI cZ Po) ((as.map (cv ad fv)).toArray) s 0 0 (am_Af ad)) (mt n).2.1 D ad cI cZ (am_Af ad) (mt n).2.2.2 Po := by
    refine ⟨fun x M9 H locs ls pc hq hP9 hS9 hdg => ?_, fun x M9 H locs ls pc hq hP9 hS9 hdg => ?_, fun M9 H locs ls pc hq hP9 hS9 hdg => ?_⟩
    · have key : ∃ ty, (mt n).2.2.2 = some ty ∧ narrow ty (.int x) = .int x ∧ Po (some (aI x)) M9 := by
        cases hr : (mt n).2.2.2 with
        | none => rw [hr] at hq; exact hq.elim
        | some ty =>
          rw [hr] at hq
          refine ⟨ty, rfl, ?_⟩
          cases ty <;> first | exact ⟨rfl, hq⟩ | exact ⟨congrArg Value.int hq.1, hq.2⟩ | exact ⟨rfl, hq.2⟩
      obtain ⟨ty, h1, h2, hpo9⟩ := key
      exact W.zret B.exec B.bytes (B.returns.trans h1) h2 (fun t ht _ => ⟨_, M9, hpo9, rfl, by rw [ht]; exact hP9, hS9.F ht⟩) hS9.2.2 hdg B.notSynchronized
    · have key : (mt n).2.2.2 = some .long ∧ Po (some (aL x)) M9 := by
        unfold am_retL at hq
        split at hq
        · rename_i he
          exact ⟨he, hq⟩
        · exact hq.elim
      obtain ⟨h1, hpo9⟩ := key
      exact W.lret B.exec B.bytes (B.returns.trans h1) (fun t ht _ => ⟨_, M9, hpo9, rfl, by rw [ht]; exact hP9, hS9.F ht⟩) hS9.2.2 hdg B.notSynchronized
    · have key : (mt n).2.2.2 = none ∧ Po none M9 := by
        unfold am_retV at hq
        split at hq
        · rename_i he
          exact ⟨he, hq⟩
        · exact hq.elim
      obtain ⟨h1, hpo9⟩ := key
      exact W.vret B.exec B.bytes (B.returns.trans h1) (fun t ht _ => ⟨_, M9, hpo9, rfl, by rw [ht]; exact hP9, hS9.F ht⟩) hS9.2.2 hdg B.notSynchronized
  have hJ := h _ (snd_cl hcl C hRe hpool hchk)
  have hl := lv_entry (as.map (cv ad fv)) (n := (mt n).2.2.1) (by rw [args_len hf]; exact hlen)
  rw [lg_entry_eq]
  refine hJ s.heap [] _ hP va_S.rf ⟨hl.1, ?_, hl.2.1, fun i v hv => ?_⟩ (fun i v hv => ?_) (fun v hv => by cases hv)
  · simp only [am_lv0, List.length_append, List.length_replicate]
    omega
  · have h9 := (args_nth (ad := ad) hf _ as 0 i v hv).1
    rw [Nat.zero_add] at h9
    exact hl.2.2 _ h9
  · exact hval v (args_nth (ad := ad) hf _ as 0 i v hv).2
theorem con_of1 (hcl : am_clok) {d n : Nat} {as : List am_V} {M : am_M} {Po : Option am_V → am_M → Prop} {code : List am_E} (hok : am_mok n code) (lv0 : am_L) (ret : Option FieldType) (h : am_Sem d ret code lv0 M Po) (h0 : am_lv0 (mt n).2.2.1 as = lv0 := by rfl) (hlen : (am_args as).length ≤ (mt n).2.2.1 := by exact Nat.le_of_ble_eq_true rfl) (hret : (mt n).2.2.2 = ret := by rfl) : ConP d n as M Po := con_of0 hcl hok lv0 h0 hlen hret h
end
section
theorem gm_list {ws : List Cond} (ps : List Nat) (hp : ws = ps.filterMap (fun i => lw_tbl[i]?)) (h : ws.all goodWord = true) : ∀ w ∈ ws, w ∈ gtb := by
  intro w hw
  have h1 := List.all_eq_true.mp h w hw
  rw [hp] at hw
  obtain ⟨i, -, hi⟩ := List.mem_filterMap.mp hw
  exact gm i hi h1
theorem uw_0 : ∀ w ∈ u_ws rc_0 tc_0 13, w ∈ gtb := gm_list [381, 383, 385, 387, 389, 391, 393, 395, 397, 399, 401, 403, 405] (by decide +kernel) (by decide +kernel)
theorem uw_1 : ∀ w ∈ u_ws rc_1 tc_1 4, w ∈ gtb := gm_list [78, 80, 82, 84] (by decide +kernel) (by decide +kernel)
theorem uw_2 : ∀ w ∈ u_ws rc_2 tc_2 2, w ∈ gtb := gm_list [99, 101] (by decide +kernel) (by decide +kernel)
theorem uw_3 : ∀ w ∈ u_ws rc_3 tc_3 8, w ∈ gtb := gm_list [198, 200, 202, 204, 206, 208, 210, 212] (by decide +kernel) (by decide +kernel)
theorem uw_4 : ∀ w ∈ u_ws rc_4 tc_4 14, w ∈ gtb := gm_list [158, 160, 162, 164, 166, 168, 170, 172, 174, 176, 178, 180, 182, 184] (by decide +kernel) (by decide +kernel)
theorem uw_5 : ∀ w ∈ u_ws rc_5 tc_5 4, w ∈ gtb := gm_list [233, 235, 237, 239] (by decide +kernel) (by decide +kernel)
theorem uw_6 : ∀ w ∈ u_ws rc_6 tc_6 2, w ∈ gtb := gm_list [256, 258] (by decide +kernel) (by decide +kernel)
theorem uw_7 : ∀ w ∈ u_ws rc_7 tc_7 11, w ∈ gtb := gm_list [288, 290, 292, 294, 296, 298, 300, 302, 304, 306, 308] (by decide +kernel) (by decide +kernel)
theorem uw_8 : ∀ w ∈ u_ws rc_8 tc_8 5, w ∈ gtb := gm_list [323, 325, 327, 329, 331] (by decide +kernel) (by decide +kernel)
theorem uw_9 : ∀ w ∈ u_ws rc_9 tc_9 3, w ∈ gtb := gm_list [346, 348, 350] (by decide +kernel) (by decide +kernel)
theorem uw_10 : ∀ w ∈ u_ws rc_10 tc_10 2, w ∈ gtb := gm_list [363, 365] (by decide +kernel) (by decide +kernel)
theorem uw_11 : ∀ w ∈ u_ws rc_11 tc_11 29, w ∈ gtb := gm_list [1049, 1051, 1053, 1055, 1057, 1059, 1061, 1063, 1065, 1067, 1069, 1071, 1073, 1075, 1077, 1079, 1081, 1083, 1085, 1087, 1089, 1091, 1093, 1095, 1097, 1099, 1101, 1103, 1105] (by decide +kernel) (by decide +kernel)
theorem am_clok_ok : am_clok := by
  intro c r h
  match c, h with
  | 0, h => cases h; exact ⟨uw_0, ⟨yc_0, yo_0⟩, nc_0⟩
  | 1, h => cases h; exact ⟨uw_1, ⟨yc_1, yo_1⟩, nc_1⟩
  | 2, h => cases h; exact ⟨uw_2, ⟨yc_2, yo_2⟩, nc_2⟩
  | 3, h => cases h; exact ⟨uw_3, ⟨yc_3, yo_3⟩, nc_3⟩
  | 4, h => cases h; exact ⟨uw_4, ⟨yc_4, yo_4⟩, nc_4⟩
  | 5, h => cases h; exact ⟨uw_5, ⟨yc_5, yo_5⟩, nc_5⟩
  | 6, h => cases h; exact ⟨uw_6, ⟨yc_6, yo_6⟩, nc_6⟩
  | 7, h => cases h; exact ⟨uw_7, ⟨yc_7, yo_7⟩, nc_7⟩
  | 8, h => cases h; exact ⟨uw_8, ⟨yc_8, yo_8⟩, nc_8⟩
  | 9, h => cases h; exact ⟨uw_9, ⟨yc_9, yo_9⟩, nc_9⟩
  | 10, h => cases h; exact ⟨uw_10, ⟨yc_10, yo_10⟩, nc_10⟩
  | 11, h => cases h; exact ⟨uw_11, ⟨yc_11, yo_11⟩, nc_11⟩
  | n + 12, h => simp [am_cls] at h
end
section
theorem wBodies_askSize : am_cw (mt mBodies_askSize) 2 := ⟨(gm 977 rfl rfl), (gm 51 rfl rfl), by decide +kernel, by decide +kernel, by decide +kernel, by decide +kernel⟩
theorem vBodies_askSize : Cond.instanceMethod (mt mBodies_askSize).1 ∈ gtb ∧ Cond.selects (mt mBodies_askSize).1.cls (mt mBodies_askSize).1 (mt mBodies_askSize).1 ∈ gtb := ⟨(gm 975 rfl rfl), (gm 976 rfl rfl)⟩
theorem wBodies_askMark : am_cw (mt mBodies_askMark) 2 := ⟨(gm 997 rfl rfl), (gm 51 rfl rfl), by decide +kernel, by decide +kernel, by decide +kernel, by decide +kernel⟩
theorem vBodies_askMark : Cond.instanceMethod (mt mBodies_askMark).1 ∈ gtb ∧ Cond.selects (mt mBodies_askMark).1.cls (mt mBodies_askMark).1 (mt mBodies_askMark).1 ∈ gtb := ⟨(gm 995 rfl rfl), (gm 996 rfl rfl)⟩
theorem wBodies_told : am_cw (mt mBodies_told) 3 := ⟨(gm 982 rfl rfl), (gm 51 rfl rfl), by decide +kernel, by decide +kernel, by decide +kernel, by decide +kernel⟩
theorem sBodies_told : Cond.static (mt mBodies_told).1 ∈ gtb := (gm 981 rfl rfl)
theorem wBodies_answer : am_cw (mt mBodies_answer) 4 := ⟨(gm 987 rfl rfl), (gm 51 rfl rfl), by decide +kernel, by decide +kernel, by decide +kernel, by decide +kernel⟩
theorem vBodies_answer : Cond.instanceMethod (mt mBodies_answer).1 ∈ gtb ∧ Cond.selects (mt mBodies_answer).1.cls (mt mBodies_answer).1 (mt mBodies_answer).1 ∈ gtb := ⟨(gm 985 rfl rfl), (gm 986 rfl rfl)⟩
theorem wBodies_begin : am_cw (mt mBodies_begin) 1 := ⟨(gm 991 rfl rfl), (gm 51 rfl rfl), by decide +kernel, by decide +kernel, by decide +kernel, by decide +kernel⟩
theorem vBodies_begin : Cond.instanceMethod (mt mBodies_begin).1 ∈ gtb ∧ Cond.selects (mt mBodies_begin).1.cls (mt mBodies_begin).1 (mt mBodies_begin).1 ∈ gtb := ⟨(gm 989 rfl rfl), (gm 990 rfl rfl)⟩
theorem wCutter_cut : am_cw (mt mCutter_cut) 3 := ⟨(gm 933 rfl rfl), (gm 50 rfl rfl), by decide +kernel, by decide +kernel, by decide +kernel, by decide +kernel⟩
theorem vCutter_cut : Cond.instanceMethod (mt mCutter_cut).1 ∈ gtb ∧ Cond.selects (mt mCutter_cut).1.cls (mt mCutter_cut).1 (mt mCutter_cut).1 ∈ gtb := ⟨(gm 931 rfl rfl), (gm 932 rfl rfl)⟩
theorem wCutter_widthOf : am_cw (mt mCutter_widthOf) 2 := ⟨(gm 938 rfl rfl), (gm 50 rfl rfl), by decide +kernel, by decide +kernel, by decide +kernel, by decide +kernel⟩
theorem vCutter_widthOf : Cond.instanceMethod (mt mCutter_widthOf).1 ∈ gtb ∧ Cond.selects (mt mCutter_widthOf).1.cls (mt mCutter_widthOf).1 (mt mCutter_widthOf).1 ∈ gtb := ⟨(gm 936 rfl rfl), (gm 937 rfl rfl)⟩
theorem wCutter_cutWall : am_cw (mt mCutter_cutWall) 3 := ⟨(gm 946 rfl rfl), (gm 50 rfl rfl), by decide +kernel, by decide +kernel, by decide +kernel, by decide +kernel⟩
theorem vCutter_cutWall : Cond.instanceMethod (mt mCutter_cutWall).1 ∈ gtb ∧ Cond.selects (mt mCutter_cutWall).1.cls (mt mCutter_cutWall).1 (mt mCutter_cutWall).1 ∈ gtb := ⟨(gm 944 rfl rfl), (gm 945 rfl rfl)⟩
theorem wFacts_hasRing : am_cw (mt mFacts_hasRing) 0 := ⟨(gm 689 rfl rfl), (gm 48 rfl rfl), by decide +kernel, by decide +kernel, by decide +kernel, by decide +kernel⟩
theorem vFacts_hasRing : Cond.instanceMethod (mt mFacts_hasRing).1 ∈ gtb ∧ Cond.selects (mt mFacts_hasRing).1.cls (mt mFacts_hasRing).1 (mt mFacts_hasRing).1 ∈ gtb := ⟨(gm 687 rfl rfl), (gm 688 rfl rfl)⟩
theorem wFacts_learn : am_cw (mt mFacts_learn) 0 := ⟨(gm 657 rfl rfl), (gm 48 rfl rfl), by decide +kernel, by decide +kernel, by decide +kernel, by decide +kernel⟩
theorem vFacts_learn : Cond.instanceMethod (mt mFacts_learn).1 ∈ gtb ∧ Cond.selects (mt mFacts_learn).1.cls (mt mFacts_learn).1 (mt mFacts_learn).1 ∈ gtb := ⟨(gm 655 rfl rfl), (gm 656 rfl rfl)⟩
theorem wFacts_gather : am_cw (mt mFacts_gather) 0 := ⟨(gm 661 rfl rfl), (gm 48 rfl rfl), by decide +kernel, by decide +kernel, by decide +kernel, by decide +kernel⟩
theorem vFacts_gather : Cond.instanceMethod (mt mFacts_gather).1 ∈ gtb ∧ Cond.selects (mt mFacts_gather).1.cls (mt mFacts_gather).1 (mt mFacts_gather).1 ∈ gtb := ⟨(gm 659 rfl rfl), (gm 660 rfl rfl)⟩
theorem wFacts_at : am_cw (mt mFacts_at) 1 := ⟨(gm 668 rfl rfl), (gm 48 rfl rfl), by decide +kernel, by decide +kernel, by decide +kernel, by decide +kernel⟩
theorem vFacts_at : Cond.instanceMethod (mt mFacts_at).1 ∈ gtb ∧ Cond.selects (mt mFacts_at).1.cls (mt mFacts_at).1 (mt mFacts_at).1 ∈ gtb := ⟨(gm 666 rfl rfl), (gm 667 rfl rfl)⟩
theorem wFacts_close : am_cw (mt mFacts_close) 0 := ⟨(gm 681 rfl rfl), (gm 48 rfl rfl), by decide +kernel, by decide +kernel, by decide +kernel, by decide +kernel⟩
theorem vFacts_close : Cond.instanceMethod (mt mFacts_close).1 ∈ gtb ∧ Cond.selects (mt mFacts_close).1.cls (mt mFacts_close).1 (mt mFacts_close).1 ∈ gtb := ⟨(gm 679 rfl rfl), (gm 680 rfl rfl)⟩
theorem wFacts_canFollow : am_cw (mt mFacts_canFollow) 2 := ⟨(gm 701 rfl rfl), (gm 48 rfl rfl), by decide +kernel, by decide +kernel, by decide +kernel, by decide +kernel⟩
theorem vFacts_canFollow : Cond.instanceMethod (mt mFacts_canFollow).1 ∈ gtb ∧ Cond.selects (mt mFacts_canFollow).1.cls (mt mFacts_canFollow).1 (mt mFacts_canFollow).1 ∈ gtb := ⟨(gm 699 rfl rfl), (gm 700 rfl rfl)⟩
theorem wFacts_arrange : am_cw (mt mFacts_arrange) 0 := ⟨(gm 693 rfl rfl), (gm 48 rfl rfl), by decide +kernel, by decide +kernel, by decide +kernel, by decide +kernel⟩
theorem vFacts_arrange : Cond.instanceMethod (mt mFacts_arrange).1 ∈ gtb ∧ Cond.selects (mt mFacts_arrange).1.cls (mt mFacts_arrange).1 (mt mFacts_arrange).1 ∈ gtb := ⟨(gm 691 rfl rfl), (gm 692 rfl rfl)⟩
theorem wFacts_leastThatFollows : am_cw (mt mFacts_leastThatFollows) 1 := ⟨(gm 697 rfl rfl), (gm 48 rfl rfl), by decide +kernel, by decide +kernel, by decide +kernel, by decide +kernel⟩
theorem vFacts_leastThatFollows : Cond.instanceMethod (mt mFacts_leastThatFollows).1 ∈ gtb ∧ Cond.selects (mt mFacts_leastThatFollows).1.cls (mt mFacts_leastThatFollows).1 (mt mFacts_leastThatFollows).1 ∈ gtb := ⟨(gm 695 rfl rfl), (gm 696 rfl rfl)⟩
theorem wFacts_dateLeast : am_cw (mt mFacts_dateLeast) 1 := ⟨(gm 705 rfl rfl), (gm 48 rfl rfl), by decide +kernel, by decide +kernel, by decide +kernel, by decide +kernel⟩
theorem vFacts_dateLeast : Cond.instanceMethod (mt mFacts_dateLeast).1 ∈ gtb ∧ Cond.selects (mt mFacts_dateLeast).1.cls (mt mFacts_dateLeast).1 (mt mFacts_dateLeast).1 ∈ gtb := ⟨(gm 703 rfl rfl), (gm 704 rfl rfl)⟩
theorem wFacts_dateMost : am_cw (mt mFacts_dateMost) 1 := ⟨(gm 712 rfl rfl), (gm 48 rfl rfl), by decide +kernel, by decide +kernel, by decide +kernel, by decide +kernel⟩
theorem vFacts_dateMost : Cond.instanceMethod (mt mFacts_dateMost).1 ∈ gtb ∧ Cond.selects (mt mFacts_dateMost).1.cls (mt mFacts_dateMost).1 (mt mFacts_dateMost).1 ∈ gtb := ⟨(gm 710 rfl rfl), (gm 711 rfl rfl)⟩
theorem wFacts_isYounger : am_cw (mt mFacts_isYounger) 2 := ⟨(gm 863 rfl rfl), (gm 48 rfl rfl), by decide +kernel, by decide +kernel, by decide +kernel, by decide +kernel⟩
theorem vFacts_isYounger : Cond.instanceMethod (mt mFacts_isYounger).1 ∈ gtb ∧ Cond.selects (mt mFacts_isYounger).1.cls (mt mFacts_isYounger).1 (mt mFacts_isYounger).1 ∈ gtb := ⟨(gm 861 rfl rfl), (gm 862 rfl rfl)⟩
theorem wFacts_scrapedOff : am_cw (mt mFacts_scrapedOff) 1 := ⟨(gm 871 rfl rfl), (gm 48 rfl rfl), by decide +kernel, by decide +kernel, by decide +kernel, by decide +kernel⟩
theorem vFacts_scrapedOff : Cond.instanceMethod (mt mFacts_scrapedOff).1 ∈ gtb ∧ Cond.selects (mt mFacts_scrapedOff).1.cls (mt mFacts_scrapedOff).1 (mt mFacts_scrapedOff).1 ∈ gtb := ⟨(gm 869 rfl rfl), (gm 870 rfl rfl)⟩
theorem wFacts_neverThere : am_cw (mt mFacts_neverThere) 1 := ⟨(gm 875 rfl rfl), (gm 48 rfl rfl), by decide +kernel, by decide +kernel, by decide +kernel, by decide +kernel⟩
theorem vFacts_neverThere : Cond.instanceMethod (mt mFacts_neverThere).1 ∈ gtb ∧ Cond.selects (mt mFacts_neverThere).1.cls (mt mFacts_neverThere).1 (mt mFacts_neverThere).1 ∈ gtb := ⟨(gm 873 rfl rfl), (gm 874 rfl rfl)⟩
theorem wFacts_whoCan : am_cw (mt mFacts_whoCan) 1 := ⟨(gm 883 rfl rfl), (gm 48 rfl rfl), by decide +kernel, by decide +kernel, by decide +kernel, by decide +kernel⟩
theorem vFacts_whoCan : Cond.instanceMethod (mt mFacts_whoCan).1 ∈ gtb ∧ Cond.selects (mt mFacts_whoCan).1.cls (mt mFacts_whoCan).1 (mt mFacts_whoCan).1 ∈ gtb := ⟨(gm 881 rfl rfl), (gm 882 rfl rfl)⟩
theorem wFacts_missingAt : am_cw (mt mFacts_missingAt) 1 := ⟨(gm 891 rfl rfl), (gm 48 rfl rfl), by decide +kernel, by decide +kernel, by decide +kernel, by decide +kernel⟩
theorem vFacts_missingAt : Cond.instanceMethod (mt mFacts_missingAt).1 ∈ gtb ∧ Cond.selects (mt mFacts_missingAt).1.cls (mt mFacts_missingAt).1 (mt mFacts_missingAt).1 ∈ gtb := ⟨(gm 889 rfl rfl), (gm 890 rfl rfl)⟩
theorem wFacts_leastOf : am_cw (mt mFacts_leastOf) 1 := ⟨(gm 895 rfl rfl), (gm 48 rfl rfl), by decide +kernel, by decide +kernel, by decide +kernel, by decide +kernel⟩
theorem vFacts_leastOf : Cond.instanceMethod (mt mFacts_leastOf).1 ∈ gtb ∧ Cond.selects (mt mFacts_leastOf).1.cls (mt mFacts_leastOf).1 (mt mFacts_leastOf).1 ∈ gtb := ⟨(gm 893 rfl rfl), (gm 894 rfl rfl)⟩
theorem wFacts_mostOf : am_cw (mt mFacts_mostOf) 1 := ⟨(gm 899 rfl rfl), (gm 48 rfl rfl), by decide +kernel, by decide +kernel, by decide +kernel, by decide +kernel⟩
theorem vFacts_mostOf : Cond.instanceMethod (mt mFacts_mostOf).1 ∈ gtb ∧ Cond.selects (mt mFacts_mostOf).1.cls (mt mFacts_mostOf).1 (mt mFacts_mostOf).1 ∈ gtb := ⟨(gm 897 rfl rfl), (gm 898 rfl rfl)⟩
theorem wHouse_stands : am_cw (mt mHouse_stands) 0 := ⟨(gm 528 rfl rfl), (gm 45 rfl rfl), by decide +kernel, by decide +kernel, by decide +kernel, by decide +kernel⟩
theorem vHouse_stands : Cond.instanceMethod (mt mHouse_stands).1 ∈ gtb ∧ Cond.selects (mt mHouse_stands).1.cls (mt mHouse_stands).1 (mt mHouse_stands).1 ∈ gtb := ⟨(gm 526 rfl rfl), (gm 527 rfl rfl)⟩
theorem wHouse_isWall : am_cw (mt mHouse_isWall) 1 := ⟨(gm 741 rfl rfl), (gm 45 rfl rfl), by decide +kernel, by decide +kernel, by decide +kernel, by decide +kernel⟩
theorem vHouse_isWall : Cond.instanceMethod (mt mHouse_isWall).1 ∈ gtb ∧ Cond.selects (mt mHouse_isWall).1.cls (mt mHouse_isWall).1 (mt mHouse_isWall).1 ∈ gtb := ⟨(gm 739 rfl rfl), (gm 740 rfl rfl)⟩
theorem wHouse_isPaper : am_cw (mt mHouse_isPaper) 1 := ⟨(gm 720 rfl rfl), (gm 45 rfl rfl), by decide +kernel, by decide +kernel, by decide +kernel, by decide +kernel⟩
theorem vHouse_isPaper : Cond.instanceMethod (mt mHouse_isPaper).1 ∈ gtb ∧ Cond.selects (mt mHouse_isPaper).1.cls (mt mHouse_isPaper).1 (mt mHouse_isPaper).1 ∈ gtb := ⟨(gm 718 rfl rfl), (gm 719 rfl rfl)⟩
theorem wHouse_isKind : am_cw (mt mHouse_isKind) 1 := ⟨(gm 725 rfl rfl), (gm 45 rfl rfl), by decide +kernel, by decide +kernel, by decide +kernel, by decide +kernel⟩
theorem sHouse_isKind : Cond.static (mt mHouse_isKind).1 ∈ gtb := (gm 724 rfl rfl)
theorem wHouse_isOf : am_cw (mt mHouse_isOf) 2 := ⟨(gm 716 rfl rfl), (gm 45 rfl rfl), by decide +kernel, by decide +kernel, by decide +kernel, by decide +kernel⟩
theorem vHouse_isOf : Cond.instanceMethod (mt mHouse_isOf).1 ∈ gtb ∧ Cond.selects (mt mHouse_isOf).1.cls (mt mHouse_isOf).1 (mt mHouse_isOf).1 ∈ gtb := ⟨(gm 714 rfl rfl), (gm 715 rfl rfl)⟩
theorem wHouse_clear : am_cw (mt mHouse_clear) 0 := ⟨(gm 507 rfl rfl), (gm 45 rfl rfl), by decide +kernel, by decide +kernel, by decide +kernel, by decide +kernel⟩
theorem vHouse_clear : Cond.instanceMethod (mt mHouse_clear).1 ∈ gtb ∧ Cond.selects (mt mHouse_clear).1.cls (mt mHouse_clear).1 (mt mHouse_clear).1 ∈ gtb := ⟨(gm 505 rfl rfl), (gm 506 rfl rfl)⟩
theorem wHouse_addWall : am_cw (mt mHouse_addWall) 3 := ⟨(gm 615 rfl rfl), (gm 45 rfl rfl), by decide +kernel, by decide +kernel, by decide +kernel, by decide +kernel⟩
theorem vHouse_addWall : Cond.instanceMethod (mt mHouse_addWall).1 ∈ gtb ∧ Cond.selects (mt mHouse_addWall).1.cls (mt mHouse_addWall).1 (mt mHouse_addWall).1 ∈ gtb := ⟨(gm 613 rfl rfl), (gm 614 rfl rfl)⟩
theorem wHouse_addPaper : am_cw (mt mHouse_addPaper) 5 := ⟨(gm 632 rfl rfl), (gm 45 rfl rfl), by decide +kernel, by decide +kernel, by decide +kernel, by decide +kernel⟩
theorem vHouse_addPaper : Cond.instanceMethod (mt mHouse_addPaper).1 ∈ gtb ∧ Cond.selects (mt mHouse_addPaper).1.cls (mt mHouse_addPaper).1 (mt mHouse_addPaper).1 ∈ gtb := ⟨(gm 630 rfl rfl), (gm 631 rfl rfl)⟩
theorem wHouse_addTenant : am_cw (mt mHouse_addTenant) 3 := ⟨(gm 640 rfl rfl), (gm 45 rfl rfl), by decide +kernel, by decide +kernel, by decide +kernel, by decide +kernel⟩
theorem vHouse_addTenant : Cond.instanceMethod (mt mHouse_addTenant).1 ∈ gtb ∧ Cond.selects (mt mHouse_addTenant).1.cls (mt mHouse_addTenant).1 (mt mHouse_addTenant).1 ∈ gtb := ⟨(gm 638 rfl rfl), (gm 639 rfl rfl)⟩
theorem wHouse_take : am_cw (mt mHouse_take) 1 := ⟨(gm 645 rfl rfl), (gm 45 rfl rfl), by decide +kernel, by decide +kernel, by decide +kernel, by decide +kernel⟩
theorem vHouse_take : Cond.instanceMethod (mt mHouse_take).1 ∈ gtb ∧ Cond.selects (mt mHouse_take).1.cls (mt mHouse_take).1 (mt mHouse_take).1 ∈ gtb := ⟨(gm 643 rfl rfl), (gm 644 rfl rfl)⟩
theorem wHouse_printedEvery : am_cw (mt mHouse_printedEvery) 1 := ⟨(gm 910 rfl rfl), (gm 45 rfl rfl), by decide +kernel, by decide +kernel, by decide +kernel, by decide +kernel⟩
theorem vHouse_printedEvery : Cond.instanceMethod (mt mHouse_printedEvery).1 ∈ gtb ∧ Cond.selects (mt mHouse_printedEvery).1.cls (mt mHouse_printedEvery).1 (mt mHouse_printedEvery).1 ∈ gtb := ⟨(gm 908 rfl rfl), (gm 909 rfl rfl)⟩
theorem wHouse_isToldBy : am_cw (mt mHouse_isToldBy) 2 := ⟨(gm 924 rfl rfl), (gm 45 rfl rfl), by decide +kernel, by decide +kernel, by decide +kernel, by decide +kernel⟩
theorem vHouse_isToldBy : Cond.instanceMethod (mt mHouse_isToldBy).1 ∈ gtb ∧ Cond.selects (mt mHouse_isToldBy).1.cls (mt mHouse_isToldBy).1 (mt mHouse_isToldBy).1 ∈ gtb := ⟨(gm 922 rfl rfl), (gm 923 rfl rfl)⟩
theorem wHouse_leftBy : am_cw (mt mHouse_leftBy) 2 := ⟨(gm 913 rfl rfl), (gm 45 rfl rfl), by decide +kernel, by decide +kernel, by decide +kernel, by decide +kernel⟩
theorem sHouse_leftBy : Cond.static (mt mHouse_leftBy).1 ∈ gtb := (gm 912 rfl rfl)
theorem wOrders_all : am_cw (mt mOrders_all) 0 := ⟨(gm 793 rfl rfl), (gm 49 rfl rfl), by decide +kernel, by decide +kernel, by decide +kernel, by decide +kernel⟩
theorem vOrders_all : Cond.instanceMethod (mt mOrders_all).1 ∈ gtb ∧ Cond.selects (mt mOrders_all).1.cls (mt mOrders_all).1 (mt mOrders_all).1 ∈ gtb := ⟨(gm 791 rfl rfl), (gm 792 rfl rfl)⟩
theorem wOrders_withAhead : am_cw (mt mOrders_withAhead) 2 := ⟨(gm 832 rfl rfl), (gm 49 rfl rfl), by decide +kernel, by decide +kernel, by decide +kernel, by decide +kernel⟩
theorem vOrders_withAhead : Cond.instanceMethod (mt mOrders_withAhead).1 ∈ gtb ∧ Cond.selects (mt mOrders_withAhead).1.cls (mt mOrders_withAhead).1 (mt mOrders_withAhead).1 ∈ gtb := ⟨(gm 830 rfl rfl), (gm 831 rfl rfl)⟩
theorem wOrders_mostEvenPair : am_cw (mt mOrders_mostEvenPair) 0 := ⟨(gm 844 rfl rfl), (gm 49 rfl rfl), by decide +kernel, by decide +kernel, by decide +kernel, by decide +kernel⟩
theorem vOrders_mostEvenPair : Cond.instanceMethod (mt mOrders_mostEvenPair).1 ∈ gtb ∧ Cond.selects (mt mOrders_mostEvenPair).1.cls (mt mOrders_mostEvenPair).1 (mt mOrders_mostEvenPair).1 ∈ gtb := ⟨(gm 842 rfl rfl), (gm 843 rfl rfl)⟩
theorem wOrders_isOpen : am_cw (mt mOrders_isOpen) 2 := ⟨(gm 851 rfl rfl), (gm 49 rfl rfl), by decide +kernel, by decide +kernel, by decide +kernel, by decide +kernel⟩
theorem vOrders_isOpen : Cond.instanceMethod (mt mOrders_isOpen).1 ∈ gtb ∧ Cond.selects (mt mOrders_isOpen).1.cls (mt mOrders_isOpen).1 (mt mOrders_isOpen).1 ∈ gtb := ⟨(gm 849 rfl rfl), (gm 850 rfl rfl)⟩
theorem wOrders_countOnce : am_cw (mt mOrders_countOnce) 0 := ⟨(gm 797 rfl rfl), (gm 49 rfl rfl), by decide +kernel, by decide +kernel, by decide +kernel, by decide +kernel⟩
theorem vOrders_countOnce : Cond.instanceMethod (mt mOrders_countOnce).1 ∈ gtb ∧ Cond.selects (mt mOrders_countOnce).1.cls (mt mOrders_countOnce).1 (mt mOrders_countOnce).1 ∈ gtb := ⟨(gm 795 rfl rfl), (gm 796 rfl rfl)⟩
theorem wOrders_countBegun : am_cw (mt mOrders_countBegun) 1 := ⟨(gm 802 rfl rfl), (gm 49 rfl rfl), by decide +kernel, by decide +kernel, by decide +kernel, by decide +kernel⟩
theorem vOrders_countBegun : Cond.instanceMethod (mt mOrders_countBegun).1 ∈ gtb ∧ Cond.selects (mt mOrders_countBegun).1.cls (mt mOrders_countBegun).1 (mt mOrders_countBegun).1 ∈ gtb := ⟨(gm 800 rfl rfl), (gm 801 rfl rfl)⟩
theorem wOrders_countEnded : am_cw (mt mOrders_countEnded) 1 := ⟨(gm 807 rfl rfl), (gm 49 rfl rfl), by decide +kernel, by decide +kernel, by decide +kernel, by decide +kernel⟩
theorem vOrders_countEnded : Cond.instanceMethod (mt mOrders_countEnded).1 ∈ gtb ∧ Cond.selects (mt mOrders_countEnded).1.cls (mt mOrders_countEnded).1 (mt mOrders_countEnded).1 ∈ gtb := ⟨(gm 805 rfl rfl), (gm 806 rfl rfl)⟩
theorem wOrders_countPairs : am_cw (mt mOrders_countPairs) 3 := ⟨(gm 811 rfl rfl), (gm 49 rfl rfl), by decide +kernel, by decide +kernel, by decide +kernel, by decide +kernel⟩
theorem vOrders_countPairs : Cond.instanceMethod (mt mOrders_countPairs).1 ∈ gtb ∧ Cond.selects (mt mOrders_countPairs).1.cls (mt mOrders_countPairs).1 (mt mOrders_countPairs).1 ∈ gtb := ⟨(gm 809 rfl rfl), (gm 810 rfl rfl)⟩
theorem wReader_read : am_cw (mt mReader_read) 0 := ⟨(gm 503 rfl rfl), (gm 44 rfl rfl), by decide +kernel, by decide +kernel, by decide +kernel, by decide +kernel⟩
theorem vReader_read : Cond.instanceMethod (mt mReader_read).1 ∈ gtb ∧ Cond.selects (mt mReader_read).1.cls (mt mReader_read).1 (mt mReader_read).1 ∈ gtb := ⟨(gm 501 rfl rfl), (gm 502 rfl rfl)⟩
theorem wReader_word : am_cw (mt mReader_word) 0 := ⟨(gm 532 rfl rfl), (gm 44 rfl rfl), by decide +kernel, by decide +kernel, by decide +kernel, by decide +kernel⟩
theorem vReader_word : Cond.instanceMethod (mt mReader_word).1 ∈ gtb ∧ Cond.selects (mt mReader_word).1.cls (mt mReader_word).1 (mt mReader_word).1 ∈ gtb := ⟨(gm 530 rfl rfl), (gm 531 rfl rfl)⟩
theorem wReader_isFull : am_cw (mt mReader_isFull) 1 := ⟨(gm 595 rfl rfl), (gm 44 rfl rfl), by decide +kernel, by decide +kernel, by decide +kernel, by decide +kernel⟩
theorem vReader_isFull : Cond.instanceMethod (mt mReader_isFull).1 ∈ gtb ∧ Cond.selects (mt mReader_isFull).1.cls (mt mReader_isFull).1 (mt mReader_isFull).1 ∈ gtb := ⟨(gm 593 rfl rfl), (gm 594 rfl rfl)⟩
theorem wReader_readOne : am_cw (mt mReader_readOne) 1 := ⟨(gm 599 rfl rfl), (gm 44 rfl rfl), by decide +kernel, by decide +kernel, by decide +kernel, by decide +kernel⟩
theorem vReader_readOne : Cond.instanceMethod (mt mReader_readOne).1 ∈ gtb ∧ Cond.selects (mt mReader_readOne).1.cls (mt mReader_readOne).1 (mt mReader_readOne).1 ∈ gtb := ⟨(gm 597 rfl rfl), (gm 598 rfl rfl)⟩
theorem wReader_readWall : am_cw (mt mReader_readWall) 0 := ⟨(gm 603 rfl rfl), (gm 44 rfl rfl), by decide +kernel, by decide +kernel, by decide +kernel, by decide +kernel⟩
theorem vReader_readWall : Cond.instanceMethod (mt mReader_readWall).1 ∈ gtb ∧ Cond.selects (mt mReader_readWall).1.cls (mt mReader_readWall).1 (mt mReader_readWall).1 ∈ gtb := ⟨(gm 601 rfl rfl), (gm 602 rfl rfl)⟩
theorem wReader_readPaper : am_cw (mt mReader_readPaper) 0 := ⟨(gm 619 rfl rfl), (gm 44 rfl rfl), by decide +kernel, by decide +kernel, by decide +kernel, by decide +kernel⟩
theorem vReader_readPaper : Cond.instanceMethod (mt mReader_readPaper).1 ∈ gtb ∧ Cond.selects (mt mReader_readPaper).1.cls (mt mReader_readPaper).1 (mt mReader_readPaper).1 ∈ gtb := ⟨(gm 617 rfl rfl), (gm 618 rfl rfl)⟩
theorem wReader_readTenant : am_cw (mt mReader_readTenant) 0 := ⟨(gm 636 rfl rfl), (gm 44 rfl rfl), by decide +kernel, by decide +kernel, by decide +kernel, by decide +kernel⟩
theorem vReader_readTenant : Cond.instanceMethod (mt mReader_readTenant).1 ∈ gtb ∧ Cond.selects (mt mReader_readTenant).1.cls (mt mReader_readTenant).1 (mt mReader_readTenant).1 ∈ gtb := ⟨(gm 634 rfl rfl), (gm 635 rfl rfl)⟩
theorem wReader_sortOfPaper : am_cw (mt mReader_sortOfPaper) 0 := ⟨(gm 623 rfl rfl), (gm 44 rfl rfl), by decide +kernel, by decide +kernel, by decide +kernel, by decide +kernel⟩
theorem vReader_sortOfPaper : Cond.instanceMethod (mt mReader_sortOfPaper).1 ∈ gtb ∧ Cond.selects (mt mReader_sortOfPaper).1.cls (mt mReader_sortOfPaper).1 (mt mReader_sortOfPaper).1 ∈ gtb := ⟨(gm 621 rfl rfl), (gm 622 rfl rfl)⟩
theorem wReader_number : am_cw (mt mReader_number) 2 := ⟨(gm 607 rfl rfl), (gm 44 rfl rfl), by decide +kernel, by decide +kernel, by decide +kernel, by decide +kernel⟩
theorem vReader_number : Cond.instanceMethod (mt mReader_number).1 ∈ gtb ∧ Cond.selects (mt mReader_number).1.cls (mt mReader_number).1 (mt mReader_number).1 ∈ gtb := ⟨(gm 605 rfl rfl), (gm 606 rfl rfl)⟩
theorem wReader_semicolon : am_cw (mt mReader_semicolon) 0 := ⟨(gm 611 rfl rfl), (gm 44 rfl rfl), by decide +kernel, by decide +kernel, by decide +kernel, by decide +kernel⟩
theorem vReader_semicolon : Cond.instanceMethod (mt mReader_semicolon).1 ∈ gtb ∧ Cond.selects (mt mReader_semicolon).1.cls (mt mReader_semicolon).1 (mt mReader_semicolon).1 ∈ gtb := ⟨(gm 609 rfl rfl), (gm 610 rfl rfl)⟩
theorem wReader_fail : am_cw (mt mReader_fail) 1 := ⟨(gm 591 rfl rfl), (gm 44 rfl rfl), by decide +kernel, by decide +kernel, by decide +kernel, by decide +kernel⟩
theorem vReader_fail : Cond.instanceMethod (mt mReader_fail).1 ∈ gtb ∧ Cond.selects (mt mReader_fail).1.cls (mt mReader_fail).1 (mt mReader_fail).1 ∈ gtb := ⟨(gm 589 rfl rfl), (gm 590 rfl rfl)⟩
theorem wReader_step : am_cw (mt mReader_step) 0 := ⟨(gm 511 rfl rfl), (gm 44 rfl rfl), by decide +kernel, by decide +kernel, by decide +kernel, by decide +kernel⟩
theorem vReader_step : Cond.instanceMethod (mt mReader_step).1 ∈ gtb ∧ Cond.selects (mt mReader_step).1.cls (mt mReader_step).1 (mt mReader_step).1 ∈ gtb := ⟨(gm 509 rfl rfl), (gm 510 rfl rfl)⟩
theorem wReader_isName : am_cw (mt mReader_isName) 1 := ⟨(gm 537 rfl rfl), (gm 44 rfl rfl), by decide +kernel, by decide +kernel, by decide +kernel, by decide +kernel⟩
theorem vReader_isName : Cond.instanceMethod (mt mReader_isName).1 ∈ gtb ∧ Cond.selects (mt mReader_isName).1.cls (mt mReader_isName).1 (mt mReader_isName).1 ∈ gtb := ⟨(gm 535 rfl rfl), (gm 536 rfl rfl)⟩
theorem wReader_isBlank : am_cw (mt mReader_isBlank) 1 := ⟨(gm 518 rfl rfl), (gm 44 rfl rfl), by decide +kernel, by decide +kernel, by decide +kernel, by decide +kernel⟩
theorem sReader_isBlank : Cond.static (mt mReader_isBlank).1 ∈ gtb := (gm 517 rfl rfl)
end
