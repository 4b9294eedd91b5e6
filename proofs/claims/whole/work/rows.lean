section
-- ===== PART A: goes FIRST, ahead of the names: the tables' words, and 'selects' of the private methods out of them =====
/-- a private method of a class that the tables say can be made, by its rows of tables_1 -/
def lw_okq (q : MethodName × Nat) : Prop := (q.1.cls ≠ "java/lang/invoke/MethodHandle" ∧ q.1.cls ≠ "java/lang/invoke/VarHandle") ∧ Cond.instantiable q.1.cls q.2 ∈ tables_1 ∧ Cond.privateMethod q.1 ∈ tables_1 ∧ Cond.instanceMethod q.1 ∈ tables_1
theorem lw_p0 : lw_okq (⟨"PaperedOver", "found", "(I)I"⟩, 13) := ⟨⟨by decide +kernel, by decide +kernel⟩, List.mem_of_getElem? (i := 21) (by decide +kernel), List.mem_of_getElem? (i := 382) (by decide +kernel), List.mem_of_getElem? (i := 383) (by decide +kernel)⟩
theorem lw_p1 : lw_okq (⟨"PaperedOver", "clean", "(I)I"⟩, 13) := ⟨⟨by decide +kernel, by decide +kernel⟩, List.mem_of_getElem? (i := 21) (by decide +kernel), List.mem_of_getElem? (i := 398) (by decide +kernel), List.mem_of_getElem? (i := 399) (by decide +kernel)⟩
theorem lw_p2 : lw_okq (⟨"PaperedOver", "learnAnew", "()V"⟩, 13) := ⟨⟨by decide +kernel, by decide +kernel⟩, List.mem_of_getElem? (i := 21) (by decide +kernel), List.mem_of_getElem? (i := 611) (by decide +kernel), List.mem_of_getElem? (i := 612) (by decide +kernel)⟩
theorem lw_p3 : lw_okq (⟨"PaperedOver", "areUnlikePapers", "(III)Z"⟩, 13) := ⟨⟨by decide +kernel, by decide +kernel⟩, List.mem_of_getElem? (i := 21) (by decide +kernel), List.mem_of_getElem? (i := 707) (by decide +kernel), List.mem_of_getElem? (i := 708) (by decide +kernel)⟩
theorem lw_p4 : lw_okq (⟨"PaperedOver", "isSeen", "(I)Z"⟩, 13) := ⟨⟨by decide +kernel, by decide +kernel⟩, List.mem_of_getElem? (i := 21) (by decide +kernel), List.mem_of_getElem? (i := 782) (by decide +kernel), List.mem_of_getElem? (i := 783) (by decide +kernel)⟩
theorem lw_p5 : lw_okq (⟨"PaperedOverModel", "finding", "(I)I"⟩, 29) := ⟨⟨by decide +kernel, by decide +kernel⟩, List.mem_of_getElem? (i := 975) (by decide +kernel), List.mem_of_getElem? (i := 1082) (by decide +kernel), List.mem_of_getElem? (i := 1083) (by decide +kernel)⟩
theorem lw_p6 : lw_okq (⟨"PaperedOverModel", "begin", "()V"⟩, 29) := ⟨⟨by decide +kernel, by decide +kernel⟩, List.mem_of_getElem? (i := 975) (by decide +kernel), List.mem_of_getElem? (i := 1110) (by decide +kernel), List.mem_of_getElem? (i := 1111) (by decide +kernel)⟩
theorem lw_p7 : lw_okq (⟨"PaperedOverModel", "nextToken", "()V"⟩, 29) := ⟨⟨by decide +kernel, by decide +kernel⟩, List.mem_of_getElem? (i := 975) (by decide +kernel), List.mem_of_getElem? (i := 1114) (by decide +kernel), List.mem_of_getElem? (i := 1115) (by decide +kernel)⟩
theorem lw_p8 : lw_okq (⟨"PaperedOverModel", "byteAt", "(I)I"⟩, 29) := ⟨⟨by decide +kernel, by decide +kernel⟩, List.mem_of_getElem? (i := 975) (by decide +kernel), List.mem_of_getElem? (i := 1118) (by decide +kernel), List.mem_of_getElem? (i := 1119) (by decide +kernel)⟩
theorem lw_p9 : lw_okq (⟨"PaperedOverModel", "name", "()J"⟩, 29) := ⟨⟨by decide +kernel, by decide +kernel⟩, List.mem_of_getElem? (i := 975) (by decide +kernel), List.mem_of_getElem? (i := 1129) (by decide +kernel), List.mem_of_getElem? (i := 1130) (by decide +kernel)⟩
theorem lw_p10 : lw_okq (⟨"PaperedOverModel", "bad", "(I)V"⟩, 29) := ⟨⟨by decide +kernel, by decide +kernel⟩, List.mem_of_getElem? (i := 975) (by decide +kernel), List.mem_of_getElem? (i := 1134) (by decide +kernel), List.mem_of_getElem? (i := 1135) (by decide +kernel)⟩
theorem lw_p11 : lw_okq (⟨"PaperedOverModel", "readWall", "()V"⟩, 29) := ⟨⟨by decide +kernel, by decide +kernel⟩, List.mem_of_getElem? (i := 975) (by decide +kernel), List.mem_of_getElem? (i := 1138) (by decide +kernel), List.mem_of_getElem? (i := 1139) (by decide +kernel)⟩
theorem lw_p12 : lw_okq (⟨"PaperedOverModel", "begins", "(II)V"⟩, 29) := ⟨⟨by decide +kernel, by decide +kernel⟩, List.mem_of_getElem? (i := 975) (by decide +kernel), List.mem_of_getElem? (i := 1142) (by decide +kernel), List.mem_of_getElem? (i := 1143) (by decide +kernel)⟩
theorem lw_p13 : lw_okq (⟨"PaperedOverModel", "must", "(Z)V"⟩, 29) := ⟨⟨by decide +kernel, by decide +kernel⟩, List.mem_of_getElem? (i := 975) (by decide +kernel), List.mem_of_getElem? (i := 1146) (by decide +kernel), List.mem_of_getElem? (i := 1147) (by decide +kernel)⟩
theorem lw_p14 : lw_okq (⟨"PaperedOverModel", "number", "(II)I"⟩, 29) := ⟨⟨by decide +kernel, by decide +kernel⟩, List.mem_of_getElem? (i := 975) (by decide +kernel), List.mem_of_getElem? (i := 1150) (by decide +kernel), List.mem_of_getElem? (i := 1151) (by decide +kernel)⟩
theorem lw_p15 : lw_okq (⟨"PaperedOverModel", "figures", "()I"⟩, 29) := ⟨⟨by decide +kernel, by decide +kernel⟩, List.mem_of_getElem? (i := 975) (by decide +kernel), List.mem_of_getElem? (i := 1154) (by decide +kernel), List.mem_of_getElem? (i := 1155) (by decide +kernel)⟩
def lw_privs_1 : List (MethodName × Nat) := [(⟨"PaperedOver", "found", "(I)I"⟩, 13), (⟨"PaperedOver", "clean", "(I)I"⟩, 13), (⟨"PaperedOver", "learnAnew", "()V"⟩, 13), (⟨"PaperedOver", "areUnlikePapers", "(III)Z"⟩, 13), (⟨"PaperedOver", "isSeen", "(I)Z"⟩, 13), (⟨"PaperedOverModel", "finding", "(I)I"⟩, 29), (⟨"PaperedOverModel", "begin", "()V"⟩, 29), (⟨"PaperedOverModel", "nextToken", "()V"⟩, 29), (⟨"PaperedOverModel", "byteAt", "(I)I"⟩, 29), (⟨"PaperedOverModel", "name", "()J"⟩, 29), (⟨"PaperedOverModel", "bad", "(I)V"⟩, 29), (⟨"PaperedOverModel", "readWall", "()V"⟩, 29), (⟨"PaperedOverModel", "begins", "(II)V"⟩, 29), (⟨"PaperedOverModel", "must", "(Z)V"⟩, 29), (⟨"PaperedOverModel", "number", "(II)I"⟩, 29), (⟨"PaperedOverModel", "figures", "()I"⟩, 29)]
theorem lw_r1 : ∀ q ∈ lw_privs_1, lw_okq q := List.forall_mem_cons.mpr ⟨lw_p0, List.forall_mem_cons.mpr ⟨lw_p1, List.forall_mem_cons.mpr ⟨lw_p2, List.forall_mem_cons.mpr ⟨lw_p3, List.forall_mem_cons.mpr ⟨lw_p4, List.forall_mem_cons.mpr ⟨lw_p5, List.forall_mem_cons.mpr ⟨lw_p6, List.forall_mem_cons.mpr ⟨lw_p7, List.forall_mem_cons.mpr ⟨lw_p8, List.forall_mem_cons.mpr ⟨lw_p9, List.forall_mem_cons.mpr ⟨lw_p10, List.forall_mem_cons.mpr ⟨lw_p11, List.forall_mem_cons.mpr ⟨lw_p12, List.forall_mem_cons.mpr ⟨lw_p13, List.forall_mem_cons.mpr ⟨lw_p14, List.forall_mem_cons.mpr ⟨lw_p15, fun _ h => absurd h List.not_mem_nil⟩⟩⟩⟩⟩⟩⟩⟩⟩⟩⟩⟩⟩⟩⟩⟩
theorem lw_p16 : lw_okq (⟨"PaperedOverModel", "mustEnd", "()V"⟩, 29) := ⟨⟨by decide +kernel, by decide +kernel⟩, List.mem_of_getElem? (i := 975) (by decide +kernel), List.mem_of_getElem? (i := 1158) (by decide +kernel), List.mem_of_getElem? (i := 1159) (by decide +kernel)⟩
theorem lw_p17 : lw_okq (⟨"PaperedOverModel", "readPaper", "()V"⟩, 29) := ⟨⟨by decide +kernel, by decide +kernel⟩, List.mem_of_getElem? (i := 975) (by decide +kernel), List.mem_of_getElem? (i := 1163) (by decide +kernel), List.mem_of_getElem? (i := 1164) (by decide +kernel)⟩
theorem lw_p18 : lw_okq (⟨"PaperedOverModel", "readTenant", "()V"⟩, 29) := ⟨⟨by decide +kernel, by decide +kernel⟩, List.mem_of_getElem? (i := 975) (by decide +kernel), List.mem_of_getElem? (i := 1176) (by decide +kernel), List.mem_of_getElem? (i := 1177) (by decide +kernel)⟩
theorem lw_p19 : lw_okq (⟨"PaperedOverModel", "laySpots", "()V"⟩, 29) := ⟨⟨by decide +kernel, by decide +kernel⟩, List.mem_of_getElem? (i := 975) (by decide +kernel), List.mem_of_getElem? (i := 1181) (by decide +kernel), List.mem_of_getElem? (i := 1182) (by decide +kernel)⟩
theorem lw_p20 : lw_okq (⟨"PaperedOverModel", "manyAt", "(I)I"⟩, 29) := ⟨⟨by decide +kernel, by decide +kernel⟩, List.mem_of_getElem? (i := 975) (by decide +kernel), List.mem_of_getElem? (i := 1185) (by decide +kernel), List.mem_of_getElem? (i := 1186) (by decide +kernel)⟩
theorem lw_p21 : lw_okq (⟨"PaperedOverModel", "lies", "(II)I"⟩, 29) := ⟨⟨by decide +kernel, by decide +kernel⟩, List.mem_of_getElem? (i := 975) (by decide +kernel), List.mem_of_getElem? (i := 1189) (by decide +kernel), List.mem_of_getElem? (i := 1190) (by decide +kernel)⟩
theorem lw_p22 : lw_okq (⟨"PaperedOverModel", "wallOf", "(I)I"⟩, 29) := ⟨⟨by decide +kernel, by decide +kernel⟩, List.mem_of_getElem? (i := 975) (by decide +kernel), List.mem_of_getElem? (i := 1193) (by decide +kernel), List.mem_of_getElem? (i := 1194) (by decide +kernel)⟩
theorem lw_p23 : lw_okq (⟨"PaperedOverModel", "laySure", "()V"⟩, 29) := ⟨⟨by decide +kernel, by decide +kernel⟩, List.mem_of_getElem? (i := 975) (by decide +kernel), List.mem_of_getElem? (i := 1197) (by decide +kernel), List.mem_of_getElem? (i := 1198) (by decide +kernel)⟩
theorem lw_p24 : lw_okq (⟨"PaperedOverModel", "isWall", "(I)Z"⟩, 29) := ⟨⟨by decide +kernel, by decide +kernel⟩, List.mem_of_getElem? (i := 975) (by decide +kernel), List.mem_of_getElem? (i := 1209) (by decide +kernel), List.mem_of_getElem? (i := 1210) (by decide +kernel)⟩
theorem lw_p25 : lw_okq (⟨"PaperedOverModel", "lack", "(III)I"⟩, 29) := ⟨⟨by decide +kernel, by decide +kernel⟩, List.mem_of_getElem? (i := 975) (by decide +kernel), List.mem_of_getElem? (i := 1213) (by decide +kernel), List.mem_of_getElem? (i := 1214) (by decide +kernel)⟩
theorem lw_p26 : lw_okq (⟨"PaperedOverModel", "isPaper", "(I)Z"⟩, 29) := ⟨⟨by decide +kernel, by decide +kernel⟩, List.mem_of_getElem? (i := 975) (by decide +kernel), List.mem_of_getElem? (i := 1217) (by decide +kernel), List.mem_of_getElem? (i := 1218) (by decide +kernel)⟩
theorem lw_p27 : lw_okq (⟨"PaperedOverModel", "isSpot", "(I)Z"⟩, 29) := ⟨⟨by decide +kernel, by decide +kernel⟩, List.mem_of_getElem? (i := 975) (by decide +kernel), List.mem_of_getElem? (i := 1233) (by decide +kernel), List.mem_of_getElem? (i := 1234) (by decide +kernel)⟩
theorem lw_p28 : lw_okq (⟨"PaperedOverModel", "inRings", "()I"⟩, 29) := ⟨⟨by decide +kernel, by decide +kernel⟩, List.mem_of_getElem? (i := 975) (by decide +kernel), List.mem_of_getElem? (i := 1241) (by decide +kernel), List.mem_of_getElem? (i := 1242) (by decide +kernel)⟩
theorem lw_p29 : lw_okq (⟨"PaperedOverModel", "of", "(II)I"⟩, 29) := ⟨⟨by decide +kernel, by decide +kernel⟩, List.mem_of_getElem? (i := 975) (by decide +kernel), List.mem_of_getElem? (i := 1250) (by decide +kernel), List.mem_of_getElem? (i := 1251) (by decide +kernel)⟩
theorem lw_p30 : lw_okq (⟨"PaperedOverModel", "ordersWith", "(II)I"⟩, 29) := ⟨⟨by decide +kernel, by decide +kernel⟩, List.mem_of_getElem? (i := 975) (by decide +kernel), List.mem_of_getElem? (i := 1258) (by decide +kernel), List.mem_of_getElem? (i := 1259) (by decide +kernel)⟩
theorem lw_p31 : lw_okq (⟨"PaperedOverModel", "isSeen", "(I)Z"⟩, 29) := ⟨⟨by decide +kernel, by decide +kernel⟩, List.mem_of_getElem? (i := 975) (by decide +kernel), List.mem_of_getElem? (i := 1270) (by decide +kernel), List.mem_of_getElem? (i := 1271) (by decide +kernel)⟩
def lw_privs_2 : List (MethodName × Nat) := [(⟨"PaperedOverModel", "mustEnd", "()V"⟩, 29), (⟨"PaperedOverModel", "readPaper", "()V"⟩, 29), (⟨"PaperedOverModel", "readTenant", "()V"⟩, 29), (⟨"PaperedOverModel", "laySpots", "()V"⟩, 29), (⟨"PaperedOverModel", "manyAt", "(I)I"⟩, 29), (⟨"PaperedOverModel", "lies", "(II)I"⟩, 29), (⟨"PaperedOverModel", "wallOf", "(I)I"⟩, 29), (⟨"PaperedOverModel", "laySure", "()V"⟩, 29), (⟨"PaperedOverModel", "isWall", "(I)Z"⟩, 29), (⟨"PaperedOverModel", "lack", "(III)I"⟩, 29), (⟨"PaperedOverModel", "isPaper", "(I)Z"⟩, 29), (⟨"PaperedOverModel", "isSpot", "(I)Z"⟩, 29), (⟨"PaperedOverModel", "inRings", "()I"⟩, 29), (⟨"PaperedOverModel", "of", "(II)I"⟩, 29), (⟨"PaperedOverModel", "ordersWith", "(II)I"⟩, 29), (⟨"PaperedOverModel", "isSeen", "(I)Z"⟩, 29)]
theorem lw_r2 : ∀ q ∈ lw_privs_2, lw_okq q := List.forall_mem_cons.mpr ⟨lw_p16, List.forall_mem_cons.mpr ⟨lw_p17, List.forall_mem_cons.mpr ⟨lw_p18, List.forall_mem_cons.mpr ⟨lw_p19, List.forall_mem_cons.mpr ⟨lw_p20, List.forall_mem_cons.mpr ⟨lw_p21, List.forall_mem_cons.mpr ⟨lw_p22, List.forall_mem_cons.mpr ⟨lw_p23, List.forall_mem_cons.mpr ⟨lw_p24, List.forall_mem_cons.mpr ⟨lw_p25, List.forall_mem_cons.mpr ⟨lw_p26, List.forall_mem_cons.mpr ⟨lw_p27, List.forall_mem_cons.mpr ⟨lw_p28, List.forall_mem_cons.mpr ⟨lw_p29, List.forall_mem_cons.mpr ⟨lw_p30, List.forall_mem_cons.mpr ⟨lw_p31, fun _ h => absurd h List.not_mem_nil⟩⟩⟩⟩⟩⟩⟩⟩⟩⟩⟩⟩⟩⟩⟩⟩
theorem lw_p32 : lw_okq (⟨"PaperedOverModel", "layYears", "()V"⟩, 29) := ⟨⟨by decide +kernel, by decide +kernel⟩, List.mem_of_getElem? (i := 975) (by decide +kernel), List.mem_of_getElem? (i := 1285) (by decide +kernel), List.mem_of_getElem? (i := 1286) (by decide +kernel)⟩
theorem lw_p33 : lw_okq (⟨"PaperedOverModel", "wall", "(II)I"⟩, 29) := ⟨⟨by decide +kernel, by decide +kernel⟩, List.mem_of_getElem? (i := 975) (by decide +kernel), List.mem_of_getElem? (i := 1289) (by decide +kernel), List.mem_of_getElem? (i := 1290) (by decide +kernel)⟩
theorem lw_p34 : lw_okq (⟨"PaperedOverModel", "tellsBy", "(II)Z"⟩, 29) := ⟨⟨by decide +kernel, by decide +kernel⟩, List.mem_of_getElem? (i := 975) (by decide +kernel), List.mem_of_getElem? (i := 1318) (by decide +kernel), List.mem_of_getElem? (i := 1319) (by decide +kernel)⟩
theorem lw_p35 : lw_okq (⟨"PaperedOverModel", "painted", "(II)I"⟩, 29) := ⟨⟨by decide +kernel, by decide +kernel⟩, List.mem_of_getElem? (i := 975) (by decide +kernel), List.mem_of_getElem? (i := 1326) (by decide +kernel), List.mem_of_getElem? (i := 1327) (by decide +kernel)⟩
theorem lw_p36 : lw_okq (⟨"PaperedOverModel", "sizeOf", "(I)I"⟩, 29) := ⟨⟨by decide +kernel, by decide +kernel⟩, List.mem_of_getElem? (i := 975) (by decide +kernel), List.mem_of_getElem? (i := 1354) (by decide +kernel), List.mem_of_getElem? (i := 1355) (by decide +kernel)⟩
theorem lw_p37 : lw_okq (⟨"PaperedOverModel", "plainSize", "(I)I"⟩, 29) := ⟨⟨by decide +kernel, by decide +kernel⟩, List.mem_of_getElem? (i := 975) (by decide +kernel), List.mem_of_getElem? (i := 1358) (by decide +kernel), List.mem_of_getElem? (i := 1359) (by decide +kernel)⟩
theorem lw_p38 : lw_okq (⟨"PaperedOverModel", "began", "(I)V"⟩, 29) := ⟨⟨by decide +kernel, by decide +kernel⟩, List.mem_of_getElem? (i := 975) (by decide +kernel), List.mem_of_getElem? (i := 1362) (by decide +kernel), List.mem_of_getElem? (i := 1363) (by decide +kernel)⟩
theorem lw_p39 : lw_okq (⟨"PaperedOverModel", "markOf", "(I)I"⟩, 29) := ⟨⟨by decide +kernel, by decide +kernel⟩, List.mem_of_getElem? (i := 975) (by decide +kernel), List.mem_of_getElem? (i := 1366) (by decide +kernel), List.mem_of_getElem? (i := 1367) (by decide +kernel)⟩
def lw_privs_3 : List (MethodName × Nat) := [(⟨"PaperedOverModel", "layYears", "()V"⟩, 29), (⟨"PaperedOverModel", "wall", "(II)I"⟩, 29), (⟨"PaperedOverModel", "tellsBy", "(II)Z"⟩, 29), (⟨"PaperedOverModel", "painted", "(II)I"⟩, 29), (⟨"PaperedOverModel", "sizeOf", "(I)I"⟩, 29), (⟨"PaperedOverModel", "plainSize", "(I)I"⟩, 29), (⟨"PaperedOverModel", "began", "(I)V"⟩, 29), (⟨"PaperedOverModel", "markOf", "(I)I"⟩, 29)]
theorem lw_r3 : ∀ q ∈ lw_privs_3, lw_okq q := List.forall_mem_cons.mpr ⟨lw_p32, List.forall_mem_cons.mpr ⟨lw_p33, List.forall_mem_cons.mpr ⟨lw_p34, List.forall_mem_cons.mpr ⟨lw_p35, List.forall_mem_cons.mpr ⟨lw_p36, List.forall_mem_cons.mpr ⟨lw_p37, List.forall_mem_cons.mpr ⟨lw_p38, List.forall_mem_cons.mpr ⟨lw_p39, fun _ h => absurd h List.not_mem_nil⟩⟩⟩⟩⟩⟩⟩⟩
def lw_privs : List (MethodName × Nat) := lw_privs_1 ++ (lw_privs_2 ++ (lw_privs_3))
def lw_tbl : List Cond := k2_sels lw_privs ++ tables_1
theorem lw_privs_ok : ∀ q ∈ lw_privs, lw_okq q := by
  show ∀ q ∈ lw_privs_1 ++ (lw_privs_2 ++ (lw_privs_3)), lw_okq q
  exact List.forall_mem_append.mpr ⟨lw_r1, List.forall_mem_append.mpr ⟨lw_r2, lw_r3⟩⟩
end
section
def rc_0 : String := "PaperedOver"
def tc_0 : u_T := fun k => match k with
  | 0 => ("PaperedOver", "rows", "LPaperedOver$Rows;", true)
  | 1 => ("PaperedOver", "tape", "LPaperedOver$Tape;", true)
  | 2 => ("PaperedOver", "reader", "LPaperedOver$Reader;", true)
  | 3 => ("PaperedOver", "house", "LPaperedOver$House;", true)
  | 4 => ("PaperedOver", "spots", "LPaperedOver$Spots;", true)
  | 5 => ("PaperedOver", "imageA", "LPaperedOver$Image;", true)
  | 6 => ("PaperedOver", "imageB", "LPaperedOver$Image;", true)
  | 7 => ("PaperedOver", "facts", "LPaperedOver$Facts;", true)
  | 8 => ("PaperedOver", "parted", "LPaperedOver$Orders;", true)
  | 9 => ("PaperedOver", "cutter", "LPaperedOver$Cutter;", true)
  | 10 => ("PaperedOver", "bodies", "LPaperedOver$Bodies;", true)
  | 11 => ("PaperedOver", "latestFault", "I", false)
  | _ => ("PaperedOver", "latestFinding", "I", false)
def yc_0 : Nat → FieldType := fun k => match k with
  | 0 => .object "PaperedOver$Rows"
  | 1 => .object "PaperedOver$Tape"
  | 2 => .object "PaperedOver$Reader"
  | 3 => .object "PaperedOver$House"
  | 4 => .object "PaperedOver$Spots"
  | 5 => .object "PaperedOver$Image"
  | 6 => .object "PaperedOver$Image"
  | 7 => .object "PaperedOver$Facts"
  | 8 => .object "PaperedOver$Orders"
  | 9 => .object "PaperedOver$Cutter"
  | 10 => .object "PaperedOver$Bodies"
  | 11 => .int
  | _ => .int
theorem nc_0 : ∀ a, a < 13 → ∀ b, b < 13 → a ≠ b → (tc_0 a).2.1 ≠ (tc_0 b).2.1 := by decide +kernel
theorem yo_0 : ∀ k, k < 13 → parseFieldDescriptor (tc_0 k).2.2.1 = some (yc_0 k) := by decide +kernel
def rc_1 : String := "PaperedOver$Rows"
def tc_1 : u_T := fun k => match k with
  | 0 => ("PaperedOver$Rows", "there", "[Z", true)
  | 1 => ("PaperedOver$Rows", "lanes", "[I", true)
  | 2 => ("PaperedOver$Rows", "sizes", "[I", true)
  | _ => ("PaperedOver$Rows", "items", "[I", true)
def yc_1 : Nat → FieldType := fun k => match k with
  | 0 => .array .boolean
  | 1 => .array .int
  | 2 => .array .int
  | _ => .array .int
theorem nc_1 : ∀ a, a < 4 → ∀ b, b < 4 → a ≠ b → (tc_1 a).2.1 ≠ (tc_1 b).2.1 := by decide +kernel
theorem yo_1 : ∀ k, k < 4 → parseFieldDescriptor (tc_1 k).2.2.1 = some (yc_1 k) := by decide +kernel
def rc_2 : String := "PaperedOver$Tape"
def tc_2 : u_T := fun k => match k with
  | 0 => ("PaperedOver$Tape", "bytes", "[I", true)
  | _ => ("PaperedOver$Tape", "length", "I", false)
def yc_2 : Nat → FieldType := fun k => match k with
  | 0 => .array .int
  | _ => .int
theorem nc_2 : ∀ a, a < 2 → ∀ b, b < 2 → a ≠ b → (tc_2 a).2.1 ≠ (tc_2 b).2.1 := by decide +kernel
theorem yo_2 : ∀ k, k < 2 → parseFieldDescriptor (tc_2 k).2.2.1 = some (yc_2 k) := by decide +kernel
def rc_3 : String := "PaperedOver$Reader"
def tc_3 : u_T := fun k => match k with
  | 0 => ("PaperedOver$Reader", "tape", "LPaperedOver$Tape;", true)
  | 1 => ("PaperedOver$Reader", "draft", "LPaperedOver$House;", true)
  | 2 => ("PaperedOver$Reader", "sort", "I", false)
  | 3 => ("PaperedOver$Reader", "begin", "I", false)
  | 4 => ("PaperedOver$Reader", "end", "I", false)
  | 5 => ("PaperedOver$Reader", "value", "I", false)
  | 6 => ("PaperedOver$Reader", "fault", "I", false)
  | _ => ("PaperedOver$Reader", "place", "I", false)
def yc_3 : Nat → FieldType := fun k => match k with
  | 0 => .object "PaperedOver$Tape"
  | 1 => .object "PaperedOver$House"
  | 2 => .int
  | 3 => .int
  | 4 => .int
  | 5 => .int
  | 6 => .int
  | _ => .int
theorem nc_3 : ∀ a, a < 8 → ∀ b, b < 8 → a ≠ b → (tc_3 a).2.1 ≠ (tc_3 b).2.1 := by decide +kernel
theorem yo_3 : ∀ k, k < 8 → parseFieldDescriptor (tc_3 k).2.2.1 = some (yc_3 k) := by decide +kernel
def rc_4 : String := "PaperedOver$House"
def tc_4 : u_T := fun k => match k with
  | 0 => ("PaperedOver$House", "walls", "I", false)
  | 1 => ("PaperedOver$House", "built", "[I", true)
  | 2 => ("PaperedOver$House", "wide", "[I", true)
  | 3 => ("PaperedOver$House", "high", "[I", true)
  | 4 => ("PaperedOver$House", "papers", "I", false)
  | 5 => ("PaperedOver$House", "kinds", "[I", true)
  | 6 => ("PaperedOver$House", "made", "[I", true)
  | 7 => ("PaperedOver$House", "last", "[I", true)
  | 8 => ("PaperedOver$House", "prices", "[I", true)
  | 9 => ("PaperedOver$House", "repeats", "[I", true)
  | 10 => ("PaperedOver$House", "tenants", "I", false)
  | 11 => ("PaperedOver$House", "from", "[I", true)
  | 12 => ("PaperedOver$House", "to", "[I", true)
  | _ => ("PaperedOver$House", "means", "[I", true)
def yc_4 : Nat → FieldType := fun k => match k with
  | 0 => .int
  | 1 => .array .int
  | 2 => .array .int
  | 3 => .array .int
  | 4 => .int
  | 5 => .array .int
  | 6 => .array .int
  | 7 => .array .int
  | 8 => .array .int
  | 9 => .array .int
  | 10 => .int
  | 11 => .array .int
  | 12 => .array .int
  | _ => .array .int
theorem nc_4 : ∀ a, a < 14 → ∀ b, b < 14 → a ≠ b → (tc_4 a).2.1 ≠ (tc_4 b).2.1 := by decide +kernel
theorem yo_4 : ∀ k, k < 14 → parseFieldDescriptor (tc_4 k).2.2.1 = some (yc_4 k) := by decide +kernel
def rc_5 : String := "PaperedOver$Spots"
def tc_5 : u_T := fun k => match k with
  | 0 => ("PaperedOver$Spots", "number", "I", false)
  | 1 => ("PaperedOver$Spots", "walls", "[I", true)
  | 2 => ("PaperedOver$Spots", "depths", "[I", true)
  | _ => ("PaperedOver$Spots", "layers", "[I", true)
def yc_5 : Nat → FieldType := fun k => match k with
  | 0 => .int
  | 1 => .array .int
  | 2 => .array .int
  | _ => .array .int
theorem nc_5 : ∀ a, a < 4 → ∀ b, b < 4 → a ≠ b → (tc_5 a).2.1 ≠ (tc_5 b).2.1 := by decide +kernel
theorem yo_5 : ∀ k, k < 4 → parseFieldDescriptor (tc_5 k).2.2.1 = some (yc_5 k) := by decide +kernel
def rc_6 : String := "PaperedOver$Image"
def tc_6 : u_T := fun k => match k with
  | 0 => ("PaperedOver$Image", "house", "LPaperedOver$House;", true)
  | _ => ("PaperedOver$Image", "spots", "LPaperedOver$Spots;", true)
def yc_6 : Nat → FieldType := fun k => match k with
  | 0 => .object "PaperedOver$House"
  | _ => .object "PaperedOver$Spots"
theorem nc_6 : ∀ a, a < 2 → ∀ b, b < 2 → a ≠ b → (tc_6 a).2.1 ≠ (tc_6 b).2.1 := by decide +kernel
theorem yo_6 : ∀ k, k < 2 → parseFieldDescriptor (tc_6 k).2.2.1 = some (yc_6 k) := by decide +kernel
def rc_7 : String := "PaperedOver$Facts"
def tc_7 : u_T := fun k => match k with
  | 0 => ("PaperedOver$Facts", "house", "LPaperedOver$House;", true)
  | 1 => ("PaperedOver$Facts", "spots", "LPaperedOver$Spots;", true)
  | 2 => ("PaperedOver$Facts", "seen", "I", false)
  | 3 => ("PaperedOver$Facts", "ring", "I", false)
  | 4 => ("PaperedOver$Facts", "on", "[I", true)
  | 5 => ("PaperedOver$Facts", "ahead", "[I", true)
  | 6 => ("PaperedOver$Facts", "sure", "[I", true)
  | 7 => ("PaperedOver$Facts", "earliest", "[I", true)
  | 8 => ("PaperedOver$Facts", "placed", "I", false)
  | 9 => ("PaperedOver$Facts", "least", "[I", true)
  | _ => ("PaperedOver$Facts", "most", "[I", true)
def yc_7 : Nat → FieldType := fun k => match k with
  | 0 => .object "PaperedOver$House"
  | 1 => .object "PaperedOver$Spots"
  | 2 => .int
  | 3 => .int
  | 4 => .array .int
  | 5 => .array .int
  | 6 => .array .int
  | 7 => .array .int
  | 8 => .int
  | 9 => .array .int
  | _ => .array .int
theorem nc_7 : ∀ a, a < 11 → ∀ b, b < 11 → a ≠ b → (tc_7 a).2.1 ≠ (tc_7 b).2.1 := by decide +kernel
theorem yo_7 : ∀ k, k < 11 → parseFieldDescriptor (tc_7 k).2.2.1 = some (yc_7 k) := by decide +kernel
def rc_8 : String := "PaperedOver$Orders"
def tc_8 : u_T := fun k => match k with
  | 0 => ("PaperedOver$Orders", "facts", "LPaperedOver$Facts;", true)
  | 1 => ("PaperedOver$Orders", "counted", "Z", false)
  | 2 => ("PaperedOver$Orders", "begun", "[I", true)
  | 3 => ("PaperedOver$Orders", "ended", "[I", true)
  | _ => ("PaperedOver$Orders", "pairs", "[I", true)
def yc_8 : Nat → FieldType := fun k => match k with
  | 0 => .object "PaperedOver$Facts"
  | 1 => .boolean
  | 2 => .array .int
  | 3 => .array .int
  | _ => .array .int
theorem nc_8 : ∀ a, a < 5 → ∀ b, b < 5 → a ≠ b → (tc_8 a).2.1 ≠ (tc_8 b).2.1 := by decide +kernel
theorem yo_8 : ∀ k, k < 5 → parseFieldDescriptor (tc_8 k).2.2.1 = some (yc_8 k) := by decide +kernel
def rc_9 : String := "PaperedOver$Cutter"
def tc_9 : u_T := fun k => match k with
  | 0 => ("PaperedOver$Cutter", "strips", "I", false)
  | 1 => ("PaperedOver$Cutter", "used", "I", false)
  | _ => ("PaperedOver$Cutter", "left", "I", false)
def yc_9 : Nat → FieldType := fun k => match k with
  | 0 => .int
  | 1 => .int
  | _ => .int
theorem nc_9 : ∀ a, a < 3 → ∀ b, b < 3 → a ≠ b → (tc_9 a).2.1 ≠ (tc_9 b).2.1 := by decide +kernel
theorem yo_9 : ∀ k, k < 3 → parseFieldDescriptor (tc_9 k).2.2.1 = some (yc_9 k) := by decide +kernel
def rc_10 : String := "PaperedOver$Bodies"
def tc_10 : u_T := fun k => match k with
  | 0 => ("PaperedOver$Bodies", "trace", "[I", true)
  | _ => ("PaperedOver$Bodies", "begun", "I", false)
def yc_10 : Nat → FieldType := fun k => match k with
  | 0 => .array .int
  | _ => .int
theorem nc_10 : ∀ a, a < 2 → ∀ b, b < 2 → a ≠ b → (tc_10 a).2.1 ≠ (tc_10 b).2.1 := by decide +kernel
theorem yo_10 : ∀ k, k < 2 → parseFieldDescriptor (tc_10 k).2.2.1 = some (yc_10 k) := by decide +kernel
def rc_11 : String := "PaperedOverModel"
def tc_11 : u_T := fun k => match k with
  | 0 => ("PaperedOverModel", "thrown", "I", false)
  | 1 => ("PaperedOverModel", "status", "I", false)
  | 2 => ("PaperedOverModel", "lane", "[I", true)
  | 3 => ("PaperedOverModel", "many", "[I", true)
  | 4 => ("PaperedOverModel", "item", "[I", true)
  | 5 => ("PaperedOverModel", "house", "[I", true)
  | 6 => ("PaperedOverModel", "fresh", "[I", true)
  | 7 => ("PaperedOverModel", "isThere", "Z", false)
  | 8 => ("PaperedOverModel", "tape", "[I", true)
  | 9 => ("PaperedOverModel", "taped", "I", false)
  | 10 => ("PaperedOverModel", "latest", "I", false)
  | 11 => ("PaperedOverModel", "length", "I", false)
  | 12 => ("PaperedOverModel", "cursor", "I", false)
  | 13 => ("PaperedOverModel", "token", "I", false)
  | 14 => ("PaperedOverModel", "start", "I", false)
  | 15 => ("PaperedOverModel", "till", "I", false)
  | 16 => ("PaperedOverModel", "fault", "I", false)
  | 17 => ("PaperedOverModel", "faultAt", "I", false)
  | 18 => ("PaperedOverModel", "seen", "I", false)
  | 19 => ("PaperedOverModel", "on", "[I", true)
  | 20 => ("PaperedOverModel", "ahead", "[I", true)
  | 21 => ("PaperedOverModel", "sure", "[I", true)
  | 22 => ("PaperedOverModel", "ways", "[I", true)
  | 23 => ("PaperedOverModel", "least", "[I", true)
  | 24 => ("PaperedOverModel", "most", "[I", true)
  | 25 => ("PaperedOverModel", "isKept", "[Z", true)
  | 26 => ("PaperedOverModel", "kept", "[I", true)
  | 27 => ("PaperedOverModel", "trace", "[I", true)
  | _ => ("PaperedOverModel", "traced", "I", false)
def yc_11 : Nat → FieldType := fun k => match k with
  | 0 => .int
  | 1 => .int
  | 2 => .array .int
  | 3 => .array .int
  | 4 => .array .int
  | 5 => .array .int
  | 6 => .array .int
  | 7 => .boolean
  | 8 => .array .int
  | 9 => .int
  | 10 => .int
  | 11 => .int
  | 12 => .int
  | 13 => .int
  | 14 => .int
  | 15 => .int
  | 16 => .int
  | 17 => .int
  | 18 => .int
  | 19 => .array .int
  | 20 => .array .int
  | 21 => .array .int
  | 22 => .array .int
  | 23 => .array .int
  | 24 => .array .int
  | 25 => .array .boolean
  | 26 => .array .int
  | 27 => .array .int
  | _ => .int
theorem nc_11 : ∀ a, a < 29 → ∀ b, b < 29 → a ≠ b → (tc_11 a).2.1 ≠ (tc_11 b).2.1 := by decide +kernel
theorem yo_11 : ∀ k, k < 29 → parseFieldDescriptor (tc_11 k).2.2.1 = some (yc_11 k) := by decide +kernel
def am_cls : List vw_C := [(rc_0, tc_0, 13), (rc_1, tc_1, 4), (rc_2, tc_2, 2), (rc_3, tc_3, 8), (rc_4, tc_4, 14), (rc_5, tc_5, 4), (rc_6, tc_6, 2), (rc_7, tc_7, 11), (rc_8, tc_8, 5), (rc_9, tc_9, 3), (rc_10, tc_10, 2), (rc_11, tc_11, 29)]
/-- of each kind the fields of its object: a number, or the cell that it always holds -/
def am_ob : Nat → List (Option (Nat → Nat × Nat × Nat))
  | 0 => [some (fun j => (1, 0, 0)), some (fun j => (2, 0, 0)), some (fun j => (3, 0, 0)), some (fun j => (4, 0, 0)), some (fun j => (5, 0, 0)), some (fun j => (6, 0, 0)), some (fun j => (6, 1, 0)), some (fun j => (7, 0, 0)), some (fun j => (8, 0, 0)), some (fun j => (9, 0, 0)), some (fun j => (10, 0, 0)), none, none]
  | 1 => [some (fun j => (1, j, 1)), some (fun j => (1, j, 2)), some (fun j => (1, j, 3)), some (fun j => (1, j, 4))]
  | 2 => [some (fun j => (2, j, 1)), none]
  | 3 => [some (fun j => (2, 0, 0)), some (fun j => (4, 1, 0)), none, none, none, none, none, none]
  | 4 => [none, some (fun j => (4, j, 1)), some (fun j => (4, j, 2)), some (fun j => (4, j, 3)), none, some (fun j => (4, j, 4)), some (fun j => (4, j, 5)), some (fun j => (4, j, 6)), some (fun j => (4, j, 7)), some (fun j => (4, j, 8)), none, some (fun j => (4, j, 9)), some (fun j => (4, j, 10)), some (fun j => (4, j, 11))]
  | 5 => [none, some (fun j => (5, j, 1)), some (fun j => (5, j, 2)), some (fun j => (5, j, 3))]
  | 6 => [some (fun j => (4, 2 + j, 0)), some (fun j => (5, 1 + j, 0))]
  | 7 => [some (fun j => (4, 0, 0)), some (fun j => (5, 0, 0)), none, none, some (fun j => (7, j, 1)), some (fun j => (7, j, 2)), some (fun j => (7, j, 3)), some (fun j => (7, j, 4)), none, some (fun j => (7, j, 5)), some (fun j => (7, j, 6))]
  | 8 => [some (fun j => (7, 0, 0)), none, some (fun j => (8, j, 1)), some (fun j => (8, j, 2)), some (fun j => (8, j, 3))]
  | 9 => [none, none, none]
  | 10 => [some (fun j => (10, j, 1)), none]
  | 11 => [none, none, some (fun j => (11, j, 1)), some (fun j => (11, j, 2)), some (fun j => (11, j, 3)), some (fun j => (11, j, 4)), some (fun j => (11, j, 5)), none, some (fun j => (11, j, 6)), none, none, none, none, none, none, none, none, none, none, some (fun j => (11, j, 7)), some (fun j => (11, j, 8)), some (fun j => (11, j, 9)), some (fun j => (11, j, 10)), some (fun j => (11, j, 11)), some (fun j => (11, j, 12)), some (fun j => (11, j, 13)), some (fun j => (11, j, 14)), some (fun j => (11, j, 15)), none]
  | _ => []
/-- of each kind its arrays: whether of booleans, and how long -/
def am_ar : Nat → List (Bool × Nat)
  | 1 => [(true, 8), (false, 8), (false, 8), (false, 320)]
  | 2 => [(false, 500)]
  | 4 => [(false, 8), (false, 8), (false, 8), (false, 10), (false, 10), (false, 10), (false, 10), (false, 10), (false, 10), (false, 10), (false, 10)]
  | 5 => [(false, 9), (false, 9), (false, 72)]
  | 7 => [(false, 8), (false, 10), (false, 10), (false, 10), (false, 10), (false, 10)]
  | 8 => [(false, 1024), (false, 1024), (false, 100)]
  | 10 => [(false, 16)]
  | 11 => [(false, 8), (false, 8), (false, 320), (false, 198), (false, 198), (false, 500), (false, 8), (false, 10), (false, 10), (false, 1024), (false, 10), (false, 10), (true, 2), (false, 396), (false, 16)]
  | _ => []
/-- all cells -/
def am_all : List (Nat × Nat × Nat) := [(0, 0, 0), (1, 0, 0), (1, 0, 1), (1, 0, 2), (1, 0, 3), (1, 0, 4), (2, 0, 0), (2, 0, 1), (3, 0, 0), (4, 0, 0), (4, 0, 1), (4, 0, 2), (4, 0, 3), (4, 0, 4), (4, 0, 5), (4, 0, 6), (4, 0, 7), (4, 0, 8), (4, 0, 9), (4, 0, 10), (4, 0, 11), (4, 1, 0), (4, 1, 1), (4, 1, 2), (4, 1, 3), (4, 1, 4), (4, 1, 5), (4, 1, 6), (4, 1, 7), (4, 1, 8), (4, 1, 9), (4, 1, 10), (4, 1, 11), (4, 2, 0), (4, 2, 1), (4, 2, 2), (4, 2, 3), (4, 2, 4), (4, 2, 5), (4, 2, 6), (4, 2, 7), (4, 2, 8), (4, 2, 9), (4, 2, 10), (4, 2, 11), (4, 3, 0), (4, 3, 1), (4, 3, 2), (4, 3, 3), (4, 3, 4), (4, 3, 5), (4, 3, 6), (4, 3, 7), (4, 3, 8), (4, 3, 9), (4, 3, 10), (4, 3, 11), (5, 0, 0), (5, 0, 1), (5, 0, 2), (5, 0, 3), (5, 1, 0), (5, 1, 1), (5, 1, 2), (5, 1, 3), (5, 2, 0), (5, 2, 1), (5, 2, 2), (5, 2, 3), (6, 0, 0), (6, 1, 0), (7, 0, 0), (7, 0, 1), (7, 0, 2), (7, 0, 3), (7, 0, 4), (7, 0, 5), (7, 0, 6), (8, 0, 0), (8, 0, 1), (8, 0, 2), (8, 0, 3), (9, 0, 0), (10, 0, 0), (10, 0, 1), (11, 0, 0), (11, 0, 1), (11, 0, 2), (11, 0, 3), (11, 0, 4), (11, 0, 5), (11, 0, 6), (11, 0, 7), (11, 0, 8), (11, 0, 9), (11, 0, 10), (11, 0, 11), (11, 0, 12), (11, 0, 13), (11, 0, 14), (11, 0, 15)]
/-- a field that holds a boolean -/
def am_fb (k s : Nat) : Bool := (k == 8 && s == 1) || (k == 11 && s == 7)
end
section
/-! THE ABSTRACT MACHINE: values are numbers and cells named by (kind, which, place); the memory holds numbers alone -/
abbrev am_V : Type := (Nat × Nat × Nat) ⊕ (Int32 ⊕ Int64)
abbrev aR (k j o : Nat) : am_V := Sum.inl (k, j, o)
abbrev aI (x : Int32) : am_V := Sum.inr (Sum.inl x)
abbrev aL (x : Int64) : am_V := Sum.inr (Sum.inr x)
abbrev am_M : Type := Nat → Nat → Nat → Nat → Int32
abbrev am_L : Type := List (Option am_V)
/-- an entry of a pool: a field (kind, slot), a call (method, arguments, receiver's kind), an int, a long, a reference, a field of a text, arraycopy -/
abbrev am_N : Type := (Nat × Nat) ⊕ ((Nat × Nat × Nat) ⊕ (Int32 ⊕ (Int64 ⊕ (am_V ⊕ (Nat ⊕ Unit)))))
abbrev eF (c s : Nat) : am_N := Sum.inl (c, s)
abbrev eC (n a k : Nat) : am_N := Sum.inr (Sum.inl (n, a, k))
abbrev eI (x : Int32) : am_N := Sum.inr (Sum.inr (Sum.inl x))
abbrev eL (x : Int64) : am_N := Sum.inr (Sum.inr (Sum.inr (Sum.inl x)))
abbrev eR (v : am_V) : am_N := Sum.inr (Sum.inr (Sum.inr (Sum.inr (Sum.inl v))))
abbrev eT (n : Nat) : am_N := Sum.inr (Sum.inr (Sum.inr (Sum.inr (Sum.inr (Sum.inl n)))))
abbrev eX : am_N := Sum.inr (Sum.inr (Sum.inr (Sum.inr (Sum.inr (Sum.inr ())))))
/-- a row of code: its place, the instruction, numbers (locals, targets), its entry -/
abbrev am_E : Type := Nat × Instr × List Nat × Option am_N
def sA (M : am_M) (k j o : Nat) (f : Nat → Int32) : am_M := fun a b c => if a = k ∧ b = j ∧ c = o then f else M a b c
/-- static tables and texts -/
def am_sc : Nat → List Int32
  | 0 => [-1, 0, 0, 2, 1, 0]
  | 1 => [10, 11, 13, 14, 12, 10]
  | _ => [20, 21, 22, 22, 24, 23]
def am_sa : Nat → String × String
  | 0 => ("PaperedOver$House", "ALSO")
  | 1 => ("PaperedOver$Bodies", "SIZES")
  | _ => ("PaperedOver$Bodies", "MARKS")
def am_sl : List Nat := [4, 5, 6, 5, 5, 4, 4, 5]
def am_sb : List (List Int32) := [[119, 97, 108, 108], [112, 97, 112, 101, 114], [116, 101, 110, 97, 110, 116], [112, 108, 97, 105, 110], [115, 116, 97, 109, 112], [110, 101, 119, 115], [114, 101, 115, 116], [112, 97, 105, 110, 116]]
def am_si : Nat → Nat
  | 0 => 57 | 1 => 63 | 2 => 65 | 3 => 106 | 4 => 108 | 5 => 110 | 6 => 112 | _ => 114
def am_sx : Nat → String
  | 0 => "wall" | 1 => "paper" | 2 => "tenant" | 3 => "plain" | 4 => "stamp" | 5 => "news" | 6 => "rest" | _ => "paint"
def am_ro : List (Nat × Nat × Nat) := [(12, 0, 0), (12, 0, 1), (12, 0, 2), (13, 0, 0), (13, 0, 1), (13, 0, 2), (13, 0, 3), (13, 0, 4), (13, 0, 5), (13, 0, 6), (13, 0, 7), (14, 0, 0), (14, 0, 1), (14, 0, 2), (14, 0, 3), (14, 0, 4), (14, 0, 5), (14, 0, 6), (14, 0, 7), (15, 0, 0), (16, 0, 0)]
def am_vl : am_V → Prop := fun v => match v with
  | Sum.inl q => q ∈ am_all ∨ q ∈ am_ro
  | Sum.inr _ => True
/-! the machine's values -/
def cv (ad : Nat × Nat × Nat → Nat) (fv : Value) : am_V → Value := fun v => match v with
  | Sum.inl q => if q.1 = 15 then fv else .ref (ad q)
  | Sum.inr (Sum.inl x) => .int x
  | Sum.inr (Sum.inr x) => .long x
def am_fl (ad : Nat × Nat × Nat → Nat) (M : am_M) (k j : Nat) : Nat → List (Option (Nat → Nat × Nat × Nat)) → List Value
  | _, [] => []
  | i, none :: t => .int (M k j 0 i) :: am_fl ad M k j (i + 1) t
  | i, some g :: t => .ref (ad (g j)) :: am_fl ad M k j (i + 1) t
def am_cell (ad : Nat × Nat × Nat → Nat) (cI cZ : ClassId) (M : am_M) (q : Nat × Nat × Nat) : va_E := match q.2.2 with
  | 0 => .inr (q.1, am_fl ad M q.1 q.2.1 0 (am_ob q.1))
  | o + 1 => match (am_ar q.1)[o]? with
    | some bn => .inl (if bn.1 then cZ else cI, bn.2, .inl (M q.1 q.2.1 (o + 1)))
    | none => .inl (cI, 0, .inl (fun _ => 0))
def am_wl (ad : Nat × Nat × Nat → Nat) (cI cZ : ClassId) (M : am_M) : va_W := am_all.map (fun q => (ad q, am_cell ad cI cZ M q))
def am_Af (ad : Nat × Nat × Nat → Nat) : Nat → Prop := fun a => ∃ q, q ∈ am_all ∧ ad q = a
def gtb : List Cond := lw_tbl.filter goodWord
theorem gm {w : Cond} (i : Nat) (h : lw_tbl[i]? = some w) (g : goodWord w = true) : w ∈ gtb := List.mem_filter.mpr ⟨List.mem_of_getElem? h, g⟩
theorem gtb_good : GoodIn gtb gtb := fun w h => ⟨h, good_of_word (List.mem_filter.mp h).2⟩
def am_nw : List Cond := [.methodLinkNest "PaperedOver$Facts" 99 ⟨"PaperedOver", "has", "(II)Z"⟩ "PaperedOver", .methodLinkNest "PaperedOver$Orders" 51 ⟨"PaperedOver", "has", "(II)Z"⟩ "PaperedOver", .methodLinkNest "PaperedOver$House" 81 ⟨"PaperedOver", "has", "(II)Z"⟩ "PaperedOver", .methodLinkNest "PaperedOver$Cutter" 38 ⟨"PaperedOver", "has", "(II)Z"⟩ "PaperedOver", .methodLinkNest "PaperedOver$Cutter" 29 ⟨"PaperedOver", "partsUp", "(II)I"⟩ "PaperedOver"]
def am_Ev (ad : Nat × Nat × Nat → Nat) (fv : Value) (A : Nat → Prop) (U : State) (H : Heap) : Prop :=
  (∀ w ∈ am_nw, va_Nw w U) ∧
  (∀ i, i < 3 → va_Z (am_sa i).1 (am_sa i).2 "[I" (.ref (ad (12, 0, i))) A U H ∧ va_T .int (ad (12, 0, i)) 6 (fun j => .int ((am_sc i).getD j 0)) A U H) ∧
  va_Z "java/lang/String" "COMPACT_STRINGS" "Z" (.int 1) A U H ∧ va_Z "jdk/internal/util/Preconditions" "SIOOBE_FORMATTER" "Ljava/util/function/BiFunction;" fv A U H ∧ (fv = .null ∨ ∃ t : Nat, fv = .ref t) ∧
  vk_S 8 am_sl am_sb (fun i => ad (13, 0, i)) (fun i => ad (14, 0, i)) A U H ∧ ∀ i, i < 8 → vk_R "PaperedOver$Reader" (am_si i) (am_sx i) (ad (13, 0, i)) U
theorem am_nw_warm {s U : State} (hW : s.WarmedH U.vm) (h : ∀ w ∈ am_nw, va_Nw w s) : ∀ w ∈ am_nw, va_Nw w U := by
  intro w hw
  have h1 := h w hw
  simp only [am_nw, List.mem_cons, List.not_mem_nil, or_false] at hw
  rcases hw with rfl | rfl | rfl | rfl | rfl <;> exact va_Nw.warmM hW h1
theorem am_nw_same {s U : State} (hv : s.vm = U.vm) (h : ∀ w ∈ am_nw, va_Nw w s) : ∀ w ∈ am_nw, va_Nw w U := by
  intro w hw
  have h1 := h w hw
  simp only [am_nw, List.mem_cons, List.not_mem_nil, or_false] at hw
  rcases hw with rfl | rfl | rfl | rfl | rfl <;> exact va_Nw.same rfl hv h1
theorem am_Ev.go {ad : Nat × Nat × Nat → Nat} {fv : Value} {A B : Nat → Prop} {s U : State} {H : Heap} {locs : List Loc} (h : am_Ev ad fv A s s.heap) (hS : va_S A s.heap H locs) (hU : U.heap = H) (hW : s.WarmedH U.vm) (hAB : ∀ q, B q → A q) : am_Ev ad fv B U U.heap := by
  obtain ⟨h1, h2, h3, h4, h5, h6, h7⟩ := h
  rw [hU]
  exact ⟨am_nw_warm hW h1, fun i hi => ⟨(((h2 i hi).1.kept hS.2.1).moved hW.alike).narrow hAB, (((h2 i hi).2.kept hS.2.1).moved hW.alike).narrow hAB⟩, ((h3.kept hS.2.1).moved hW.alike).narrow hAB, ((h4.kept hS.2.1).moved hW.alike).narrow hAB, h5, ((h6.kept hS.2.1).moved hW.alike).narrow hAB, fun i hi => (h7 i hi).warm hW⟩
theorem am_Ev.call {ad : Nat × Nat × Nat → Nat} {fv : Value} {A : Nat → Prop} {U : State} {g : JFrame} {mk : MethodId} {a : Array Value} (h : am_Ev ad fv A U U.heap) : am_Ev ad fv A (U.calling g mk a) (U.calling g mk a).heap := by
  obtain ⟨h1, h2, h3, h4, h5, h6, h7⟩ := h
  exact ⟨am_nw_same (s := U) (U := U.calling g mk a) rfl h1, fun i hi => ⟨(h2 i hi).1.moved (Vm.Alike.refl U.vm), (h2 i hi).2.moved (Vm.Alike.refl U.vm)⟩, h3.moved (Vm.Alike.refl U.vm), h4.moved (Vm.Alike.refl U.vm), h5, h6.moved (Vm.Alike.refl U.vm), fun i hi => (h7 i hi).same rfl⟩
/-! contracts -/
abbrev am_T : Type := MethodName × ByteArray × Nat × Option FieldType
def am_rm (d : Nat) : Room := { frames := d, cells := 0, slots := 0, locals := 64 * d }
def am_ws (t : am_T) : List Cond := .code t.1 t.2.1 t.2.2.1 t.2.2.2 :: gtb
def am_B (D : va_G) (ad : Nat × Nat × Nat → Nat) (fv : Value) (cI cZ : ClassId) (M : am_M) (U : State) : Prop :=
  va_P D am_cls (am_wl ad cI cZ M) U.heap ∧ va_D (am_Af ad) (am_wl ad cI cZ M) ∧ va_K D am_cls [(cI, .int), (cZ, .boolean)] U ∧ am_Ev ad fv (am_Af ad) U U.heap
def am_Q (D : va_G) (ad : Nat × Nat × Nat → Nat) (fv : Value) (cI cZ : ClassId) (r : Option am_V) (M' : am_M) : Array Value → State → Outcome → State → Prop :=
  fun _ st oc t => oc = .returned (r.map (cv ad fv)) ∧ va_P D am_cls (am_wl ad cI cZ M') t.heap ∧ va_F (am_Af ad) st t
def am_Con (d : Nat) (t : am_T) (as : List am_V) (M : am_M) (r : Option am_V) (M' : am_M) : Prop :=
  ∀ (l : Launch) (D : va_G) (ad : Nat × Nat × Nat → Nat) (fv : Value) (cI cZ : ClassId), (∀ v ∈ as, am_vl v) → Met l t.1 (am_ws t) (am_rm d) (va_Pc (as.map (cv ad fv)) (am_B D ad fv cI cZ M)) (am_Q D ad fv cI cZ r M') 0 0 (am_Af ad)
/-! events -/
def Br (c A B : Prop) : Prop := (c → A) ∧ (¬ c → B)
def Ob (P A : Prop) : Prop := P ∧ A
theorem br_ {c A B : Prop} (a : c → A) (b : ¬ c → B) : Br c A B := ⟨a, b⟩
theorem brt {c A B : Prop} (h : c) (a : A) : Br c A B := ⟨fun _ => a, fun n => absurd h n⟩
theorem brf {c A B : Prop} (h : ¬ c) (b : B) : Br c A B := ⟨fun n => absurd n h, fun _ => b⟩
theorem ob_ {P A : Prop} (p : P) (a : A) : Ob P A := ⟨p, a⟩
end
section
abbrev mBodies_askSize : Nat := 0
def tBodies_askSize : am_T := (⟨"PaperedOver$Bodies", "askSize", "(LPaperedOver$House;I)I"⟩, prog_2_method_2_code, 3, (some FieldType.int))
abbrev mBodies_askMark : Nat := 1
def tBodies_askMark : am_T := (⟨"PaperedOver$Bodies", "askMark", "(LPaperedOver$House;I)I"⟩, prog_2_method_3_code, 3, (some FieldType.int))
abbrev mBodies_told : Nat := 2
def tBodies_told : am_T := (⟨"PaperedOver$Bodies", "told", "([ILPaperedOver$House;I)I"⟩, prog_2_method_4_code, 4, (some FieldType.int))
abbrev mBodies_answer : Nat := 3
def tBodies_answer : am_T := (⟨"PaperedOver$Bodies", "answer", "(LPaperedOver$House;III)I"⟩, prog_2_method_5_code, 6, (some FieldType.int))
abbrev mBodies_begin : Nat := 4
def tBodies_begin : am_T := (⟨"PaperedOver$Bodies", "begin", "(I)V"⟩, prog_2_method_6_code, 2, (none : Option FieldType))
abbrev mCutter_cut : Nat := 5
def tCutter_cut : am_T := (⟨"PaperedOver$Cutter", "cut", "(LPaperedOver$House;II)V"⟩, prog_3_method_2_code, 5, (none : Option FieldType))
abbrev mCutter_widthOf : Nat := 6
def tCutter_widthOf : am_T := (⟨"PaperedOver$Cutter", "widthOf", "(LPaperedOver$House;I)I"⟩, prog_3_method_3_code, 5, (some FieldType.int))
abbrev mCutter_cutWall : Nat := 7
def tCutter_cutWall : am_T := (⟨"PaperedOver$Cutter", "cutWall", "(LPaperedOver$House;II)V"⟩, prog_3_method_4_code, 8, (none : Option FieldType))
abbrev mFacts_hasRing : Nat := 8
def tFacts_hasRing : am_T := (⟨"PaperedOver$Facts", "hasRing", "()Z"⟩, prog_4_method_2_code, 1, (some FieldType.boolean))
abbrev mFacts_learn : Nat := 9
def tFacts_learn : am_T := (⟨"PaperedOver$Facts", "learn", "()V"⟩, prog_4_method_3_code, 2, (none : Option FieldType))
abbrev mFacts_gather : Nat := 10
def tFacts_gather : am_T := (⟨"PaperedOver$Facts", "gather", "()V"⟩, prog_4_method_4_code, 4, (none : Option FieldType))
abbrev mFacts_at : Nat := 11
def tFacts_at : am_T := (⟨"PaperedOver$Facts", "at", "(I)I"⟩, prog_4_method_5_code, 4, (some FieldType.int))
abbrev mFacts_close : Nat := 12
def tFacts_close : am_T := (⟨"PaperedOver$Facts", "close", "()V"⟩, prog_4_method_6_code, 3, (none : Option FieldType))
abbrev mFacts_canFollow : Nat := 13
def tFacts_canFollow : am_T := (⟨"PaperedOver$Facts", "canFollow", "(II)Z"⟩, prog_4_method_7_code, 3, (some FieldType.boolean))
abbrev mFacts_arrange : Nat := 14
def tFacts_arrange : am_T := (⟨"PaperedOver$Facts", "arrange", "()V"⟩, prog_4_method_8_code, 4, (none : Option FieldType))
abbrev mFacts_leastThatFollows : Nat := 15
def tFacts_leastThatFollows : am_T := (⟨"PaperedOver$Facts", "leastThatFollows", "(I)I"⟩, prog_4_method_9_code, 3, (some FieldType.int))
abbrev mFacts_dateLeast : Nat := 16
def tFacts_dateLeast : am_T := (⟨"PaperedOver$Facts", "dateLeast", "(I)V"⟩, prog_4_method_10_code, 4, (none : Option FieldType))
abbrev mFacts_dateMost : Nat := 17
def tFacts_dateMost : am_T := (⟨"PaperedOver$Facts", "dateMost", "(I)V"⟩, prog_4_method_11_code, 4, (none : Option FieldType))
abbrev mFacts_isYounger : Nat := 18
def tFacts_isYounger : am_T := (⟨"PaperedOver$Facts", "isYounger", "(II)Z"⟩, prog_4_method_12_code, 5, (some FieldType.boolean))
abbrev mFacts_scrapedOff : Nat := 19
def tFacts_scrapedOff : am_T := (⟨"PaperedOver$Facts", "scrapedOff", "(I)I"⟩, prog_4_method_13_code, 6, (some FieldType.int))
abbrev mFacts_neverThere : Nat := 20
def tFacts_neverThere : am_T := (⟨"PaperedOver$Facts", "neverThere", "(I)I"⟩, prog_4_method_14_code, 4, (some FieldType.int))
abbrev mFacts_whoCan : Nat := 21
def tFacts_whoCan : am_T := (⟨"PaperedOver$Facts", "whoCan", "(I)I"⟩, prog_4_method_15_code, 6, (some FieldType.int))
abbrev mFacts_missingAt : Nat := 22
def tFacts_missingAt : am_T := (⟨"PaperedOver$Facts", "missingAt", "(I)I"⟩, prog_4_method_16_code, 2, (some FieldType.int))
abbrev mFacts_leastOf : Nat := 23
def tFacts_leastOf : am_T := (⟨"PaperedOver$Facts", "leastOf", "(I)I"⟩, prog_4_method_17_code, 4, (some FieldType.int))
abbrev mFacts_mostOf : Nat := 24
def tFacts_mostOf : am_T := (⟨"PaperedOver$Facts", "mostOf", "(I)I"⟩, prog_4_method_18_code, 4, (some FieldType.int))
abbrev mHouse_stands : Nat := 25
def tHouse_stands : am_T := (⟨"PaperedOver$House", "stands", "()Z"⟩, prog_5_method_2_code, 1, (some FieldType.boolean))
abbrev mHouse_isWall : Nat := 26
def tHouse_isWall : am_T := (⟨"PaperedOver$House", "isWall", "(I)Z"⟩, prog_5_method_3_code, 2, (some FieldType.boolean))
abbrev mHouse_isPaper : Nat := 27
def tHouse_isPaper : am_T := (⟨"PaperedOver$House", "isPaper", "(I)Z"⟩, prog_5_method_4_code, 2, (some FieldType.boolean))
abbrev mHouse_isKind : Nat := 28
def tHouse_isKind : am_T := (⟨"PaperedOver$House", "isKind", "(I)Z"⟩, prog_5_method_5_code, 1, (some FieldType.boolean))
abbrev mHouse_isOf : Nat := 29
def tHouse_isOf : am_T := (⟨"PaperedOver$House", "isOf", "(II)Z"⟩, prog_5_method_6_code, 5, (some FieldType.boolean))
abbrev mHouse_clear : Nat := 30
def tHouse_clear : am_T := (⟨"PaperedOver$House", "clear", "()V"⟩, prog_5_method_7_code, 1, (none : Option FieldType))
abbrev mHouse_addWall : Nat := 31
def tHouse_addWall : am_T := (⟨"PaperedOver$House", "addWall", "(III)V"⟩, prog_5_method_8_code, 4, (none : Option FieldType))
abbrev mHouse_addPaper : Nat := 32
def tHouse_addPaper : am_T := (⟨"PaperedOver$House", "addPaper", "(IIIII)V"⟩, prog_5_method_9_code, 6, (none : Option FieldType))
abbrev mHouse_addTenant : Nat := 33
def tHouse_addTenant : am_T := (⟨"PaperedOver$House", "addTenant", "(III)V"⟩, prog_5_method_10_code, 4, (none : Option FieldType))
abbrev mHouse_take : Nat := 34
def tHouse_take : am_T := (⟨"PaperedOver$House", "take", "(LPaperedOver$House;)V"⟩, prog_5_method_11_code, 3, (none : Option FieldType))
abbrev mHouse_printedEvery : Nat := 35
def tHouse_printedEvery : am_T := (⟨"PaperedOver$House", "printedEvery", "(I)I"⟩, prog_5_method_12_code, 4, (some FieldType.int))
abbrev mHouse_isToldBy : Nat := 36
def tHouse_isToldBy : am_T := (⟨"PaperedOver$House", "isToldBy", "(II)Z"⟩, prog_5_method_13_code, 6, (some FieldType.boolean))
abbrev mHouse_leftBy : Nat := 37
def tHouse_leftBy : am_T := (⟨"PaperedOver$House", "leftBy", "(II)I"⟩, prog_5_method_14_code, 2, (some FieldType.int))
abbrev mOrders_all : Nat := 38
def tOrders_all : am_T := (⟨"PaperedOver$Orders", "all", "()I"⟩, prog_7_method_2_code, 1, (some FieldType.int))
abbrev mOrders_withAhead : Nat := 39
def tOrders_withAhead : am_T := (⟨"PaperedOver$Orders", "withAhead", "(II)I"⟩, prog_7_method_3_code, 3, (some FieldType.int))
abbrev mOrders_mostEvenPair : Nat := 40
def tOrders_mostEvenPair : am_T := (⟨"PaperedOver$Orders", "mostEvenPair", "()I"⟩, prog_7_method_4_code, 7, (some FieldType.int))
abbrev mOrders_isOpen : Nat := 41
def tOrders_isOpen : am_T := (⟨"PaperedOver$Orders", "isOpen", "(II)Z"⟩, prog_7_method_5_code, 4, (some FieldType.boolean))
abbrev mOrders_countOnce : Nat := 42
def tOrders_countOnce : am_T := (⟨"PaperedOver$Orders", "countOnce", "()V"⟩, prog_7_method_6_code, 2, (none : Option FieldType))
abbrev mOrders_countBegun : Nat := 43
def tOrders_countBegun : am_T := (⟨"PaperedOver$Orders", "countBegun", "(I)V"⟩, prog_7_method_7_code, 3, (none : Option FieldType))
abbrev mOrders_countEnded : Nat := 44
def tOrders_countEnded : am_T := (⟨"PaperedOver$Orders", "countEnded", "(I)V"⟩, prog_7_method_8_code, 4, (none : Option FieldType))
abbrev mOrders_countPairs : Nat := 45
def tOrders_countPairs : am_T := (⟨"PaperedOver$Orders", "countPairs", "(III)V"⟩, prog_7_method_9_code, 5, (none : Option FieldType))
abbrev mReader_read : Nat := 46
def tReader_read : am_T := (⟨"PaperedOver$Reader", "read", "()Z"⟩, prog_8_method_2_code, 4, (some FieldType.boolean))
abbrev mReader_word : Nat := 47
def tReader_word : am_T := (⟨"PaperedOver$Reader", "word", "()I"⟩, prog_8_method_3_code, 1, (some FieldType.int))
abbrev mReader_isFull : Nat := 48
def tReader_isFull : am_T := (⟨"PaperedOver$Reader", "isFull", "(I)Z"⟩, prog_8_method_4_code, 2, (some FieldType.boolean))
abbrev mReader_readOne : Nat := 49
def tReader_readOne : am_T := (⟨"PaperedOver$Reader", "readOne", "(I)V"⟩, prog_8_method_5_code, 2, (none : Option FieldType))
abbrev mReader_readWall : Nat := 50
def tReader_readWall : am_T := (⟨"PaperedOver$Reader", "readWall", "()V"⟩, prog_8_method_6_code, 4, (none : Option FieldType))
abbrev mReader_readPaper : Nat := 51
def tReader_readPaper : am_T := (⟨"PaperedOver$Reader", "readPaper", "()V"⟩, prog_8_method_7_code, 6, (none : Option FieldType))
abbrev mReader_readTenant : Nat := 52
def tReader_readTenant : am_T := (⟨"PaperedOver$Reader", "readTenant", "()V"⟩, prog_8_method_8_code, 4, (none : Option FieldType))
abbrev mReader_sortOfPaper : Nat := 53
def tReader_sortOfPaper : am_T := (⟨"PaperedOver$Reader", "sortOfPaper", "()I"⟩, prog_8_method_9_code, 2, (some FieldType.int))
abbrev mReader_number : Nat := 54
def tReader_number : am_T := (⟨"PaperedOver$Reader", "number", "(II)I"⟩, prog_8_method_10_code, 4, (some FieldType.int))
abbrev mReader_semicolon : Nat := 55
def tReader_semicolon : am_T := (⟨"PaperedOver$Reader", "semicolon", "()V"⟩, prog_8_method_11_code, 1, (none : Option FieldType))
abbrev mReader_fail : Nat := 56
def tReader_fail : am_T := (⟨"PaperedOver$Reader", "fail", "(I)V"⟩, prog_8_method_12_code, 2, (none : Option FieldType))
abbrev mReader_step : Nat := 57
def tReader_step : am_T := (⟨"PaperedOver$Reader", "step", "()V"⟩, prog_8_method_13_code, 2, (none : Option FieldType))
abbrev mReader_isName : Nat := 58
def tReader_isName : am_T := (⟨"PaperedOver$Reader", "isName", "(Ljava/lang/String;)Z"⟩, prog_8_method_14_code, 3, (some FieldType.boolean))
abbrev mReader_isBlank : Nat := 59
def tReader_isBlank : am_T := (⟨"PaperedOver$Reader", "isBlank", "(I)Z"⟩, prog_8_method_15_code, 1, (some FieldType.boolean))
abbrev mReader_isLetter : Nat := 60
def tReader_isLetter : am_T := (⟨"PaperedOver$Reader", "isLetter", "(I)Z"⟩, prog_8_method_16_code, 1, (some FieldType.boolean))
abbrev mReader_isFigure : Nat := 61
def tReader_isFigure : am_T := (⟨"PaperedOver$Reader", "isFigure", "(I)Z"⟩, prog_8_method_17_code, 1, (some FieldType.boolean))
abbrev mRows_isRow : Nat := 62
def tRows_isRow : am_T := (⟨"PaperedOver$Rows", "isRow", "(I)Z"⟩, prog_9_method_2_code, 2, (some FieldType.boolean))
abbrev mRows_isLane : Nat := 63
def tRows_isLane : am_T := (⟨"PaperedOver$Rows", "isLane", "(I)Z"⟩, prog_9_method_3_code, 2, (some FieldType.boolean))
abbrev mRows_isThere : Nat := 64
def tRows_isThere : am_T := (⟨"PaperedOver$Rows", "isThere", "(I)Z"⟩, prog_9_method_4_code, 2, (some FieldType.boolean))
abbrev mRows_alike : Nat := 65
def tRows_alike : am_T := (⟨"PaperedOver$Rows", "alike", "(II)Z"⟩, prog_9_method_5_code, 3, (some FieldType.boolean))
abbrev mRows_holds : Nat := 66
def tRows_holds : am_T := (⟨"PaperedOver$Rows", "holds", "(III)Z"⟩, prog_9_method_6_code, 4, (some FieldType.boolean))
abbrev mRows_make : Nat := 67
def tRows_make : am_T := (⟨"PaperedOver$Rows", "make", "(III)V"⟩, prog_9_method_7_code, 4, (none : Option FieldType))
abbrev mRows_item : Nat := 68
def tRows_item : am_T := (⟨"PaperedOver$Rows", "item", "(II)I"⟩, prog_9_method_8_code, 3, (some FieldType.int))
abbrev mRows_put : Nat := 69
def tRows_put : am_T := (⟨"PaperedOver$Rows", "put", "(III)I"⟩, prog_9_method_9_code, 5, (some FieldType.int))
abbrev mRows_move : Nat := 70
def tRows_move : am_T := (⟨"PaperedOver$Rows", "move", "(IIIII)V"⟩, prog_9_method_10_code, 6, (none : Option FieldType))
abbrev mRows_remove : Nat := 71
def tRows_remove : am_T := (⟨"PaperedOver$Rows", "remove", "(I)I"⟩, prog_9_method_11_code, 3, (some FieldType.int))
abbrev mRows_howMany : Nat := 72
def tRows_howMany : am_T := (⟨"PaperedOver$Rows", "howMany", "()I"⟩, prog_9_method_12_code, 3, (some FieldType.int))
abbrev mSpots_isSpot : Nat := 73
def tSpots_isSpot : am_T := (⟨"PaperedOver$Spots", "isSpot", "(I)Z"⟩, prog_10_method_2_code, 2, (some FieldType.boolean))
abbrev mSpots_hasRoom : Nat := 74
def tSpots_hasRoom : am_T := (⟨"PaperedOver$Spots", "hasRoom", "()Z"⟩, prog_10_method_3_code, 1, (some FieldType.boolean))
abbrev mSpots_layer : Nat := 75
def tSpots_layer : am_T := (⟨"PaperedOver$Spots", "layer", "(II)I"⟩, prog_10_method_4_code, 3, (some FieldType.int))
abbrev mSpots_open : Nat := 76
def tSpots_open : am_T := (⟨"PaperedOver$Spots", "open", "(I)V"⟩, prog_10_method_5_code, 2, (none : Option FieldType))
abbrev mSpots_lay : Nat := 77
def tSpots_lay : am_T := (⟨"PaperedOver$Spots", "lay", "(II)V"⟩, prog_10_method_6_code, 3, (none : Option FieldType))
abbrev mSpots_take : Nat := 78
def tSpots_take : am_T := (⟨"PaperedOver$Spots", "take", "(LPaperedOver$Spots;)V"⟩, prog_10_method_7_code, 2, (none : Option FieldType))
abbrev mTape_hasRoom : Nat := 79
def tTape_hasRoom : am_T := (⟨"PaperedOver$Tape", "hasRoom", "(I)Z"⟩, prog_11_method_2_code, 2, (some FieldType.boolean))
abbrev mTape_append : Nat := 80
def tTape_append : am_T := (⟨"PaperedOver$Tape", "append", "(JI)V"⟩, prog_11_method_3_code, 5, (none : Option FieldType))
abbrev mTape_at : Nat := 81
def tTape_at : am_T := (⟨"PaperedOver$Tape", "at", "(I)I"⟩, prog_11_method_4_code, 2, (some FieldType.int))
abbrev mMain_row : Nat := 82
def tMain_row : am_T := (⟨"PaperedOver", "row", "(III)I"⟩, prog_1_method_2_code, 4, (some FieldType.int))
abbrev mMain_set : Nat := 83
def tMain_set : am_T := (⟨"PaperedOver", "set", "(III)I"⟩, prog_1_method_3_code, 4, (some FieldType.int))
abbrev mMain_copy : Nat := 84
def tMain_copy : am_T := (⟨"PaperedOver", "copy", "(IIIII)I"⟩, prog_1_method_4_code, 6, (some FieldType.int))
abbrev mMain_drop : Nat := 85
def tMain_drop : am_T := (⟨"PaperedOver", "drop", "(I)I"⟩, prog_1_method_5_code, 2, (some FieldType.int))
abbrev mMain_feed : Nat := 86
def tMain_feed : am_T := (⟨"PaperedOver", "feed", "(JI)I"⟩, prog_1_method_6_code, 4, (some FieldType.int))
abbrev mMain_house : Nat := 87
def tMain_house : am_T := (⟨"PaperedOver", "house", "()I"⟩, prog_1_method_7_code, 2, (some FieldType.int))
abbrev mMain_fault : Nat := 88
def tMain_fault : am_T := (⟨"PaperedOver", "fault", "()I"⟩, prog_1_method_8_code, 1, (some FieldType.int))
abbrev mMain_lift : Nat := 89
def tMain_lift : am_T := (⟨"PaperedOver", "lift", "(IIII)I"⟩, prog_1_method_9_code, 7, (some FieldType.int))
abbrev mMain_forget : Nat := 90
def tMain_forget : am_T := (⟨"PaperedOver", "forget", "()I"⟩, prog_1_method_10_code, 1, (some FieldType.int))
abbrev mMain_spot : Nat := 91
def tMain_spot : am_T := (⟨"PaperedOver", "spot", "(II)I"⟩, prog_1_method_11_code, 3, (some FieldType.int))
abbrev mMain_papers : Nat := 92
def tMain_papers : am_T := (⟨"PaperedOver", "papers", "(I)I"⟩, prog_1_method_12_code, 2, (some FieldType.int))
abbrev mMain_paper : Nat := 93
def tMain_paper : am_T := (⟨"PaperedOver", "paper", "(II)I"⟩, prog_1_method_13_code, 3, (some FieldType.int))
abbrev mMain_orders : Nat := 94
def tMain_orders : am_T := (⟨"PaperedOver", "orders", "()I"⟩, prog_1_method_14_code, 1, (some FieldType.int))
abbrev mMain_first : Nat := 95
def tMain_first : am_T := (⟨"PaperedOver", "first", "(I)I"⟩, prog_1_method_15_code, 2, (some FieldType.int))
abbrev mMain_odds : Nat := 96
def tMain_odds : am_T := (⟨"PaperedOver", "odds", "(III)I"⟩, prog_1_method_16_code, 7, (some FieldType.int))
abbrev mMain_next : Nat := 97
def tMain_next : am_T := (⟨"PaperedOver", "next", "()I"⟩, prog_1_method_17_code, 2, (some FieldType.int))
abbrev mMain_years : Nat := 98
def tMain_years : am_T := (⟨"PaperedOver", "years", "(II)I"⟩, prog_1_method_18_code, 3, (some FieldType.int))
abbrev mMain_younger : Nat := 99
def tMain_younger : am_T := (⟨"PaperedOver", "younger", "(II)I"⟩, prog_1_method_19_code, 3, (some FieldType.int))
abbrev mMain_lacks : Nat := 100
def tMain_lacks : am_T := (⟨"PaperedOver", "lacks", "(II)I"⟩, prog_1_method_20_code, 3, (some FieldType.int))
abbrev mMain_tenants : Nat := 101
def tMain_tenants : am_T := (⟨"PaperedOver", "tenants", "(I)I"⟩, prog_1_method_21_code, 2, (some FieldType.int))
abbrev mMain_cupboard : Nat := 102
def tMain_cupboard : am_T := (⟨"PaperedOver", "cupboard", "(II)I"⟩, prog_1_method_22_code, 4, (some FieldType.int))
abbrev mMain_scrap : Nat := 103
def tMain_scrap : am_T := (⟨"PaperedOver", "scrap", "(II)I"⟩, prog_1_method_23_code, 3, (some FieldType.int))
abbrev mMain_tells : Nat := 104
def tMain_tells : am_T := (⟨"PaperedOver", "tells", "(I)I"⟩, prog_1_method_24_code, 3, (some FieldType.int))
abbrev mMain_rolls : Nat := 105
def tMain_rolls : am_T := (⟨"PaperedOver", "rolls", "(III)I"⟩, prog_1_method_25_code, 4, (some FieldType.int))
abbrev mMain_image : Nat := 106
def tMain_image : am_T := (⟨"PaperedOver", "image", "(I)I"⟩, prog_1_method_26_code, 3, (some FieldType.int))
abbrev mMain_restore : Nat := 107
def tMain_restore : am_T := (⟨"PaperedOver", "restore", "(I)I"⟩, prog_1_method_27_code, 3, (some FieldType.int))
abbrev mMain_kind : Nat := 108
def tMain_kind : am_T := (⟨"PaperedOver", "kind", "(I)I"⟩, prog_1_method_28_code, 2, (some FieldType.int))
abbrev mMain_as : Nat := 109
def tMain_as : am_T := (⟨"PaperedOver", "as", "(II)I"⟩, prog_1_method_29_code, 3, (some FieldType.int))
abbrev mMain_ask : Nat := 110
def tMain_ask : am_T := (⟨"PaperedOver", "ask", "(II)I"⟩, prog_1_method_30_code, 3, (some FieldType.int))
abbrev mMain_trace : Nat := 111
def tMain_trace : am_T := (⟨"PaperedOver", "trace", "(I)I"⟩, prog_1_method_31_code, 2, (some FieldType.int))
abbrev mMain_count : Nat := 112
def tMain_count : am_T := (⟨"PaperedOver", "count", "(I)I"⟩, prog_1_method_32_code, 2, (some FieldType.int))
abbrev mMain_status : Nat := 113
def tMain_status : am_T := (⟨"PaperedOver", "status", "()I"⟩, prog_1_method_33_code, 1, (some FieldType.int))
abbrev mMain_found : Nat := 114
def tMain_found : am_T := (⟨"PaperedOver", "found", "(I)I"⟩, prog_1_method_34_code, 2, (some FieldType.int))
abbrev mMain_clean : Nat := 115
def tMain_clean : am_T := (⟨"PaperedOver", "clean", "(I)I"⟩, prog_1_method_35_code, 2, (some FieldType.int))
abbrev mMain_learnAnew : Nat := 116
def tMain_learnAnew : am_T := (⟨"PaperedOver", "learnAnew", "()V"⟩, prog_1_method_36_code, 1, (none : Option FieldType))
abbrev mMain_isSeen : Nat := 117
def tMain_isSeen : am_T := (⟨"PaperedOver", "isSeen", "(I)Z"⟩, prog_1_method_37_code, 2, (some FieldType.boolean))
abbrev mMain_areUnlikePapers : Nat := 118
def tMain_areUnlikePapers : am_T := (⟨"PaperedOver", "areUnlikePapers", "(III)Z"⟩, prog_1_method_38_code, 7, (some FieldType.boolean))
abbrev mMain_isSwitch : Nat := 119
def tMain_isSwitch : am_T := (⟨"PaperedOver", "isSwitch", "(I)Z"⟩, prog_1_method_39_code, 1, (some FieldType.boolean))
abbrev mMain_isSetOf : Nat := 120
def tMain_isSetOf : am_T := (⟨"PaperedOver", "isSetOf", "(II)Z"⟩, prog_1_method_40_code, 2, (some FieldType.boolean))
abbrev mMain_has : Nat := 121
def tMain_has : am_T := (⟨"PaperedOver", "has", "(II)Z"⟩, prog_1_method_41_code, 2, (some FieldType.boolean))
abbrev mMain_greatestShared : Nat := 122
def tMain_greatestShared : am_T := (⟨"PaperedOver", "greatestShared", "(II)I"⟩, prog_1_method_42_code, 4, (some FieldType.int))
abbrev mMain_partsUp : Nat := 123
def tMain_partsUp : am_T := (⟨"PaperedOver", "partsUp", "(II)I"⟩, prog_1_method_43_code, 2, (some FieldType.int))
abbrev mRef_in : Nat := 124
def tRef_in : am_T := (⟨"PaperedOverModel", "in", "(JJJ)Z"⟩, prog_13_method_3_code, 6, (some FieldType.boolean))
abbrev mRef_finding : Nat := 125
def tRef_finding : am_T := (⟨"PaperedOverModel", "finding", "(I)I"⟩, prog_13_method_4_code, 2, (some FieldType.int))
abbrev mRef_isRow : Nat := 126
def tRef_isRow : am_T := (⟨"PaperedOverModel", "isRow", "(I)Z"⟩, prog_13_method_5_code, 1, (some FieldType.boolean))
abbrev mRef_row : Nat := 127
def tRef_row : am_T := (⟨"PaperedOverModel", "row", "(III)I"⟩, prog_13_method_6_code, 5, (some FieldType.int))
abbrev mRef_set : Nat := 128
def tRef_set : am_T := (⟨"PaperedOverModel", "set", "(III)I"⟩, prog_13_method_7_code, 4, (some FieldType.int))
abbrev mRef_copy : Nat := 129
def tRef_copy : am_T := (⟨"PaperedOverModel", "copy", "(IIIII)I"⟩, prog_13_method_8_code, 9, (some FieldType.int))
abbrev mRef_drop : Nat := 130
def tRef_drop : am_T := (⟨"PaperedOverModel", "drop", "(I)I"⟩, prog_13_method_9_code, 2, (some FieldType.int))
abbrev mRef_feed : Nat := 131
def tRef_feed : am_T := (⟨"PaperedOverModel", "feed", "(JI)I"⟩, prog_13_method_10_code, 5, (some FieldType.int))
abbrev mRef_byteAt : Nat := 132
def tRef_byteAt : am_T := (⟨"PaperedOverModel", "byteAt", "(I)I"⟩, prog_13_method_11_code, 2, (some FieldType.int))
abbrev mRef_isLetter : Nat := 133
def tRef_isLetter : am_T := (⟨"PaperedOverModel", "isLetter", "(I)Z"⟩, prog_13_method_12_code, 1, (some FieldType.boolean))
abbrev mRef_isFigure : Nat := 134
def tRef_isFigure : am_T := (⟨"PaperedOverModel", "isFigure", "(I)Z"⟩, prog_13_method_13_code, 1, (some FieldType.boolean))
abbrev mRef_nextToken : Nat := 135
def tRef_nextToken : am_T := (⟨"PaperedOverModel", "nextToken", "()V"⟩, prog_13_method_14_code, 2, (none : Option FieldType))
abbrev mRef_begin : Nat := 136
def tRef_begin : am_T := (⟨"PaperedOverModel", "begin", "()V"⟩, prog_13_method_15_code, 1, (none : Option FieldType))
abbrev mRef_bad : Nat := 137
def tRef_bad : am_T := (⟨"PaperedOverModel", "bad", "(I)V"⟩, prog_13_method_16_code, 2, (none : Option FieldType))
abbrev mRef_must : Nat := 138
def tRef_must : am_T := (⟨"PaperedOverModel", "must", "(Z)V"⟩, prog_13_method_17_code, 2, (none : Option FieldType))
abbrev mRef_name : Nat := 139
def tRef_name : am_T := (⟨"PaperedOverModel", "name", "()J"⟩, prog_13_method_18_code, 4, (some FieldType.long))
abbrev mRef_figures : Nat := 140
def tRef_figures : am_T := (⟨"PaperedOverModel", "figures", "()I"⟩, prog_13_method_19_code, 3, (some FieldType.int))
abbrev mRef_number : Nat := 141
def tRef_number : am_T := (⟨"PaperedOverModel", "number", "(II)I"⟩, prog_13_method_20_code, 4, (some FieldType.int))
abbrev mRef_sortOf : Nat := 142
def tRef_sortOf : am_T := (⟨"PaperedOverModel", "sortOf", "(J)I"⟩, prog_13_method_21_code, 2, (some FieldType.int))
abbrev mRef_mustEnd : Nat := 143
def tRef_mustEnd : am_T := (⟨"PaperedOverModel", "mustEnd", "()V"⟩, prog_13_method_22_code, 1, (none : Option FieldType))
abbrev mRef_begins : Nat := 144
def tRef_begins : am_T := (⟨"PaperedOverModel", "begins", "(II)V"⟩, prog_13_method_23_code, 3, (none : Option FieldType))
abbrev mRef_readWall : Nat := 145
def tRef_readWall : am_T := (⟨"PaperedOverModel", "readWall", "()V"⟩, prog_13_method_24_code, 5, (none : Option FieldType))
abbrev mRef_readPaper : Nat := 146
def tRef_readPaper : am_T := (⟨"PaperedOverModel", "readPaper", "()V"⟩, prog_13_method_25_code, 7, (none : Option FieldType))
abbrev mRef_readTenant : Nat := 147
def tRef_readTenant : am_T := (⟨"PaperedOverModel", "readTenant", "()V"⟩, prog_13_method_26_code, 5, (none : Option FieldType))
abbrev mRef_house : Nat := 148
def tRef_house : am_T := (⟨"PaperedOverModel", "house", "()I"⟩, prog_13_method_27_code, 2, (some FieldType.int))
abbrev mRef_fault : Nat := 149
def tRef_fault : am_T := (⟨"PaperedOverModel", "fault", "()I"⟩, prog_13_method_28_code, 1, (some FieldType.int))
abbrev mRef_isWall : Nat := 150
def tRef_isWall : am_T := (⟨"PaperedOverModel", "isWall", "(I)Z"⟩, prog_13_method_29_code, 2, (some FieldType.boolean))
abbrev mRef_isPaper : Nat := 151
def tRef_isPaper : am_T := (⟨"PaperedOverModel", "isPaper", "(I)Z"⟩, prog_13_method_30_code, 2, (some FieldType.boolean))
abbrev mRef_isSpot : Nat := 152
def tRef_isSpot : am_T := (⟨"PaperedOverModel", "isSpot", "(I)Z"⟩, prog_13_method_31_code, 2, (some FieldType.boolean))
abbrev mRef_wall : Nat := 153
def tRef_wall : am_T := (⟨"PaperedOverModel", "wall", "(II)I"⟩, prog_13_method_32_code, 3, (some FieldType.int))
abbrev mRef_of : Nat := 154
def tRef_of : am_T := (⟨"PaperedOverModel", "of", "(II)I"⟩, prog_13_method_33_code, 3, (some FieldType.int))
abbrev mRef_lies : Nat := 155
def tRef_lies : am_T := (⟨"PaperedOverModel", "lies", "(II)I"⟩, prog_13_method_34_code, 3, (some FieldType.int))
abbrev mRef_wallOf : Nat := 156
def tRef_wallOf : am_T := (⟨"PaperedOverModel", "wallOf", "(I)I"⟩, prog_13_method_35_code, 2, (some FieldType.int))
abbrev mRef_manyAt : Nat := 157
def tRef_manyAt : am_T := (⟨"PaperedOverModel", "manyAt", "(I)I"⟩, prog_13_method_36_code, 2, (some FieldType.int))
abbrev mRef_laySpots : Nat := 158
def tRef_laySpots : am_T := (⟨"PaperedOverModel", "laySpots", "()V"⟩, prog_13_method_37_code, 3, (none : Option FieldType))
abbrev mRef_laySure : Nat := 159
def tRef_laySure : am_T := (⟨"PaperedOverModel", "laySure", "()V"⟩, prog_13_method_38_code, 4, (none : Option FieldType))
abbrev mRef_inRings : Nat := 160
def tRef_inRings : am_T := (⟨"PaperedOverModel", "inRings", "()I"⟩, prog_13_method_39_code, 3, (some FieldType.int))
abbrev mRef_isIn : Nat := 161
def tRef_isIn : am_T := (⟨"PaperedOverModel", "isIn", "(II)Z"⟩, prog_13_method_40_code, 2, (some FieldType.boolean))
abbrev mRef_isSeen : Nat := 162
def tRef_isSeen : am_T := (⟨"PaperedOverModel", "isSeen", "(I)Z"⟩, prog_13_method_41_code, 2, (some FieldType.boolean))
abbrev mRef_lack : Nat := 163
def tRef_lack : am_T := (⟨"PaperedOverModel", "lack", "(III)I"⟩, prog_13_method_42_code, 4, (some FieldType.int))
abbrev mRef_lift : Nat := 164
def tRef_lift : am_T := (⟨"PaperedOverModel", "lift", "(IIII)I"⟩, prog_13_method_43_code, 9, (some FieldType.int))
abbrev mRef_forget : Nat := 165
def tRef_forget : am_T := (⟨"PaperedOverModel", "forget", "()I"⟩, prog_13_method_44_code, 1, (some FieldType.int))
abbrev mRef_spot : Nat := 166
def tRef_spot : am_T := (⟨"PaperedOverModel", "spot", "(II)I"⟩, prog_13_method_45_code, 3, (some FieldType.int))
abbrev mRef_papers : Nat := 167
def tRef_papers : am_T := (⟨"PaperedOverModel", "papers", "(I)I"⟩, prog_13_method_46_code, 2, (some FieldType.int))
abbrev mRef_paper : Nat := 168
def tRef_paper : am_T := (⟨"PaperedOverModel", "paper", "(II)I"⟩, prog_13_method_47_code, 3, (some FieldType.int))
abbrev mRef_ordersWith : Nat := 169
def tRef_ordersWith : am_T := (⟨"PaperedOverModel", "ordersWith", "(II)I"⟩, prog_13_method_48_code, 7, (some FieldType.int))
abbrev mRef_orders : Nat := 170
def tRef_orders : am_T := (⟨"PaperedOverModel", "orders", "()I"⟩, prog_13_method_49_code, 1, (some FieldType.int))
abbrev mRef_first : Nat := 171
def tRef_first : am_T := (⟨"PaperedOverModel", "first", "(I)I"⟩, prog_13_method_50_code, 5, (some FieldType.int))
abbrev mRef_divisor : Nat := 172
def tRef_divisor : am_T := (⟨"PaperedOverModel", "divisor", "(II)I"⟩, prog_13_method_51_code, 5, (some FieldType.int))
abbrev mRef_odds : Nat := 173
def tRef_odds : am_T := (⟨"PaperedOverModel", "odds", "(III)I"⟩, prog_13_method_52_code, 6, (some FieldType.int))
abbrev mRef_next : Nat := 174
def tRef_next : am_T := (⟨"PaperedOverModel", "next", "()I"⟩, prog_13_method_53_code, 9, (some FieldType.int))
abbrev mRef_layYears : Nat := 175
def tRef_layYears : am_T := (⟨"PaperedOverModel", "layYears", "()V"⟩, prog_13_method_54_code, 4, (none : Option FieldType))
abbrev mRef_years : Nat := 176
def tRef_years : am_T := (⟨"PaperedOverModel", "years", "(II)I"⟩, prog_13_method_55_code, 3, (some FieldType.int))
abbrev mRef_younger : Nat := 177
def tRef_younger : am_T := (⟨"PaperedOverModel", "younger", "(II)I"⟩, prog_13_method_56_code, 5, (some FieldType.int))
abbrev mRef_lacks : Nat := 178
def tRef_lacks : am_T := (⟨"PaperedOverModel", "lacks", "(II)I"⟩, prog_13_method_57_code, 8, (some FieldType.int))
abbrev mRef_tenants : Nat := 179
def tRef_tenants : am_T := (⟨"PaperedOverModel", "tenants", "(I)I"⟩, prog_13_method_58_code, 7, (some FieldType.int))
abbrev mRef_cupboard : Nat := 180
def tRef_cupboard : am_T := (⟨"PaperedOverModel", "cupboard", "(II)I"⟩, prog_13_method_59_code, 7, (some FieldType.int))
abbrev mRef_scrap : Nat := 181
def tRef_scrap : am_T := (⟨"PaperedOverModel", "scrap", "(II)I"⟩, prog_13_method_60_code, 5, (some FieldType.int))
abbrev mRef_tellsBy : Nat := 182
def tRef_tellsBy : am_T := (⟨"PaperedOverModel", "tellsBy", "(II)Z"⟩, prog_13_method_61_code, 7, (some FieldType.boolean))
abbrev mRef_tells : Nat := 183
def tRef_tells : am_T := (⟨"PaperedOverModel", "tells", "(I)I"⟩, prog_13_method_62_code, 3, (some FieldType.int))
abbrev mRef_painted : Nat := 184
def tRef_painted : am_T := (⟨"PaperedOverModel", "painted", "(II)I"⟩, prog_13_method_63_code, 5, (some FieldType.int))
abbrev mRef_rolls : Nat := 185
def tRef_rolls : am_T := (⟨"PaperedOverModel", "rolls", "(III)I"⟩, prog_13_method_64_code, 11, (some FieldType.int))
abbrev mRef_image : Nat := 186
def tRef_image : am_T := (⟨"PaperedOverModel", "image", "(I)I"⟩, prog_13_method_65_code, 3, (some FieldType.int))
abbrev mRef_restore : Nat := 187
def tRef_restore : am_T := (⟨"PaperedOverModel", "restore", "(I)I"⟩, prog_13_method_66_code, 3, (some FieldType.int))
abbrev mRef_isOf : Nat := 188
def tRef_isOf : am_T := (⟨"PaperedOverModel", "isOf", "(II)Z"⟩, prog_13_method_67_code, 2, (some FieldType.boolean))
abbrev mRef_kind : Nat := 189
def tRef_kind : am_T := (⟨"PaperedOverModel", "kind", "(I)I"⟩, prog_13_method_68_code, 2, (some FieldType.int))
abbrev mRef_as : Nat := 190
def tRef_as : am_T := (⟨"PaperedOverModel", "as", "(II)I"⟩, prog_13_method_69_code, 3, (some FieldType.int))
abbrev mRef_began : Nat := 191
def tRef_began : am_T := (⟨"PaperedOverModel", "began", "(I)V"⟩, prog_13_method_70_code, 2, (none : Option FieldType))
abbrev mRef_plainSize : Nat := 192
def tRef_plainSize : am_T := (⟨"PaperedOverModel", "plainSize", "(I)I"⟩, prog_13_method_71_code, 2, (some FieldType.int))
abbrev mRef_markOf : Nat := 193
def tRef_markOf : am_T := (⟨"PaperedOverModel", "markOf", "(I)I"⟩, prog_13_method_72_code, 3, (some FieldType.int))
abbrev mRef_sizeOf : Nat := 194
def tRef_sizeOf : am_T := (⟨"PaperedOverModel", "sizeOf", "(I)I"⟩, prog_13_method_73_code, 4, (some FieldType.int))
abbrev mRef_ask : Nat := 195
def tRef_ask : am_T := (⟨"PaperedOverModel", "ask", "(II)I"⟩, prog_13_method_74_code, 3, (some FieldType.int))
abbrev mRef_trace : Nat := 196
def tRef_trace : am_T := (⟨"PaperedOverModel", "trace", "(I)I"⟩, prog_13_method_75_code, 2, (some FieldType.int))
abbrev mRef_count : Nat := 197
def tRef_count : am_T := (⟨"PaperedOverModel", "count", "(I)I"⟩, prog_13_method_76_code, 4, (some FieldType.int))
abbrev mRef_status : Nat := 198
def tRef_status : am_T := (⟨"PaperedOverModel", "status", "()I"⟩, prog_13_method_77_code, 1, (some FieldType.int))
abbrev mMath_abs : Nat := 199
def tMath_abs : am_T := (⟨"java/lang/Math", "abs", "(I)I"⟩, prog_14_method_59_code, 1, (some FieldType.int))
abbrev mMath_max : Nat := 200
def tMath_max : am_T := (⟨"java/lang/Math", "max", "(II)I"⟩, prog_14_method_65_code, 2, (some FieldType.int))
abbrev mMath_min : Nat := 201
def tMath_min : am_T := (⟨"java/lang/Math", "min", "(II)I"⟩, prog_14_method_69_code, 2, (some FieldType.int))
abbrev mStr_length : Nat := 202
def tStr_length : am_T := (⟨"java/lang/String", "length", "()I"⟩, prog_15_method_54_code, 1, (some FieldType.int))
abbrev mStr_charAt : Nat := 203
def tStr_charAt : am_T := (⟨"java/lang/String", "charAt", "(I)C"⟩, prog_15_method_56_code, 2, (some FieldType.char))
abbrev mStr_coder : Nat := 204
def tStr_coder : am_T := (⟨"java/lang/String", "coder", "()B"⟩, prog_15_method_152_code, 1, (some FieldType.byte))
abbrev mStr_isLatin1 : Nat := 205
def tStr_isLatin1 : am_T := (⟨"java/lang/String", "isLatin1", "()Z"⟩, prog_15_method_154_code, 1, (some FieldType.boolean))
abbrev mStr_checkIndex : Nat := 206
def tStr_checkIndex : am_T := (⟨"java/lang/String", "checkIndex", "(II)V"⟩, prog_15_method_155_code, 2, (none : Option FieldType))
abbrev mLat_charAt : Nat := 207
def tLat_charAt : am_T := (⟨"java/lang/StringLatin1", "charAt", "([BI)C"⟩, prog_16_method_2_code, 2, (some FieldType.char))
abbrev mArr_rangeCheck : Nat := 208
def tArr_rangeCheck : am_T := (⟨"java/util/Arrays", "rangeCheck", "(III)V"⟩, prog_19_method_30_code, 3, (none : Option FieldType))
abbrev mArr_fill2 : Nat := 209
def tArr_fill2 : am_T := (⟨"java/util/Arrays", "fill", "([II)V"⟩, prog_19_method_103_code, 4, (none : Option FieldType))
abbrev mArr_fill4 : Nat := 210
def tArr_fill4 : am_T := (⟨"java/util/Arrays", "fill", "([IIII)V"⟩, prog_19_method_104_code, 5, (none : Option FieldType))
abbrev mPre_checkIndex : Nat := 211
def tPre_checkIndex : am_T := (⟨"jdk/internal/util/Preconditions", "checkIndex", "(IILjava/util/function/BiFunction;)I"⟩, prog_20_method_11_code, 3, (some FieldType.int))
def am_mt : List am_T := [tBodies_askSize, tBodies_askMark, tBodies_told, tBodies_answer, tBodies_begin, tCutter_cut, tCutter_widthOf, tCutter_cutWall, tFacts_hasRing, tFacts_learn, tFacts_gather, tFacts_at, tFacts_close, tFacts_canFollow, tFacts_arrange, tFacts_leastThatFollows, tFacts_dateLeast, tFacts_dateMost, tFacts_isYounger, tFacts_scrapedOff, tFacts_neverThere, tFacts_whoCan, tFacts_missingAt, tFacts_leastOf, tFacts_mostOf, tHouse_stands, tHouse_isWall, tHouse_isPaper, tHouse_isKind, tHouse_isOf, tHouse_clear, tHouse_addWall, tHouse_addPaper, tHouse_addTenant, tHouse_take, tHouse_printedEvery, tHouse_isToldBy, tHouse_leftBy, tOrders_all, tOrders_withAhead, tOrders_mostEvenPair, tOrders_isOpen, tOrders_countOnce, tOrders_countBegun, tOrders_countEnded, tOrders_countPairs, tReader_read, tReader_word, tReader_isFull, tReader_readOne, tReader_readWall, tReader_readPaper, tReader_readTenant, tReader_sortOfPaper, tReader_number, tReader_semicolon, tReader_fail, tReader_step, tReader_isName, tReader_isBlank, tReader_isLetter, tReader_isFigure, tRows_isRow, tRows_isLane, tRows_isThere, tRows_alike, tRows_holds, tRows_make, tRows_item, tRows_put, tRows_move, tRows_remove, tRows_howMany, tSpots_isSpot, tSpots_hasRoom, tSpots_layer, tSpots_open, tSpots_lay, tSpots_take, tTape_hasRoom, tTape_append, tTape_at, tMain_row, tMain_set, tMain_copy, tMain_drop, tMain_feed, tMain_house, tMain_fault, tMain_lift, tMain_forget, tMain_spot, tMain_papers, tMain_paper, tMain_orders, tMain_first, tMain_odds, tMain_next, tMain_years, tMain_younger, tMain_lacks, tMain_tenants, tMain_cupboard, tMain_scrap, tMain_tells, tMain_rolls, tMain_image, tMain_restore, tMain_kind, tMain_as, tMain_ask, tMain_trace, tMain_count, tMain_status, tMain_found, tMain_clean, tMain_learnAnew, tMain_isSeen, tMain_areUnlikePapers, tMain_isSwitch, tMain_isSetOf, tMain_has, tMain_greatestShared, tMain_partsUp, tRef_in, tRef_finding, tRef_isRow, tRef_row, tRef_set, tRef_copy, tRef_drop, tRef_feed, tRef_byteAt, tRef_isLetter, tRef_isFigure, tRef_nextToken, tRef_begin, tRef_bad, tRef_must, tRef_name, tRef_figures, tRef_number, tRef_sortOf, tRef_mustEnd, tRef_begins, tRef_readWall, tRef_readPaper, tRef_readTenant, tRef_house, tRef_fault, tRef_isWall, tRef_isPaper, tRef_isSpot, tRef_wall, tRef_of, tRef_lies, tRef_wallOf, tRef_manyAt, tRef_laySpots, tRef_laySure, tRef_inRings, tRef_isIn, tRef_isSeen, tRef_lack, tRef_lift, tRef_forget, tRef_spot, tRef_papers, tRef_paper, tRef_ordersWith, tRef_orders, tRef_first, tRef_divisor, tRef_odds, tRef_next, tRef_layYears, tRef_years, tRef_younger, tRef_lacks, tRef_tenants, tRef_cupboard, tRef_scrap, tRef_tellsBy, tRef_tells, tRef_painted, tRef_rolls, tRef_image, tRef_restore, tRef_isOf, tRef_kind, tRef_as, tRef_began, tRef_plainSize, tRef_markOf, tRef_sizeOf, tRef_ask, tRef_trace, tRef_count, tRef_status, tMath_abs, tMath_max, tMath_min, tStr_length, tStr_charAt, tStr_coder, tStr_isLatin1, tStr_checkIndex, tLat_charAt, tArr_rangeCheck, tArr_fill2, tArr_fill4, tPre_checkIndex]
def mt (n : Nat) : am_T := am_mt.getD n tBodies_askSize
abbrev Con (d n : Nat) (as : List am_V) (M : am_M) (r : Option am_V) (M2 : am_M) : Prop := am_Con d (mt n) as M r M2
end
section
def Cl (d n : Nat) (as : List am_V) (M : am_M) (K : Option am_V → am_M → Prop) : Prop := ∃ (d2 : Nat) (r : Option am_V) (M2 : am_M), d2 < d ∧ Con d2 n as M r M2 ∧ K r M2
theorem cl_ {d n d2 : Nat} {as : List am_V} {M M2 : am_M} {r : Option am_V} {K : Option am_V → am_M → Prop} (h : Con d2 n as M r M2) (k : K r M2) (hd : d2 < d := by decide) : Cl d n as M K := ⟨d2, r, M2, hd, h, k⟩
def am_nth : am_L → Nat → Option am_V
  | [], _ => none
  | x :: _, 0 => x
  | _ :: t, n + 1 => am_nth t n
def am_set : am_L → Nat → am_V → am_L
  | [], _, _ => []
  | _ :: t, 0, v => some v :: t
  | x :: t, n + 1, v => x :: am_set t n v
def am_none : am_L → Nat → am_L
  | [], _ => []
  | _ :: t, 0 => none :: t
  | x :: t, n + 1 => x :: am_none t n
def am_isL : Option am_V → Bool
  | some (Sum.inr (Sum.inr _)) => true
  | _ => false
/-- a place that may be stored to: not the second half of a long -/
def am_ok1 : am_L → Nat → Bool
  | [], _ => false
  | _ :: _, 0 => true
  | x :: t, n + 1 => match n with
    | 0 => !am_isL x && am_ok1 t 0
    | k + 1 => am_ok1 t (k + 1)
def am_pI (st : List am_V) (f : Int32 → List am_V → Prop) : Prop := match st with
  | Sum.inr (Sum.inl x) :: r => f x r
  | _ => False
def am_pL (st : List am_V) (f : Int64 → List am_V → Prop) : Prop := match st with
  | Sum.inr (Sum.inr x) :: r => f x r
  | _ => False
def am_pR (st : List am_V) (f : Nat × Nat × Nat → List am_V → Prop) : Prop := match st with
  | Sum.inl q :: r => f q r
  | _ => False
def am_pA (st : List am_V) (f : am_V → List am_V → Prop) : Prop := match st with
  | Sum.inl q :: r => f (Sum.inl q) r
  | Sum.inr (Sum.inl x) :: r => f (Sum.inr (Sum.inl x)) r
  | _ => False
def am_n1 (ns : List Nat) (f : Nat → Prop) : Prop := match ns with
  | i :: _ => f i
  | [] => False
def am_eI (en : Option am_N) (f : Int32 → Prop) : Prop := match en with
  | some (Sum.inr (Sum.inr (Sum.inl x))) => f x
  | _ => False
def am_ck (b : Bool) (P : Prop) : Prop := match b with
  | true => P
  | false => False
def am_cat : List am_V → Nat
  | [] => 0
  | Sum.inr (Sum.inr _) :: r => 2 + am_cat r
  | _ :: r => 1 + am_cat r
def am_pop : Nat → List am_V → List am_V → Option (List am_V × List am_V)
  | 0, st, acc => some (acc, st)
  | n + 1, v :: st, acc => am_pop n st (v :: acc)
  | _ + 1, [], _ => none
def am_push (r : Option am_V) (rest : List am_V) : List am_V := match r with
  | some v => v :: rest
  | none => rest
def am_al (b : Bool) (k o : Nat) : Option Nat := match o with
  | 0 => none
  | o + 1 => match (am_ar k)[o]? with
    | some q => match q.1, b with
      | true, true => some q.2
      | false, false => some q.2
      | _, _ => none
    | none => none
def am_rcv (k : Nat) (as : List am_V) : Bool := match as with
  | Sum.inl (a, _, o) :: _ => Nat.beq a k && (Nat.beq o 0 || Nat.beq a 13)
  | _ => false
def am_cnd (op : Jvm.ClassFile.Cond) (x y : Int32) (A B : Prop) : Prop := match op with
  | .eq => Br (x = y) A B
  | .ne => Br (¬ x = y) A B
  | .lt => Br (x < y) A B
  | .ge => Br (y ≤ x) A B
  | .gt => Br (y < x) A B
  | .le => Br (x ≤ y) A B
def am_cnd0 (op : Jvm.ClassFile.Cond) (x : Int32) (A B : Prop) : Prop := match op with
  | .eq => Br (x = 0) A B
  | .ne => Br (¬ x = 0) A B
  | .lt => Br (x < 0) A B
  | .ge => Br (0 ≤ x) A B
  | .gt => Br (0 < x) A B
  | .le => Br (x ≤ 0) A B
/-- a switch: the default's target, then target and case, one after the other -/
def am_sw (x : Int32) (K : Nat → Prop) (df : Nat) : List Nat → Prop
  | t :: c :: l => Br (x = Int32.ofNat c) (K t) (am_sw x K df l)
  | _ => K df
def am_ret (ret : Option FieldType) (x : Int32) (P : Prop) : Prop := match ret with
  | some .int => P
  | some ty => Ob (vp_nar ty x = x) P
  | none => False
def am_call (d n : Nat) (b : Bool) (as rest : List am_V) (M : am_M) (K : List am_V → am_M → Prop) : Prop := am_ck b (am_ck (Nat.ble (am_cat rest) 8) (Cl d n as M (fun r M2 => K (am_push r rest) M2)))
def am_get (M : am_M) (st : List am_V) (c s : Nat) (K : List am_V → Prop) : Prop := am_pR st fun q r => am_ck (Nat.beq q.1 c && Nat.beq q.2.2 0) (match (am_ob c)[s]? with
  | some none => K (aI (M q.1 q.2.1 0 s) :: r)
  | some (some g) => K (Sum.inl (g q.2.1) :: r)
  | none => False)
def am_put (M : am_M) (st : List am_V) (c s : Nat) (K : List am_V → am_M → Prop) : Prop := am_pI st fun x r => am_pR r fun q r => am_ck (Nat.beq q.1 c && Nat.beq q.2.2 0) (match (am_ob c)[s]? with
  | some none => match am_fb c s with
    | false => K r (sA M q.1 q.2.1 0 (upd (M q.1 q.2.1 0) s x))
    | true => Ob (vp_nar .boolean x = x) (K r (sA M q.1 q.2.1 0 (upd (M q.1 q.2.1 0) s x)))
  | _ => False)
def am_ild (M : am_M) (st : List am_V) (K : List am_V → Prop) : Prop := am_pI st fun i r => am_pR r fun q r => match am_al false q.1 q.2.2 with
  | some n => Ob (vp_in i n) (K (aI (M q.1 q.2.1 q.2.2 i.toNatClampNeg) :: r))
  | none => match q.1 with
    | 12 => Ob (vp_in i 6) (K (aI ((am_sc q.2.2).getD i.toNatClampNeg 0) :: r))
    | 16 => Ob (vp_in i (M 16 0 1 0).toNatClampNeg) (K (aI (M 16 0 0 i.toNatClampNeg) :: r))
    | _ => False
def am_bld (M : am_M) (st : List am_V) (K : List am_V → Prop) : Prop := am_pI st fun i r => am_pR r fun q r => match am_al true q.1 q.2.2 with
  | some n => Ob (vp_in i n) (K (aI (M q.1 q.2.1 q.2.2 i.toNatClampNeg) :: r))
  | none => match q.1 with
    | 14 => Ob (vp_in i (am_sl.getD q.2.2 0)) (K (aI ((am_sb.getD q.2.2 []).getD i.toNatClampNeg 0) :: r))
    | _ => False
def am_ist (M : am_M) (st : List am_V) (K : List am_V → am_M → Prop) : Prop := am_pI st fun x r => am_pI r fun i r => am_pR r fun q r => match am_al false q.1 q.2.2 with
  | some n => Ob (vp_in i n) (K r (sA M q.1 q.2.1 q.2.2 (upd (M q.1 q.2.1 q.2.2) i.toNatClampNeg x)))
  | none => False
def am_bst (M : am_M) (st : List am_V) (K : List am_V → am_M → Prop) : Prop := am_pI st fun x r => am_pI r fun i r => am_pR r fun q r => match am_al true q.1 q.2.2 with
  | some n => Ob (vp_in i n) (K r (sA M q.1 q.2.1 q.2.2 (upd (M q.1 q.2.1 q.2.2) i.toNatClampNeg (vp_nar .boolean x))))
  | none => False
def am_len (M : am_M) (st : List am_V) (K : List am_V → Prop) : Prop := am_pR st fun q r => match am_al false q.1 q.2.2 with
  | some n => K (aI (Int32.ofNat n) :: r)
  | none => match q.1 with
    | 12 => K (aI 6 :: r)
    | 14 => K (aI (Int32.ofNat (am_sl.getD q.2.2 0)) :: r)
    | 16 => K (aI (M 16 0 1 0) :: r)
    | _ => False
def am_cpy (d : Nat) (M : am_M) (st : List am_V) (K : List am_V → am_M → Prop) : Prop := am_pI st fun n r => am_pI r fun dp r => am_pR r fun q1 r => am_pI r fun sp r => am_pR r fun q0 r => am_ck (Nat.ble 1 d && r.isEmpty) (match am_al false q0.1 q0.2.2, am_al false q1.1 q1.2.2 with
  | some n0, some n1 => Ob (¬ sp < 0 ∧ ¬ dp < 0 ∧ ¬ n < 0 ∧ sp.toNatClampNeg + n.toNatClampNeg ≤ n0 ∧ dp.toNatClampNeg + n.toNatClampNeg ≤ n1) (K r (sA M q1.1 q1.2.1 q1.2.2 (va_cpy (M q0.1 q0.2.1 q0.2.2) (M q1.1 q1.2.1 q1.2.2) sp.toNatClampNeg dp.toNatClampNeg n.toNatClampNeg)))
  | _, _ => False)
/-- one instruction: k is what comes behind it, J what stands at a target, Rt what must hold at the end -/
def am_step (d : Nat) (ret : Option FieldType) (J : Nat → am_L → List am_V → am_M → Prop) (Rt : Option am_V → am_M → Prop) (el : am_E) (k : am_L → List am_V → am_M → Prop) (lv : am_L) (st : List am_V) (M : am_M) : Prop :=
  match el.2.1 with
  | .iconst _ => am_eI el.2.2.2 fun v => k lv (aI v :: st) M
  | .bipush _ => am_eI el.2.2.2 fun v => k lv (aI v :: st) M
  | .sipush _ => am_eI el.2.2.2 fun v => k lv (aI v :: st) M
  | .ldc _ => (match el.2.2.2 with
    | some (Sum.inr (Sum.inr (Sum.inl v))) => k lv (aI v :: st) M
    | some (Sum.inr (Sum.inr (Sum.inr (Sum.inr (Sum.inl v))))) => k lv (v :: st) M
    | _ => False)
  | .ldc_w _ => am_eI el.2.2.2 fun v => k lv (aI v :: st) M
  | .ldc2_w _ => (match el.2.2.2 with
    | some (Sum.inr (Sum.inr (Sum.inr (Sum.inl v)))) => k lv (aL v :: st) M
    | _ => False)
  | .lconst _ => (match el.2.2.2 with
    | some (Sum.inr (Sum.inr (Sum.inr (Sum.inl v)))) => k lv (aL v :: st) M
    | _ => False)
  | .iload_n _ => am_n1 el.2.2.1 fun i => (match am_nth lv i with | some (Sum.inr (Sum.inl x)) => k lv (aI x :: st) M | _ => False)
  | .iload _ => am_n1 el.2.2.1 fun i => (match am_nth lv i with | some (Sum.inr (Sum.inl x)) => k lv (aI x :: st) M | _ => False)
  | .lload_n _ => am_n1 el.2.2.1 fun i => (match am_nth lv i with | some (Sum.inr (Sum.inr x)) => k lv (aL x :: st) M | _ => False)
  | .lload _ => am_n1 el.2.2.1 fun i => (match am_nth lv i with | some (Sum.inr (Sum.inr x)) => k lv (aL x :: st) M | _ => False)
  | .aload_n _ => am_n1 el.2.2.1 fun i => (match am_nth lv i with | some (Sum.inl q) => k lv (Sum.inl q :: st) M | _ => False)
  | .aload _ => am_n1 el.2.2.1 fun i => (match am_nth lv i with | some (Sum.inl q) => k lv (Sum.inl q :: st) M | _ => False)
  | .istore_n _ => am_n1 el.2.2.1 fun i => am_pI st fun x r => am_ck (am_ok1 lv i) (k (am_set lv i (aI x)) r M)
  | .istore _ => am_n1 el.2.2.1 fun i => am_pI st fun x r => am_ck (am_ok1 lv i) (k (am_set lv i (aI x)) r M)
  | .astore_n _ => am_n1 el.2.2.1 fun i => am_pR st fun q r => am_ck (am_ok1 lv i && !Nat.beq q.1 15) (k (am_set lv i (Sum.inl q)) r M)
  | .lstore_n _ => am_n1 el.2.2.1 fun i => am_pL st fun x r => am_ck (am_ok1 lv i && Nat.blt (i + 1) lv.length) (k (am_none (am_set lv i (aL x)) (i + 1)) r M)
  | .iinc _ _ => am_n1 el.2.2.1 fun i => am_eI el.2.2.2 fun v => (match am_nth lv i with | some (Sum.inr (Sum.inl x)) => am_ck (am_ok1 lv i) (k (am_set lv i (aI (x + v))) st M) | _ => False)
  | .iadd => am_pI st fun y r => am_pI r fun x r => k lv (aI (x + y) :: r) M
  | .isub => am_pI st fun y r => am_pI r fun x r => k lv (aI (x - y) :: r) M
  | .imul => am_pI st fun y r => am_pI r fun x r => k lv (aI (x * y) :: r) M
  | .idiv => am_pI st fun y r => am_pI r fun x r => Ob (¬ y = 0) (k lv (aI (x / y) :: r) M)
  | .irem => am_pI st fun y r => am_pI r fun x r => Ob (¬ y = 0) (k lv (aI (x - x / y * y) :: r) M)
  | .ineg => am_pI st fun x r => k lv (aI (-x) :: r) M
  | .iand => am_pI st fun y r => am_pI r fun x r => k lv (aI (x &&& y) :: r) M
  | .ior => am_pI st fun y r => am_pI r fun x r => k lv (aI (x ||| y) :: r) M
  | .ixor => am_pI st fun y r => am_pI r fun x r => k lv (aI (x ^^^ y) :: r) M
  | .ishl => am_pI st fun y r => am_pI r fun x r => k lv (aI (x <<< (y &&& 31)) :: r) M
  | .ishr => am_pI st fun y r => am_pI r fun x r => k lv (aI (x >>> (y &&& 31)) :: r) M
  | .ladd => am_pL st fun y r => am_pL r fun x r => k lv (aL (x + y) :: r) M
  | .land => am_pL st fun y r => am_pL r fun x r => k lv (aL (x &&& y) :: r) M
  | .lor => am_pL st fun y r => am_pL r fun x r => k lv (aL (x ||| y) :: r) M
  | .lshl => am_pI st fun y r => am_pL r fun x r => k lv (aL (x <<< (y.toInt64 &&& 63)) :: r) M
  | .lshr => am_pI st fun y r => am_pL r fun x r => k lv (aL (x >>> (y.toInt64 &&& 63)) :: r) M
  | .lushr => am_pI st fun y r => am_pL r fun x r => k lv (aL (x.toUInt64 >>> (y.toInt64.toUInt64 &&& Int64.toUInt64 63)).toInt64 :: r) M
  | .lcmp => am_pL st fun y r => am_pL r fun x r => k lv (aI (lg_cmp x y) :: r) M
  | .i2l => am_pI st fun x r => k lv (aL x.toInt64 :: r) M
  | .l2i => am_pL st fun x r => k lv (aI x.toInt32 :: r) M
  | .i2b => am_pI st fun x r => k lv (aI x.toInt8.toInt32 :: r) M
  | .i2s => am_pI st fun x r => k lv (aI x.toInt16.toInt32 :: r) M
  | .i2c => am_pI st fun x r => k lv (aI (x.toUInt32 % 65536).toInt32 :: r) M
  | .dup => am_pA st fun x r => k lv (x :: x :: r) M
  | .dup2 => am_pA st fun x r => am_pA r fun y r => k lv (x :: y :: x :: y :: r) M
  | .pop => am_pA st fun _ r => k lv r M
  | .getfield _ => (match el.2.2.2 with
    | some (Sum.inl cs) => am_get M st cs.1 cs.2 fun r => k lv r M
    | some (Sum.inr (Sum.inr (Sum.inr (Sum.inr (Sum.inr (Sum.inl n)))))) => am_pR st fun q r => am_ck (Nat.beq q.1 13) (match n with | 0 => k lv (aI 0 :: r) M | _ => k lv (aR 14 0 q.2.2 :: r) M)
    | _ => False)
  | .putfield _ => (match el.2.2.2 with
    | some (Sum.inl cs) => am_put M st cs.1 cs.2 fun r M2 => k lv r M2
    | _ => False)
  | .getstatic _ => (match el.2.2.2 with
    | some (Sum.inr (Sum.inr (Sum.inl v))) => k lv (aI v :: st) M
    | some (Sum.inr (Sum.inr (Sum.inr (Sum.inr (Sum.inl v))))) => k lv (v :: st) M
    | _ => False)
  | .arraylength => am_len M st fun r => k lv r M
  | .iaload => am_ild M st fun r => k lv r M
  | .baload => am_bld M st fun r => k lv r M
  | .iastore => am_ist M st fun r M2 => k lv r M2
  | .bastore => am_bst M st fun r M2 => k lv r M2
  | .if_icmp op _ => am_n1 el.2.2.1 fun t => am_pI st fun y r => am_pI r fun x r => am_cnd op x y (J t lv r M) (k lv r M)
  | .ifCond op _ => am_n1 el.2.2.1 fun t => am_pI st fun x r => am_cnd0 op x (J t lv r M) (k lv r M)
  | .goto _ => am_n1 el.2.2.1 fun t => J t lv st M
  | .tableswitch _ _ _ _ => (match el.2.2.1 with
    | df :: l => am_pI st fun x r => am_sw x (fun t => J t lv r M) df l
    | [] => False)
  | .invokevirtual _ => (match el.2.2.2 with
    | some (Sum.inr (Sum.inl (n, a, kd))) => (match am_pop a st [] with
      | some (as, rest) => am_call d n (am_rcv kd as) as rest M fun r M2 => k lv r M2
      | none => False)
    | _ => False)
  | .invokestatic _ => (match el.2.2.2 with
    | some (Sum.inr (Sum.inl (n, a, _))) => (match am_pop a st [] with
      | some (as, rest) => am_call d n true as rest M fun r M2 => k lv r M2
      | none => False)
    | some (Sum.inr (Sum.inr (Sum.inr (Sum.inr (Sum.inr (Sum.inr _)))))) => am_cpy d M st fun r M2 => k lv r M2
    | _ => False)
  | .ireturn => am_pI st fun x r => am_ck r.isEmpty (am_ret ret x (Rt (some (aI x)) M))
  | .lreturn => am_pL st fun x r => am_ck r.isEmpty (Rt (some (aL x)) M)
  | .return_ => am_ck st.isEmpty (Rt none M)
  | _ => False
def am_to (pc : Nat) : List am_E → List am_E
  | [] => []
  | el :: L => match Nat.beq el.1 pc with
    | true => el :: L
    | false => am_to pc L
def am_blk (d : Nat) (ret : Option FieldType) (J : Nat → am_L → List am_V → am_M → Prop) (Rt : Option am_V → am_M → Prop) : List am_E → am_L → List am_V → am_M → Prop
  | [] => fun _ _ _ => False
  | el :: L => am_step d ret J Rt el (am_blk d ret J Rt L)
/-- J is closed under the code -/
def am_cl (d : Nat) (ret : Option FieldType) (code : List am_E) (J : Nat → am_L → List am_V → am_M → Prop) (Rt : Option am_V → am_M → Prop) : Prop := ∀ (pc : Nat) (lv : am_L) (st : List am_V) (M : am_M), am_blk d ret J Rt (am_to pc code) lv st M → J pc lv st M
def am_args : List am_V → am_L
  | [] => []
  | Sum.inr (Sum.inr x) :: t => some (aL x) :: none :: am_args t
  | v :: t => some v :: am_args t
def am_lv0 (nL : Nat) (as : List am_V) : am_L := am_args as ++ List.replicate (nL - (am_args as).length) none
/-- the code comes to its end with r and M2 -/
def am_Sem (d : Nat) (ret : Option FieldType) (code : List am_E) (lv0 : am_L) (M : am_M) (r : Option am_V) (M2 : am_M) : Prop := ∀ J : Nat → am_L → List am_V → am_M → Prop, am_cl d ret code J (fun a b => a = r ∧ b = M2) → J 0 lv0 [] M
end
