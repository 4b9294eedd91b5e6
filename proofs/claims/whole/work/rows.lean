section
-- ===== PART A: goes FIRST, ahead of the names: the tables' words, and 'selects' of the private methods out of them =====
/-- a private method of a class that the tables say can be made, by its rows of tables_1 -/
def lw_okq (q : MethodName × Nat) : Prop := (q.1.cls ≠ "java/lang/invoke/MethodHandle" ∧ q.1.cls ≠ "java/lang/invoke/VarHandle") ∧ Cond.instantiable q.1.cls q.2 ∈ tables_1 ∧ Cond.privateMethod q.1 ∈ tables_1 ∧ Cond.instanceMethod q.1 ∈ tables_1
theorem lw_p0 : lw_okq (⟨"PaperedOver", "found", "(I)I"⟩, 13) := ⟨⟨by decide +kernel, by decide +kernel⟩, List.mem_of_getElem? (i := 21) (by decide +kernel), List.mem_of_getElem? (i := 382) (by decide +kernel), List.mem_of_getElem? (i := 383) (by decide +kernel)⟩
theorem lw_p1 : lw_okq (⟨"PaperedOver", "clean", "(I)I"⟩, 13) := ⟨⟨by decide +kernel, by decide +kernel⟩, List.mem_of_getElem? (i := 21) (by decide +kernel), List.mem_of_getElem? (i := 398) (by decide +kernel), List.mem_of_getElem? (i := 399) (by decide +kernel)⟩
theorem lw_p2 : lw_okq (⟨"PaperedOver", "learnAnew", "()V"⟩, 13) := ⟨⟨by decide +kernel, by decide +kernel⟩, List.mem_of_getElem? (i := 21) (by decide +kernel), List.mem_of_getElem? (i := 611) (by decide +kernel), List.mem_of_getElem? (i := 612) (by decide +kernel)⟩
theorem lw_p3 : lw_okq (⟨"PaperedOver", "areUnlikePapers", "(III)Z"⟩, 13) := ⟨⟨by decide +kernel, by decide +kernel⟩, List.mem_of_getElem? (i := 21) (by decide +kernel), List.mem_of_getElem? (i := 707) (by decide +kernel), List.mem_of_getElem? (i := 708) (by decide +kernel)⟩
theorem lw_p4 : lw_okq (⟨"PaperedOver", "isSeen", "(I)Z"⟩, 13) := ⟨⟨by decide +kernel, by decide +kernel⟩, List.mem_of_getElem? (i := 21) (by decide +kernel), List.mem_of_getElem? (i := 782) (by decide +kernel), List.mem_of_getElem? (i := 783) (by decide +kernel)⟩
theorem lw_p5 : lw_okq (⟨"PaperedOverModel", "finding", "(I)I"⟩, 29) := ⟨⟨by decide +kernel, by decide +kernel⟩, List.mem_of_getElem? (i := 975) (by decide +kernel), List.mem_of_getElem? (i := 1082) (by decide +kernel), List.mem_of_getElem? (i := 1083) (by decide +kernel)⟩
theorem lw_p6 : lw_okq (⟨"PaperedOverModel", "begin", "()V"⟩, 29) := ⟨⟨by decide +kernel, by decide +kernel⟩, List.mem_of_getElem? (i := 975) (by decide +kernel), List.mem_of_getElem? (i := 1110) (by decide +kernel), List.mem_of_getElem? (i := 1111) (by decide +kernel)⟩
theorem lw_p7 : lw_okq (⟨"PaperedOverModel", "nextToken", "()V"⟩, 29) := ⟨⟨by decide +kernel, by decide +kernel⟩, List.mem_of_getElem? (i := 975) (by decide +kernel), List.mem_of_getElem? (i := 1114) (by decide +kernel), List.mem_of_getElem? (i := 1115) (by decide +kernel)⟩
theorem lw_p8 : lw_okq (⟨"PaperedOverModel", "byteAt", "(I)I"⟩, 29) := ⟨⟨by decide +kernel, by decide +kernel⟩, List.mem_of_getElem? (i := 975) (by decide +kernel), List.mem_of_getElem? (i := 1118) (by decide +kernel), List.mem_of_getElem? (i := 1119) (by decide +kernel)⟩
theorem lw_p9 : lw_okq (⟨"PaperedOverModel", "name", "()J"⟩, 29) := ⟨⟨by decide +kernel, by decide +kernel⟩, List.mem_of_getElem? (i := 975) (by decide +kernel), List.mem_of_getElem? (i := 1129) (by decide +kernel), List.mem_of_getElem? (i := 1130) (by decide +kernel)⟩
theorem lw_p10 : lw_okq (⟨"PaperedOverModel", "bad", "(I)V"⟩, 29) := ⟨⟨by decide +kernel, by decide +kernel⟩, List.mem_of_getElem? (i := 975) (by decide +kernel), List.mem_of_getElem? (i := 1134) (by decide +kernel), List.mem_of_getElem? (i := 1135) (by decide +kernel)⟩
theorem lw_p11 : lw_okq (⟨"PaperedOverModel", "readWall", "()V"⟩, 29) := ⟨⟨by decide +kernel, by decide +kernel⟩, List.mem_of_getElem? (i := 975) (by decide +kernel), List.mem_of_getElem? (i := 1138) (by decide +kernel), List.mem_of_getElem? (i := 1139) (by decide +kernel)⟩
theorem lw_p12 : lw_okq (⟨"PaperedOverModel", "begins", "(II)V"⟩, 29) := ⟨⟨by decide +kernel, by decide +kernel⟩, List.mem_of_getElem? (i := 975) (by decide +kernel), List.mem_of_getElem? (i := 1142) (by decide +kernel), List.mem_of_getElem? (i := 1143) (by decide +kernel)⟩
theorem lw_p13 : lw_okq (⟨"PaperedOverModel", "must", "(Z)V"⟩, 29) := ⟨⟨by decide +kernel, by decide +kernel⟩, List.mem_of_getElem? (i := 975) (by decide +kernel), List.mem_of_getElem? (i := 1146) (by decide +kernel), List.mem_of_getElem? (i := 1147) (by decide +kernel)⟩
theorem lw_p14 : lw_okq (⟨"PaperedOverModel", "number", "(II)I"⟩, 29) := ⟨⟨by decide +kernel, by decide +kernel⟩, List.mem_of_getElem? (i := 975) (by decide +kernel), List.mem_of_getElem? (i := 1150) (by decide +kernel), List.mem_of_getElem? (i := 1151) (by decide +kernel)⟩
theorem lw_p15 : lw_okq (⟨"PaperedOverModel", "figures", "()I"⟩, 29) := ⟨⟨by decide +kernel, by decide +kernel⟩, List.mem_of_getElem? (i := 975) (by decide +kernel), List.mem_of_getElem? (i := 1154) (by decide +kernel), List.mem_of_getElem? (i := 1155) (by decide +kernel)⟩
def lw_privs_1 : List (MethodName × Nat) := [(⟨"PaperedOver", "found", "(I)I"⟩, 13), (⟨"PaperedOver", "clean", "(I)I"⟩, 13), (⟨"PaperedOver", "learnAnew", "()V"⟩, 13), (⟨"PaperedOver", "areUnlikePapers", "(III)Z"⟩, 13), (⟨"PaperedOver", "isSeen", "(I)Z"⟩, 13), (⟨"PaperedOverModel", "finding", "(I)I"⟩, 29), (⟨"PaperedOverModel", "begin", "()V"⟩, 29), (⟨"PaperedOverModel", "nextToken", "()V"⟩, 29), (⟨"PaperedOverModel", "byteAt", "(I)I"⟩, 29), (⟨"PaperedOverModel", "name", "()J"⟩, 29), (⟨"PaperedOverModel", "bad", "(I)V"⟩, 29), (⟨"PaperedOverModel", "readWall", "()V"⟩, 29), (⟨"PaperedOverModel", "begins", "(II)V"⟩, 29), (⟨"PaperedOverModel", "must", "(Z)V"⟩, 29), (⟨"PaperedOverModel", "number", "(II)I"⟩, 29), (⟨"PaperedOverModel", "figures", "()I"⟩, 29)]
theorem lw_r1 : ∀ q ∈ lw_privs_1, lw_okq q := List.forall_mem_cons.mpr ⟨lw_p0, List.forall_mem_cons.mpr ⟨lw_p1, List.forall_mem_cons.mpr ⟨lw_p2, List.forall_mem_cons.mpr ⟨lw_p3, List.forall_mem_cons.mpr ⟨lw_p4, List.forall_mem_cons.mpr ⟨lw_p5, List.forall_mem_cons.mpr ⟨lw_p6, List.forall_mem_cons.mpr ⟨lw_p7, List.forall_mem_cons.mpr ⟨lw_p8, List.forall_mem_cons.mpr ⟨lw_p9, List.forall_mem_cons.mpr ⟨lw_p10, List.forall_mem_cons.mpr ⟨lw_p11, List.forall_mem_cons.mpr ⟨lw_p12, List.forall_mem_cons.mpr ⟨lw_p13, List.forall_mem_cons.mpr ⟨lw_p14, List.forall_mem_cons.mpr ⟨lw_p15, fun _ h => absurd h List.not_mem_nil⟩⟩⟩⟩⟩⟩⟩⟩⟩⟩⟩⟩⟩⟩⟩⟩
theorem lw_p16 : lw_okq (⟨"PaperedOverModel", "mustEnd", "()V"⟩, 29) := ⟨⟨by decide +kernel, by decide +kernel⟩, List.mem_of_getElem? (i := 975) (by decide +kernel), List.mem_of_getElem? (i := 1158) (by decide +kernel), List.mem_of_getElem? (i := 1159) (by decide +kernel)⟩
theorem lw_p17 : lw_okq (⟨"PaperedOverModel", "readPaper", "()V"⟩, 29) := ⟨⟨by decide +kernel, by decide +kernel⟩, List.mem_of_getElem? (i := 975) (by decide +kernel), List.mem_of_getElem? (i := 1163) (by decide +kernel), List.mem_of_getElem? (i := 1164) (by decide +kernel)⟩
theorem lw_p18 : lw_okq (⟨"PaperedOverModel", "readTenant", "()V"⟩, 29) := ⟨⟨by decide +kernel, by decide +kernel⟩, List.mem_of_getElem? (i := 975) (by decide +kernel), List.mem_of_getElem? (i := 1176) (by decide +kernel), List.mem_of_getElem? (i := 1177) (by decide +kernel)⟩
theorem lw_p19 : lw_okq (⟨"PaperedOverModel", "laySpots", "()V"⟩, 29) := ⟨⟨by decide +kernel, by decide +kernel⟩, List.mem_of_getElem? (i := 975) (by decide +kernel), List.mem_of_getElem? (i := 1181) (by decide +kernel), List.mem_of_getElem? (i := 1182) (by decide +kernel)⟩
theorem lw_p20 : lw_okq (⟨"PaperedOverModel", "manyAt", "(I)I"⟩, 29) := ⟨⟨by decide +kernel, by decide +kernel⟩, List.mem_of_getElem? (i := 975) (by decide +kernel), List.mem_of_getElem? (i := 1185) (by decide +kernel), List.mem_of_getElem? (i := 1186) (by decide +kernel)⟩
theorem lw_p21 : lw_okq (⟨"PaperedOverModel", "lies", "(II)I"⟩, 29) := ⟨⟨by decide +kernel, by decide +kernel⟩, List.mem_of_getElem? (i := 975) (by decide +kernel), List.mem_of_getElem? (i := 1189) (by decide +kernel), List.mem_of_getElem? (i := 1190) (by decide +kernel)⟩
theorem lw_p22 : lw_okq (⟨"PaperedOverModel", "wallOf", "(I)I"⟩, 29) := ⟨⟨by decide +kernel, by decide +kernel⟩, List.mem_of_getElem? (i := 975) (by decide +kernel), List.mem_of_getElem? (i := 1193) (by decide +kernel), List.mem_of_getElem? (i := 1194) (by decide +kernel)⟩
theorem lw_p23 : lw_okq (⟨"PaperedOverModel", "laySure", "()V"⟩, 29) := ⟨⟨by decide +kernel, by decide +kernel⟩, List.mem_of_getElem? (i := 975) (by decide +kernel), List.mem_of_getElem? (i := 1197) (by decide +kernel), List.mem_of_getElem? (i := 1198) (by decide +kernel)⟩
theorem lw_p24 : lw_okq (⟨"PaperedOverModel", "isWall", "(I)Z"⟩, 29) := ⟨⟨by decide +kernel, by decide +kernel⟩, List.mem_of_getElem? (i := 975) (by decide +kernel), List.mem_of_getElem? (i := 1209) (by decide +kernel), List.mem_of_getElem? (i := 1210) (by decide +kernel)⟩
theorem lw_p25 : lw_okq (⟨"PaperedOverModel", "lack", "(III)I"⟩, 29) := ⟨⟨by decide +kernel, by decide +kernel⟩, List.mem_of_getElem? (i := 975) (by decide +kernel), List.mem_of_getElem? (i := 1213) (by decide +kernel), List.mem_of_getElem? (i := 1214) (by decide +kernel)⟩
theorem lw_p26 : lw_okq (⟨"PaperedOverModel", "isPaper", "(I)Z"⟩, 29) := ⟨⟨by decide +kernel, by decide +kernel⟩, List.mem_of_getElem? (i := 975) (by decide +kernel), List.mem_of_getElem? (i := 1217) (by decide +kernel), List.mem_of_getElem? (i := 1218) (by decide +kernel)⟩
theorem lw_p27 : lw_okq (⟨"PaperedOverModel", "isSpot", "(I)Z"⟩, 29) := ⟨⟨by decide +kernel, by decide +kernel⟩, List.mem_of_getElem? (i := 975) (by decide +kernel), List.mem_of_getElem? (i := 1233) (by decide +kernel), List.mem_of_getElem? (i := 1234) (by decide +kernel)⟩
theorem lw_p28 : lw_okq (⟨"PaperedOverModel", "inRings", "()I"⟩, 29) := ⟨⟨by decide +kernel, by decide +kernel⟩, List.mem_of_getElem? (i := 975) (by decide +kernel), List.mem_of_getElem? (i := 1241) (by decide +kernel), List.mem_of_getElem? (i := 1242) (by decide +kernel)⟩
theorem lw_p29 : lw_okq (⟨"PaperedOverModel", "of", "(II)I"⟩, 29) := ⟨⟨by decide +kernel, by decide +kernel⟩, List.mem_of_getElem? (i := 975) (by decide +kernel), List.mem_of_getElem? (i := 1250) (by decide +kernel), List.mem_of_getElem? (i := 1251) (by decide +kernel)⟩
theorem lw_p30 : lw_okq (⟨"PaperedOverModel", "ordersWith", "(II)I"⟩, 29) := ⟨⟨by decide +kernel, by decide +kernel⟩, List.mem_of_getElem? (i := 975) (by decide +kernel), List.mem_of_getElem? (i := 1258) (by decide +kernel), List.mem_of_getElem? (i := 1259) (by decide +kernel)⟩
theorem lw_p31 : lw_okq (⟨"PaperedOverModel", "isSeen", "(I)Z"⟩, 29) := ⟨⟨by decide +kernel, by decide +kernel⟩, List.mem_of_getElem? (i := 975) (by decide +kernel), List.mem_of_getElem? (i := 1270) (by decide +kernel), List.mem_of_getElem? (i := 1271) (by decide +kernel)⟩
def lw_privs_2 : List (MethodName × Nat) := [(⟨"PaperedOverModel", "mustEnd", "()V"⟩, 29), (⟨"PaperedOverModel", "readPaper", "()V"⟩, 29), (⟨"PaperedOverModel", "readTenant", "()V"⟩, 29), (⟨"PaperedOverModel", "laySpots", "()V"⟩, 29), (⟨"PaperedOverModel", "manyAt", "(I)I"⟩, 29), (⟨"PaperedOverModel", "lies", "(II)I"⟩, 29), (⟨"PaperedOverModel", "wallOf", "(I)I"⟩, 29), (⟨"PaperedOverModel", "laySure", "()V"⟩, 29), (⟨"PaperedOverModel", "isWall", "(I)Z"⟩, 29), (⟨"PaperedOverModel", "lack", "(III)I"⟩, 29), (⟨"PaperedOverModel", "isPaper", "(I)Z"⟩, 29), (⟨"PaperedOverModel", "isSpot", "(I)Z"⟩, 29), (⟨"PaperedOverModel", "inRings", "()I"⟩, 29), (⟨"PaperedOverModel", "of", "(II)I"⟩, 29), (⟨"PaperedOverModel", "ordersWith", "(II)I"⟩, 29), (⟨"PaperedOverModel", "isSeen", "(I)Z"⟩, 29)]
theorem lw_r2 : ∀ q ∈ lw_privs_2, lw_okq q := List.forall_mem_cons.mpr ⟨lw_p16, List.forall_mem_cons.mpr ⟨lw_p17, List.forall_mem_cons.mpr ⟨lw_p18, List.forall_mem_cons.mpr ⟨lw_p19, List.forall_mem_cons.mpr ⟨lw_p20, List.forall_mem_cons.mpr ⟨lw_p21, List.forall_mem_cons.mpr ⟨lw_p22, List.forall_mem_cons.mpr ⟨lw_p23, List.forall_mem_cons.mpr ⟨lw_p24, List.forall_mem_cons.mpr ⟨lw_p25, List.forall_mem_cons.mpr ⟨lw_p26, List.forall_mem_cons.mpr ⟨lw_p27, List.forall_mem_cons.mpr ⟨lw_p28, List.forall_mem_cons.mpr ⟨lw_p29, List.forall_mem_cons.mpr ⟨lw_p30, List.forall_mem_cons.mpr ⟨lw_p31, fun _ h => absurd h List.not_mem_nil⟩⟩⟩⟩⟩⟩⟩⟩⟩⟩⟩⟩⟩⟩⟩⟩
theorem lw_p32 : lw_okq (⟨"PaperedOverModel", "layYears", "()V"⟩, 29) := ⟨⟨by decide +kernel, by decide +kernel⟩, List.mem_of_getElem? (i := 975) (by decide +kernel), List.mem_of_getElem? (i := 1285) (by decide +kernel), List.mem_of_getElem? (i := 1286) (by decide +kernel)⟩
theorem lw_p33 : lw_okq (⟨"PaperedOverModel", "wall", "(II)I"⟩, 29) := ⟨⟨by decide +kernel, by decide +kernel⟩, List.mem_of_getElem? (i := 975) (by decide +kernel), List.mem_of_getElem? (i := 1289) (by decide +kernel), List.mem_of_getElem? (i := 1290) (by decide +kernel)⟩
theorem lw_p34 : lw_okq (⟨"PaperedOverModel", "tellsBy", "(II)Z"⟩, 29) := ⟨⟨by decide +kernel, by decide +kernel⟩, List.mem_of_getElem? (i := 975) (by decide +kernel), List.mem_of_getElem? (i := 1318) (by decide +kernel), List.mem_of_getElem? (i := 1319) (by decide +kernel)⟩
theorem lw_p35 : lw_okq (⟨"PaperedOverModel", "painted", "(II)I"⟩, 29) := ⟨⟨by decide +kernel, by decide +kernel⟩, List.mem_of_getElem? (i := 975) (by decide +kernel), List.mem_of_getElem? (i := 1326) (by decide +kernel), List.mem_of_getElem? (i := 1327) (by decide +kernel)⟩
theorem lw_p36 : lw_okq (⟨"PaperedOverModel", "sizeOf", "(I)I"⟩, 29) := ⟨⟨by decide +kernel, by decide +kernel⟩, List.mem_of_getElem? (i := 975) (by decide +kernel), List.mem_of_getElem? (i := 1354) (by decide +kernel), List.mem_of_getElem? (i := 1355) (by decide +kernel)⟩
theorem lw_p37 : lw_okq (⟨"PaperedOverModel", "plainSize", "(I)I"⟩, 29) := ⟨⟨by decide +kernel, by decide +kernel⟩, List.mem_of_getElem? (i := 975) (by decide +kernel), List.mem_of_getElem? (i := 1358) (by decide +kernel), List.mem_of_getElem? (i := 1359) (by decide +kernel)⟩
theorem lw_p38 : lw_okq (⟨"PaperedOverModel", "began", "(I)V"⟩, 29) := ⟨⟨by decide +kernel, by decide +kernel⟩, List.mem_of_getElem? (i := 975) (by decide +kernel), List.mem_of_getElem? (i := 1362) (by decide +kernel), List.mem_of_getElem? (i := 1363) (by decide +kernel)⟩
theorem lw_p39 : lw_okq (⟨"PaperedOverModel", "markOf", "(I)I"⟩, 29) := ⟨⟨by decide +kernel, by decide +kernel⟩, List.mem_of_getElem? (i := 975) (by decide +kernel), List.mem_of_getElem? (i := 1366) (by decide +kernel), List.mem_of_getElem? (i := 1367) (by decide +kernel)⟩
def lw_privs_3 : List (MethodName × Nat) := [(⟨"PaperedOverModel", "layYears", "()V"⟩, 29), (⟨"PaperedOverModel", "wall", "(II)I"⟩, 29), (⟨"PaperedOverModel", "tellsBy", "(II)Z"⟩, 29), (⟨"PaperedOverModel", "painted", "(II)I"⟩, 29), (⟨"PaperedOverModel", "sizeOf", "(I)I"⟩, 29), (⟨"PaperedOverModel", "plainSize", "(I)I"⟩, 29), (⟨"PaperedOverModel", "began", "(I)V"⟩, 29), (⟨"PaperedOverModel", "markOf", "(I)I"⟩, 29)]
theorem lw_r3 : ∀ q ∈ lw_privs_3, lw_okq q := List.forall_mem_cons.mpr ⟨lw_p32, List.forall_mem_cons.mpr ⟨lw_p33, List.forall_mem_cons.mpr ⟨lw_p34, List.forall_mem_cons.mpr ⟨lw_p35, List.forall_mem_cons.mpr ⟨lw_p36, List.forall_mem_cons.mpr ⟨lw_p37, List.forall_mem_cons.mpr ⟨lw_p38, List.forall_mem_cons.mpr ⟨lw_p39, fun _ h => absurd h List.not_mem_nil⟩⟩⟩⟩⟩⟩⟩⟩
def lw_privs : List (MethodName × Nat) := lw_privs_1 ++ (lw_privs_2 ++ (lw_privs_3))
def lw_tbl : List Cond := k2_sels lw_privs ++ tables_1
theorem lw_privs_ok : ∀ q ∈ lw_privs, lw_okq q := by
  show ∀ q ∈ lw_privs_1 ++ (lw_privs_2 ++ (lw_privs_3)), lw_okq q
  exact List.forall_mem_append.mpr ⟨lw_r1, List.forall_mem_append.mpr ⟨lw_r2, lw_r3⟩⟩
end
section
def rc_0 : String := "PaperedOver"
def tc_0 : u_T := fun k => match k with
  | 0 => ("PaperedOver", "rows", "LPaperedOver$Rows;", true)
  | 1 => ("PaperedOver", "tape", "LPaperedOver$Tape;", true)
  | 2 => ("PaperedOver", "reader", "LPaperedOver$Reader;", true)
  | 3 => ("PaperedOver", "house", "LPaperedOver$House;", true)
  | 4 => ("PaperedOver", "spots", "LPaperedOver$Spots;", true)
  | 5 => ("PaperedOver", "imageA", "LPaperedOver$Image;", true)
  | 6 => ("PaperedOver", "imageB", "LPaperedOver$Image;", true)
  | 7 => ("PaperedOver", "facts", "LPaperedOver$Facts;", true)
  | 8 => ("PaperedOver", "parted", "LPaperedOver$Orders;", true)
  | 9 => ("PaperedOver", "cutter", "LPaperedOver$Cutter;", true)
  | 10 => ("PaperedOver", "bodies", "LPaperedOver$Bodies;", true)
  | 11 => ("PaperedOver", "latestFault", "I", false)
  | _ => ("PaperedOver", "latestFinding", "I", false)
def yc_0 : Nat → FieldType := fun k => match k with
  | 0 => .object "PaperedOver$Rows"
  | 1 => .object "PaperedOver$Tape"
  | 2 => .object "PaperedOver$Reader"
  | 3 => .object "PaperedOver$House"
  | 4 => .object "PaperedOver$Spots"
  | 5 => .object "PaperedOver$Image"
  | 6 => .object "PaperedOver$Image"
  | 7 => .object "PaperedOver$Facts"
  | 8 => .object "PaperedOver$Orders"
  | 9 => .object "PaperedOver$Cutter"
  | 10 => .object "PaperedOver$Bodies"
  | 11 => .int
  | _ => .int
theorem nc_0 : ∀ a, a < 13 → ∀ b, b < 13 → a ≠ b → (tc_0 a).2.1 ≠ (tc_0 b).2.1 := by decide +kernel
theorem yo_0 : ∀ k, k < 13 → parseFieldDescriptor (tc_0 k).2.2.1 = some (yc_0 k) := by decide +kernel
def rc_1 : String := "PaperedOver$Rows"
def tc_1 : u_T := fun k => match k with
  | 0 => ("PaperedOver$Rows", "there", "[Z", true)
  | 1 => ("PaperedOver$Rows", "lanes", "[I", true)
  | 2 => ("PaperedOver$Rows", "sizes", "[I", true)
  | _ => ("PaperedOver$Rows", "items", "[I", true)
def yc_1 : Nat → FieldType := fun k => match k with
  | 0 => .array .boolean
  | 1 => .array .int
  | 2 => .array .int
  | _ => .array .int
theorem nc_1 : ∀ a, a < 4 → ∀ b, b < 4 → a ≠ b → (tc_1 a).2.1 ≠ (tc_1 b).2.1 := by decide +kernel
theorem yo_1 : ∀ k, k < 4 → parseFieldDescriptor (tc_1 k).2.2.1 = some (yc_1 k) := by decide +kernel
def rc_2 : String := "PaperedOver$Tape"
def tc_2 : u_T := fun k => match k with
  | 0 => ("PaperedOver$Tape", "bytes", "[I", true)
  | _ => ("PaperedOver$Tape", "length", "I", false)
def yc_2 : Nat → FieldType := fun k => match k with
  | 0 => .array .int
  | _ => .int
theorem nc_2 : ∀ a, a < 2 → ∀ b, b < 2 → a ≠ b → (tc_2 a).2.1 ≠ (tc_2 b).2.1 := by decide +kernel
theorem yo_2 : ∀ k, k < 2 → parseFieldDescriptor (tc_2 k).2.2.1 = some (yc_2 k) := by decide +kernel
def rc_3 : String := "PaperedOver$Reader"
def tc_3 : u_T := fun k => match k with
  | 0 => ("PaperedOver$Reader", "tape", "LPaperedOver$Tape;", true)
  | 1 => ("PaperedOver$Reader", "draft", "LPaperedOver$House;", true)
  | 2 => ("PaperedOver$Reader", "sort", "I", false)
  | 3 => ("PaperedOver$Reader", "begin", "I", false)
  | 4 => ("PaperedOver$Reader", "end", "I", false)
  | 5 => ("PaperedOver$Reader", "value", "I", false)
  | 6 => ("PaperedOver$Reader", "fault", "I", false)
  | _ => ("PaperedOver$Reader", "place", "I", false)
def yc_3 : Nat → FieldType := fun k => match k with
  | 0 => .object "PaperedOver$Tape"
  | 1 => .object "PaperedOver$House"
  | 2 => .int
  | 3 => .int
  | 4 => .int
  | 5 => .int
  | 6 => .int
  | _ => .int
theorem nc_3 : ∀ a, a < 8 → ∀ b, b < 8 → a ≠ b → (tc_3 a).2.1 ≠ (tc_3 b).2.1 := by decide +kernel
theorem yo_3 : ∀ k, k < 8 → parseFieldDescriptor (tc_3 k).2.2.1 = some (yc_3 k) := by decide +kernel
def rc_4 : String := "PaperedOver$House"
def tc_4 : u_T := fun k => match k with
  | 0 => ("PaperedOver$House", "walls", "I", false)
  | 1 => ("PaperedOver$House", "built", "[I", true)
  | 2 => ("PaperedOver$House", "wide", "[I", true)
  | 3 => ("PaperedOver$House", "high", "[I", true)
  | 4 => ("PaperedOver$House", "papers", "I", false)
  | 5 => ("PaperedOver$House", "kinds", "[I", true)
  | 6 => ("PaperedOver$House", "made", "[I", true)
  | 7 => ("PaperedOver$House", "last", "[I", true)
  | 8 => ("PaperedOver$House", "prices", "[I", true)
  | 9 => ("PaperedOver$House", "repeats", "[I", true)
  | 10 => ("PaperedOver$House", "tenants", "I", false)
  | 11 => ("PaperedOver$House", "from", "[I", true)
  | 12 => ("PaperedOver$House", "to", "[I", true)
  | _ => ("PaperedOver$House", "means", "[I", true)
def yc_4 : Nat → FieldType := fun k => match k with
  | 0 => .int
  | 1 => .array .int
  | 2 => .array .int
  | 3 => .array .int
  | 4 => .int
  | 5 => .array .int
  | 6 => .array .int
  | 7 => .array .int
  | 8 => .array .int
  | 9 => .array .int
  | 10 => .int
  | 11 => .array .int
  | 12 => .array .int
  | _ => .array .int
theorem nc_4 : ∀ a, a < 14 → ∀ b, b < 14 → a ≠ b → (tc_4 a).2.1 ≠ (tc_4 b).2.1 := by decide +kernel
theorem yo_4 : ∀ k, k < 14 → parseFieldDescriptor (tc_4 k).2.2.1 = some (yc_4 k) := by decide +kernel
def rc_5 : String := "PaperedOver$Spots"
def tc_5 : u_T := fun k => match k with
  | 0 => ("PaperedOver$Spots", "number", "I", false)
  | 1 => ("PaperedOver$Spots", "walls", "[I", true)
  | 2 => ("PaperedOver$Spots", "depths", "[I", true)
  | _ => ("PaperedOver$Spots", "layers", "[I", true)
def yc_5 : Nat → FieldType := fun k => match k with
  | 0 => .int
  | 1 => .array .int
  | 2 => .array .int
  | _ => .array .int
theorem nc_5 : ∀ a, a < 4 → ∀ b, b < 4 → a ≠ b → (tc_5 a).2.1 ≠ (tc_5 b).2.1 := by decide +kernel
theorem yo_5 : ∀ k, k < 4 → parseFieldDescriptor (tc_5 k).2.2.1 = some (yc_5 k) := by decide +kernel
def rc_6 : String := "PaperedOver$Image"
def tc_6 : u_T := fun k => match k with
  | 0 => ("PaperedOver$Image", "house", "LPaperedOver$House;", true)
  | _ => ("PaperedOver$Image", "spots", "LPaperedOver$Spots;", true)
def yc_6 : Nat → FieldType := fun k => match k with
  | 0 => .object "PaperedOver$House"
  | _ => .object "PaperedOver$Spots"
theorem nc_6 : ∀ a, a < 2 → ∀ b, b < 2 → a ≠ b → (tc_6 a).2.1 ≠ (tc_6 b).2.1 := by decide +kernel
theorem yo_6 : ∀ k, k < 2 → parseFieldDescriptor (tc_6 k).2.2.1 = some (yc_6 k) := by decide +kernel
def rc_7 : String := "PaperedOver$Facts"
def tc_7 : u_T := fun k => match k with
  | 0 => ("PaperedOver$Facts", "house", "LPaperedOver$House;", true)
  | 1 => ("PaperedOver$Facts", "spots", "LPaperedOver$Spots;", true)
  | 2 => ("PaperedOver$Facts", "seen", "I", false)
  | 3 => ("PaperedOver$Facts", "ring", "I", false)
  | 4 => ("PaperedOver$Facts", "on", "[I", true)
  | 5 => ("PaperedOver$Facts", "ahead", "[I", true)
  | 6 => ("PaperedOver$Facts", "sure", "[I", true)
  | 7 => ("PaperedOver$Facts", "earliest", "[I", true)
  | 8 => ("PaperedOver$Facts", "placed", "I", false)
  | 9 => ("PaperedOver$Facts", "least", "[I", true)
  | _ => ("PaperedOver$Facts", "most", "[I", true)
def yc_7 : Nat → FieldType := fun k => match k with
  | 0 => .object "PaperedOver$House"
  | 1 => .object "PaperedOver$Spots"
  | 2 => .int
  | 3 => .int
  | 4 => .array .int
  | 5 => .array .int
  | 6 => .array .int
  | 7 => .array .int
  | 8 => .int
  | 9 => .array .int
  | _ => .array .int
theorem nc_7 : ∀ a, a < 11 → ∀ b, b < 11 → a ≠ b → (tc_7 a).2.1 ≠ (tc_7 b).2.1 := by decide +kernel
theorem yo_7 : ∀ k, k < 11 → parseFieldDescriptor (tc_7 k).2.2.1 = some (yc_7 k) := by decide +kernel
def rc_8 : String := "PaperedOver$Orders"
def tc_8 : u_T := fun k => match k with
  | 0 => ("PaperedOver$Orders", "facts", "LPaperedOver$Facts;", true)
  | 1 => ("PaperedOver$Orders", "counted", "Z", false)
  | 2 => ("PaperedOver$Orders", "begun", "[I", true)
  | 3 => ("PaperedOver$Orders", "ended", "[I", true)
  | _ => ("PaperedOver$Orders", "pairs", "[I", true)
def yc_8 : Nat → FieldType := fun k => match k with
  | 0 => .object "PaperedOver$Facts"
  | 1 => .boolean
  | 2 => .array .int
  | 3 => .array .int
  | _ => .array .int
theorem nc_8 : ∀ a, a < 5 → ∀ b, b < 5 → a ≠ b → (tc_8 a).2.1 ≠ (tc_8 b).2.1 := by decide +kernel
theorem yo_8 : ∀ k, k < 5 → parseFieldDescriptor (tc_8 k).2.2.1 = some (yc_8 k) := by decide +kernel
def rc_9 : String := "PaperedOver$Cutter"
def tc_9 : u_T := fun k => match k with
  | 0 => ("PaperedOver$Cutter", "strips", "I", false)
  | 1 => ("PaperedOver$Cutter", "used", "I", false)
  | _ => ("PaperedOver$Cutter", "left", "I", false)
def yc_9 : Nat → FieldType := fun k => match k with
  | 0 => .int
  | 1 => .int
  | _ => .int
theorem nc_9 : ∀ a, a < 3 → ∀ b, b < 3 → a ≠ b → (tc_9 a).2.1 ≠ (tc_9 b).2.1 := by decide +kernel
theorem yo_9 : ∀ k, k < 3 → parseFieldDescriptor (tc_9 k).2.2.1 = some (yc_9 k) := by decide +kernel
def rc_10 : String := "PaperedOver$Bodies"
def tc_10 : u_T := fun k => match k with
  | 0 => ("PaperedOver$Bodies", "trace", "[I", true)
  | _ => ("PaperedOver$Bodies", "begun", "I", false)
def yc_10 : Nat → FieldType := fun k => match k with
  | 0 => .array .int
  | _ => .int
theorem nc_10 : ∀ a, a < 2 → ∀ b, b < 2 → a ≠ b → (tc_10 a).2.1 ≠ (tc_10 b).2.1 := by decide +kernel
theorem yo_10 : ∀ k, k < 2 → parseFieldDescriptor (tc_10 k).2.2.1 = some (yc_10 k) := by decide +kernel
def rc_11 : String := "PaperedOverModel"
def tc_11 : u_T := fun k => match k with
  | 0 => ("PaperedOverModel", "thrown", "I", false)
  | 1 => ("PaperedOverModel", "status", "I", false)
  | 2 => ("PaperedOverModel", "lane", "[I", true)
  | 3 => ("PaperedOverModel", "many", "[I", true)
  | 4 => ("PaperedOverModel", "item", "[I", true)
  | 5 => ("PaperedOverModel", "house", "[I", true)
  | 6 => ("PaperedOverModel", "fresh", "[I", true)
  | 7 => ("PaperedOverModel", "isThere", "Z", false)
  | 8 => ("PaperedOverModel", "tape", "[I", true)
  | 9 => ("PaperedOverModel", "taped", "I", false)
  | 10 => ("PaperedOverModel", "latest", "I", false)
  | 11 => ("PaperedOverModel", "length", "I", false)
  | 12 => ("PaperedOverModel", "cursor", "I", false)
  | 13 => ("PaperedOverModel", "token", "I", false)
  | 14 => ("PaperedOverModel", "start", "I", false)
  | 15 => ("PaperedOverModel", "till", "I", false)
  | 16 => ("PaperedOverModel", "fault", "I", false)
  | 17 => ("PaperedOverModel", "faultAt", "I", false)
  | 18 => ("PaperedOverModel", "seen", "I", false)
  | 19 => ("PaperedOverModel", "on", "[I", true)
  | 20 => ("PaperedOverModel", "ahead", "[I", true)
  | 21 => ("PaperedOverModel", "sure", "[I", true)
  | 22 => ("PaperedOverModel", "ways", "[I", true)
  | 23 => ("PaperedOverModel", "least", "[I", true)
  | 24 => ("PaperedOverModel", "most", "[I", true)
  | 25 => ("PaperedOverModel", "isKept", "[Z", true)
  | 26 => ("PaperedOverModel", "kept", "[I", true)
  | 27 => ("PaperedOverModel", "trace", "[I", true)
  | _ => ("PaperedOverModel", "traced", "I", false)
def yc_11 : Nat → FieldType := fun k => match k with
  | 0 => .int
  | 1 => .int
  | 2 => .array .int
  | 3 => .array .int
  | 4 => .array .int
  | 5 => .array .int
  | 6 => .array .int
  | 7 => .boolean
  | 8 => .array .int
  | 9 => .int
  | 10 => .int
  | 11 => .int
  | 12 => .int
  | 13 => .int
  | 14 => .int
  | 15 => .int
  | 16 => .int
  | 17 => .int
  | 18 => .int
  | 19 => .array .int
  | 20 => .array .int
  | 21 => .array .int
  | 22 => .array .int
  | 23 => .array .int
  | 24 => .array .int
  | 25 => .array .boolean
  | 26 => .array .int
  | 27 => .array .int
  | _ => .int
theorem nc_11 : ∀ a, a < 29 → ∀ b, b < 29 → a ≠ b → (tc_11 a).2.1 ≠ (tc_11 b).2.1 := by decide +kernel
theorem yo_11 : ∀ k, k < 29 → parseFieldDescriptor (tc_11 k).2.2.1 = some (yc_11 k) := by decide +kernel
def am_cls : List vw_C := [(rc_0, tc_0, 13), (rc_1, tc_1, 4), (rc_2, tc_2, 2), (rc_3, tc_3, 8), (rc_4, tc_4, 14), (rc_5, tc_5, 4), (rc_6, tc_6, 2), (rc_7, tc_7, 11), (rc_8, tc_8, 5), (rc_9, tc_9, 3), (rc_10, tc_10, 2), (rc_11, tc_11, 29)]
/-- of each kind the fields of its object: a number, or the cell that it always holds -/
def am_ob : Nat → List (Option (Nat → Nat × Nat × Nat))
  | 0 => [some (fun j => (1, 0, 0)), some (fun j => (2, 0, 0)), some (fun j => (3, 0, 0)), some (fun j => (4, 0, 0)), some (fun j => (5, 0, 0)), some (fun j => (6, 0, 0)), some (fun j => (6, 1, 0)), some (fun j => (7, 0, 0)), some (fun j => (8, 0, 0)), some (fun j => (9, 0, 0)), some (fun j => (10, 0, 0)), none, none]
  | 1 => [some (fun j => (1, j, 1)), some (fun j => (1, j, 2)), some (fun j => (1, j, 3)), some (fun j => (1, j, 4))]
  | 2 => [some (fun j => (2, j, 1)), none]
  | 3 => [some (fun j => (2, 0, 0)), some (fun j => (4, 1, 0)), none, none, none, none, none, none]
  | 4 => [none, some (fun j => (4, j, 1)), some (fun j => (4, j, 2)), some (fun j => (4, j, 3)), none, some (fun j => (4, j, 4)), some (fun j => (4, j, 5)), some (fun j => (4, j, 6)), some (fun j => (4, j, 7)), some (fun j => (4, j, 8)), none, some (fun j => (4, j, 9)), some (fun j => (4, j, 10)), some (fun j => (4, j, 11))]
  | 5 => [none, some (fun j => (5, j, 1)), some (fun j => (5, j, 2)), some (fun j => (5, j, 3))]
  | 6 => [some (fun j => (4, 2 + j, 0)), some (fun j => (5, 1 + j, 0))]
  | 7 => [some (fun j => (4, 0, 0)), some (fun j => (5, 0, 0)), none, none, some (fun j => (7, j, 1)), some (fun j => (7, j, 2)), some (fun j => (7, j, 3)), some (fun j => (7, j, 4)), none, some (fun j => (7, j, 5)), some (fun j => (7, j, 6))]
  | 8 => [some (fun j => (7, 0, 0)), none, some (fun j => (8, j, 1)), some (fun j => (8, j, 2)), some (fun j => (8, j, 3))]
  | 9 => [none, none, none]
  | 10 => [some (fun j => (10, j, 1)), none]
  | 11 => [none, none, some (fun j => (11, j, 1)), some (fun j => (11, j, 2)), some (fun j => (11, j, 3)), some (fun j => (11, j, 4)), some (fun j => (11, j, 5)), none, some (fun j => (11, j, 6)), none, none, none, none, none, none, none, none, none, none, some (fun j => (11, j, 7)), some (fun j => (11, j, 8)), some (fun j => (11, j, 9)), some (fun j => (11, j, 10)), some (fun j => (11, j, 11)), some (fun j => (11, j, 12)), some (fun j => (11, j, 13)), some (fun j => (11, j, 14)), some (fun j => (11, j, 15)), none]
  | _ => []
/-- of each kind its arrays: whether of booleans, and how long -/
def am_ar : Nat → List (Bool × Nat)
  | 1 => [(true, 8), (false, 8), (false, 8), (false, 320)]
  | 2 => [(false, 500)]
  | 4 => [(false, 8), (false, 8), (false, 8), (false, 10), (false, 10), (false, 10), (false, 10), (false, 10), (false, 10), (false, 10), (false, 10)]
  | 5 => [(false, 9), (false, 9), (false, 72)]
  | 7 => [(false, 8), (false, 10), (false, 10), (false, 10), (false, 10), (false, 10)]
  | 8 => [(false, 1024), (false, 1024), (false, 100)]
  | 10 => [(false, 16)]
  | 11 => [(false, 8), (false, 8), (false, 320), (false, 198), (false, 198), (false, 500), (false, 8), (false, 10), (false, 10), (false, 1024), (false, 10), (false, 10), (true, 2), (false, 396), (false, 16)]
  | _ => []
/-- all cells -/
def am_all : List (Nat × Nat × Nat) := [(0, 0, 0), (1, 0, 0), (1, 0, 1), (1, 0, 2), (1, 0, 3), (1, 0, 4), (2, 0, 0), (2, 0, 1), (3, 0, 0), (4, 0, 0), (4, 0, 1), (4, 0, 2), (4, 0, 3), (4, 0, 4), (4, 0, 5), (4, 0, 6), (4, 0, 7), (4, 0, 8), (4, 0, 9), (4, 0, 10), (4, 0, 11), (4, 1, 0), (4, 1, 1), (4, 1, 2), (4, 1, 3), (4, 1, 4), (4, 1, 5), (4, 1, 6), (4, 1, 7), (4, 1, 8), (4, 1, 9), (4, 1, 10), (4, 1, 11), (4, 2, 0), (4, 2, 1), (4, 2, 2), (4, 2, 3), (4, 2, 4), (4, 2, 5), (4, 2, 6), (4, 2, 7), (4, 2, 8), (4, 2, 9), (4, 2, 10), (4, 2, 11), (4, 3, 0), (4, 3, 1), (4, 3, 2), (4, 3, 3), (4, 3, 4), (4, 3, 5), (4, 3, 6), (4, 3, 7), (4, 3, 8), (4, 3, 9), (4, 3, 10), (4, 3, 11), (5, 0, 0), (5, 0, 1), (5, 0, 2), (5, 0, 3), (5, 1, 0), (5, 1, 1), (5, 1, 2), (5, 1, 3), (5, 2, 0), (5, 2, 1), (5, 2, 2), (5, 2, 3), (6, 0, 0), (6, 1, 0), (7, 0, 0), (7, 0, 1), (7, 0, 2), (7, 0, 3), (7, 0, 4), (7, 0, 5), (7, 0, 6), (8, 0, 0), (8, 0, 1), (8, 0, 2), (8, 0, 3), (9, 0, 0), (10, 0, 0), (10, 0, 1), (11, 0, 0), (11, 0, 1), (11, 0, 2), (11, 0, 3), (11, 0, 4), (11, 0, 5), (11, 0, 6), (11, 0, 7), (11, 0, 8), (11, 0, 9), (11, 0, 10), (11, 0, 11), (11, 0, 12), (11, 0, 13), (11, 0, 14), (11, 0, 15)]
/-- a field that holds a boolean -/
def am_fb (k s : Nat) : Bool := (k == 8 && s == 1) || (k == 11 && s == 7)
end
section
/-! THE ABSTRACT MACHINE: values are numbers and cells named by (kind, which, place); the memory holds numbers alone -/
abbrev am_V : Type := (Nat × Nat × Nat) ⊕ (Int32 ⊕ Int64)
abbrev aR (k j o : Nat) : am_V := Sum.inl (k, j, o)
abbrev aI (x : Int32) : am_V := Sum.inr (Sum.inl x)
abbrev aL (x : Int64) : am_V := Sum.inr (Sum.inr x)
abbrev am_M : Type := Nat → Nat → Nat → Nat → Int32
abbrev am_L : Type := List (Option am_V)
/-- an entry of a pool: a field (kind, slot), a call (method, arguments, receiver's kind), an int, a long, a reference, a field of a text, arraycopy -/
abbrev am_N : Type := (Nat × Nat) ⊕ ((Nat × Nat × Nat) ⊕ (Int32 ⊕ (Int64 ⊕ (am_V ⊕ (Nat ⊕ Unit)))))
abbrev eF (c s : Nat) : am_N := Sum.inl (c, s)
abbrev eC (n a k : Nat) : am_N := Sum.inr (Sum.inl (n, a, k))
abbrev eI (x : Int32) : am_N := Sum.inr (Sum.inr (Sum.inl x))
abbrev eL (x : Int64) : am_N := Sum.inr (Sum.inr (Sum.inr (Sum.inl x)))
abbrev eR (v : am_V) : am_N := Sum.inr (Sum.inr (Sum.inr (Sum.inr (Sum.inl v))))
abbrev eT (n : Nat) : am_N := Sum.inr (Sum.inr (Sum.inr (Sum.inr (Sum.inr (Sum.inl n)))))
abbrev eX : am_N := Sum.inr (Sum.inr (Sum.inr (Sum.inr (Sum.inr (Sum.inr ())))))
/-- a row of code: its place, the instruction, numbers (locals, targets), its entry -/
abbrev am_E : Type := Nat × Instr × List Nat × Option am_N
def sA (M : am_M) (k j o : Nat) (f : Nat → Int32) : am_M := fun a b c => if a = k ∧ b = j ∧ c = o then f else M a b c
/-- static tables and texts -/
def am_sc : Nat → List Int32
  | 0 => [-1, 0, 0, 2, 1, 0]
  | 1 => [10, 11, 13, 14, 12, 10]
  | _ => [20, 21, 22, 22, 24, 23]
def am_sa : Nat → String × String
  | 0 => ("PaperedOver$House", "ALSO")
  | 1 => ("PaperedOver$Bodies", "SIZES")
  | _ => ("PaperedOver$Bodies", "MARKS")
def am_sl : List Nat := [4, 5, 6, 5, 5, 4, 4, 5]
def am_sb : List (List Int32) := [[119, 97, 108, 108], [112, 97, 112, 101, 114], [116, 101, 110, 97, 110, 116], [112, 108, 97, 105, 110], [115, 116, 97, 109, 112], [110, 101, 119, 115], [114, 101, 115, 116], [112, 97, 105, 110, 116]]
def am_si : Nat → Nat
  | 0 => 57 | 1 => 63 | 2 => 65 | 3 => 106 | 4 => 108 | 5 => 110 | 6 => 112 | _ => 114
def am_sx : Nat → String
  | 0 => "wall" | 1 => "paper" | 2 => "tenant" | 3 => "plain" | 4 => "stamp" | 5 => "news" | 6 => "rest" | _ => "paint"
def am_ro : List (Nat × Nat × Nat) := [(12, 0, 0), (12, 0, 1), (12, 0, 2), (13, 0, 0), (13, 0, 1), (13, 0, 2), (13, 0, 3), (13, 0, 4), (13, 0, 5), (13, 0, 6), (13, 0, 7), (14, 0, 0), (14, 0, 1), (14, 0, 2), (14, 0, 3), (14, 0, 4), (14, 0, 5), (14, 0, 6), (14, 0, 7), (15, 0, 0), (16, 0, 0)]
def am_vl : am_V → Prop := fun v => match v with
  | Sum.inl q => q ∈ am_all ∨ q ∈ am_ro
  | Sum.inr _ => True
/-! the machine's values -/
def cv (ad : Nat × Nat × Nat → Nat) (fv : Value) : am_V → Value := fun v => match v with
  | Sum.inl q => if q.1 = 15 then fv else .ref (ad q)
  | Sum.inr (Sum.inl x) => .int x
  | Sum.inr (Sum.inr x) => .long x
def am_fl (ad : Nat × Nat × Nat → Nat) (M : am_M) (k j : Nat) : Nat → List (Option (Nat → Nat × Nat × Nat)) → List Value
  | _, [] => []
  | i, none :: t => .int (M k j 0 i) :: am_fl ad M k j (i + 1) t
  | i, some g :: t => .ref (ad (g j)) :: am_fl ad M k j (i + 1) t
def am_cell (ad : Nat × Nat × Nat → Nat) (cI cZ : ClassId) (M : am_M) (q : Nat × Nat × Nat) : va_E := match q.2.2 with
  | 0 => .inr (q.1, am_fl ad M q.1 q.2.1 0 (am_ob q.1))
  | o + 1 => match (am_ar q.1)[o]? with
    | some bn => .inl (if bn.1 then cZ else cI, bn.2, .inl (M q.1 q.2.1 (o + 1)))
    | none => .inl (cI, 0, .inl (fun _ => 0))
def am_wl (ad : Nat × Nat × Nat → Nat) (cI cZ : ClassId) (M : am_M) : va_W := am_all.map (fun q => (ad q, am_cell ad cI cZ M q))
def am_Af (ad : Nat × Nat × Nat → Nat) : Nat → Prop := fun a => ∃ q, q ∈ am_all ∧ ad q = a
def gtb : List Cond := lw_tbl.filter goodWord
theorem gm {w : Cond} (i : Nat) (h : lw_tbl[i]? = some w) (g : goodWord w = true) : w ∈ gtb := List.mem_filter.mpr ⟨List.mem_of_getElem? h, g⟩
theorem gtb_good : GoodIn gtb gtb := fun w h => ⟨h, good_of_word (List.mem_filter.mp h).2⟩
def am_nw : List Cond := [.methodLinkNest "PaperedOver$Facts" 99 ⟨"PaperedOver", "has", "(II)Z"⟩ "PaperedOver", .methodLinkNest "PaperedOver$Orders" 51 ⟨"PaperedOver", "has", "(II)Z"⟩ "PaperedOver", .methodLinkNest "PaperedOver$House" 81 ⟨"PaperedOver", "has", "(II)Z"⟩ "PaperedOver", .methodLinkNest "PaperedOver$Cutter" 38 ⟨"PaperedOver", "has", "(II)Z"⟩ "PaperedOver", .methodLinkNest "PaperedOver$Cutter" 29 ⟨"PaperedOver", "partsUp", "(II)I"⟩ "PaperedOver"]
def am_Ev (ad : Nat × Nat × Nat → Nat) (fv : Value) (A : Nat → Prop) (U : State) (H : Heap) : Prop :=
  (∀ w ∈ am_nw, va_Nw w U) ∧
  (∀ i, i < 3 → va_Z (am_sa i).1 (am_sa i).2 "[I" (.ref (ad (12, 0, i))) A U H ∧ va_T .int (ad (12, 0, i)) 6 (fun j => .int ((am_sc i).getD j 0)) A U H) ∧
  va_Z "java/lang/String" "COMPACT_STRINGS" "Z" (.int 1) A U H ∧ va_Z "jdk/internal/util/Preconditions" "SIOOBE_FORMATTER" "Ljava/util/function/BiFunction;" fv A U H ∧ (fv = .null ∨ ∃ t : Nat, fv = .ref t) ∧
  vk_S 8 am_sl am_sb (fun i => ad (13, 0, i)) (fun i => ad (14, 0, i)) A U H ∧ ∀ i, i < 8 → vk_R "PaperedOver$Reader" (am_si i) (am_sx i) (ad (13, 0, i)) U
theorem am_nw_warm {s U : State} (hW : s.WarmedH U.vm) (h : ∀ w ∈ am_nw, va_Nw w s) : ∀ w ∈ am_nw, va_Nw w U := by
  intro w hw
  have h1 := h w hw
  simp only [am_nw, List.mem_cons, List.not_mem_nil, or_false] at hw
  rcases hw with rfl | rfl | rfl | rfl | rfl <;> exact va_Nw.warmM hW h1
theorem am_nw_same {s U : State} (hv : s.vm = U.vm) (h : ∀ w ∈ am_nw, va_Nw w s) : ∀ w ∈ am_nw, va_Nw w U := by
  intro w hw
  have h1 := h w hw
  simp only [am_nw, List.mem_cons, List.not_mem_nil, or_false] at hw
  rcases hw with rfl | rfl | rfl | rfl | rfl <;> exact va_Nw.same rfl hv h1
theorem am_Ev.go {ad : Nat × Nat × Nat → Nat} {fv : Value} {A B : Nat → Prop} {s U : State} {H : Heap} {locs : List Loc} (h : am_Ev ad fv A s s.heap) (hS : va_S A s.heap H locs) (hU : U.heap = H) (hW : s.WarmedH U.vm) (hAB : ∀ q, B q → A q) : am_Ev ad fv B U U.heap := by
  obtain ⟨h1, h2, h3, h4, h5, h6, h7⟩ := h
  rw [hU]
  exact ⟨am_nw_warm hW h1, fun i hi => ⟨(((h2 i hi).1.kept hS.2.1).moved hW.alike).narrow hAB, (((h2 i hi).2.kept hS.2.1).moved hW.alike).narrow hAB⟩, ((h3.kept hS.2.1).moved hW.alike).narrow hAB, ((h4.kept hS.2.1).moved hW.alike).narrow hAB, h5, ((h6.kept hS.2.1).moved hW.alike).narrow hAB, fun i hi => (h7 i hi).warm hW⟩
theorem am_Ev.call {ad : Nat × Nat × Nat → Nat} {fv : Value} {A : Nat → Prop} {U : State} {g : JFrame} {mk : MethodId} {a : Array Value} (h : am_Ev ad fv A U U.heap) : am_Ev ad fv A (U.calling g mk a) (U.calling g mk a).heap := by
  obtain ⟨h1, h2, h3, h4, h5, h6, h7⟩ := h
  exact ⟨am_nw_same (s := U) (U := U.calling g mk a) rfl h1, fun i hi => ⟨(h2 i hi).1.moved (Vm.Alike.refl U.vm), (h2 i hi).2.moved (Vm.Alike.refl U.vm)⟩, h3.moved (Vm.Alike.refl U.vm), h4.moved (Vm.Alike.refl U.vm), h5, h6.moved (Vm.Alike.refl U.vm), fun i hi => (h7 i hi).same rfl⟩
/-! contracts -/
abbrev am_T : Type := MethodName × ByteArray × Nat × Option FieldType
def am_rm (d : Nat) : Room := { frames := d, cells := 0, slots := 0, locals := 64 * d }
def am_ws (t : am_T) : List Cond := .code t.1 t.2.1 t.2.2.1 t.2.2.2 :: gtb
def am_B (D : va_G) (ad : Nat × Nat × Nat → Nat) (fv : Value) (cI cZ : ClassId) (M : am_M) (U : State) : Prop :=
  va_P D am_cls (am_wl ad cI cZ M) U.heap ∧ va_D (am_Af ad) (am_wl ad cI cZ M) ∧ va_K D am_cls [(cI, .int), (cZ, .boolean)] U ∧ am_Ev ad fv (am_Af ad) U U.heap
def am_Q (D : va_G) (ad : Nat × Nat × Nat → Nat) (fv : Value) (cI cZ : ClassId) (Po : Option am_V → am_M → Prop) : Array Value → State → Outcome → State → Prop :=
  fun _ st oc t => ∃ (r : Option am_V) (M2 : am_M), Po r M2 ∧ oc = .returned (r.map (cv ad fv)) ∧ va_P D am_cls (am_wl ad cI cZ M2) t.heap ∧ va_F (am_Af ad) st t
/-- a contract: from the memory M the method comes to its end with an answer and a memory as Po wants them -/
def am_Con (d : Nat) (t : am_T) (as : List am_V) (M : am_M) (Po : Option am_V → am_M → Prop) : Prop :=
  ∀ (l : Launch) (D : va_G) (ad : Nat × Nat × Nat → Nat) (fv : Value) (cI cZ : ClassId), (∀ v ∈ as, am_vl v) → Met l t.1 (am_ws t) (am_rm d) (va_Pc (as.map (cv ad fv)) (am_B D ad fv cI cZ M)) (am_Q D ad fv cI cZ Po) 0 0 (am_Af ad)
/-! events -/
def Br (c A B : Prop) : Prop := (c → A) ∧ (¬ c → B)
def Ob (P A : Prop) : Prop := P ∧ A
theorem br_ {c A B : Prop} (a : c → A) (b : ¬ c → B) : Br c A B := ⟨a, b⟩
theorem brt {c A B : Prop} (h : c) (a : A) : Br c A B := ⟨fun _ => a, fun n => absurd h n⟩
theorem brf {c A B : Prop} (h : ¬ c) (b : B) : Br c A B := ⟨fun n => absurd n h, fun _ => b⟩
theorem ob_ {P A : Prop} (p : P) (a : A) : Ob P A := ⟨p, a⟩
end
section
abbrev mBodies_askSize : Nat := 0
def tBodies_askSize : am_T := (⟨"PaperedOver$Bodies", "askSize", "(LPaperedOver$House;I)I"⟩, prog_2_method_2_code, 3, (some FieldType.int))
abbrev mBodies_askMark : Nat := 1
def tBodies_askMark : am_T := (⟨"PaperedOver$Bodies", "askMark", "(LPaperedOver$House;I)I"⟩, prog_2_method_3_code, 3, (some FieldType.int))
abbrev mBodies_told : Nat := 2
def tBodies_told : am_T := (⟨"PaperedOver$Bodies", "told", "([ILPaperedOver$House;I)I"⟩, prog_2_method_4_code, 4, (some FieldType.int))
abbrev mBodies_answer : Nat := 3
def tBodies_answer : am_T := (⟨"PaperedOver$Bodies", "answer", "(LPaperedOver$House;III)I"⟩, prog_2_method_5_code, 6, (some FieldType.int))
abbrev mBodies_begin : Nat := 4
def tBodies_begin : am_T := (⟨"PaperedOver$Bodies", "begin", "(I)V"⟩, prog_2_method_6_code, 2, (none : Option FieldType))
abbrev mCutter_cut : Nat := 5
def tCutter_cut : am_T := (⟨"PaperedOver$Cutter", "cut", "(LPaperedOver$House;II)V"⟩, prog_3_method_2_code, 5, (none : Option FieldType))
abbrev mCutter_widthOf : Nat := 6
def tCutter_widthOf : am_T := (⟨"PaperedOver$Cutter", "widthOf", "(LPaperedOver$House;I)I"⟩, prog_3_method_3_code, 5, (some FieldType.int))
abbrev mCutter_cutWall : Nat := 7
def tCutter_cutWall : am_T := (⟨"PaperedOver$Cutter", "cutWall", "(LPaperedOver$House;II)V"⟩, prog_3_method_4_code, 8, (none : Option FieldType))
abbrev mFacts_hasRing : Nat := 8
def tFacts_hasRing : am_T := (⟨"PaperedOver$Facts", "hasRing", "()Z"⟩, prog_4_method_2_code, 1, (some FieldType.boolean))
abbrev mFacts_learn : Nat := 9
def tFacts_learn : am_T := (⟨"PaperedOver$Facts", "learn", "()V"⟩, prog_4_method_3_code, 2, (none : Option FieldType))
abbrev mFacts_gather : Nat := 10
def tFacts_gather : am_T := (⟨"PaperedOver$Facts", "gather", "()V"⟩, prog_4_method_4_code, 4, (none : Option FieldType))
abbrev mFacts_at : Nat := 11
def tFacts_at : am_T := (⟨"PaperedOver$Facts", "at", "(I)I"⟩, prog_4_method_5_code, 4, (some FieldType.int))
abbrev mFacts_close : Nat := 12
def tFacts_close : am_T := (⟨"PaperedOver$Facts", "close", "()V"⟩, prog_4_method_6_code, 3, (none : Option FieldType))
abbrev mFacts_canFollow : Nat := 13
def tFacts_canFollow : am_T := (⟨"PaperedOver$Facts", "canFollow", "(II)Z"⟩, prog_4_method_7_code, 3, (some FieldType.boolean))
abbrev mFacts_arrange : Nat := 14
def tFacts_arrange : am_T := (⟨"PaperedOver$Facts", "arrange", "()V"⟩, prog_4_method_8_code, 4, (none : Option FieldType))
abbrev mFacts_leastThatFollows : Nat := 15
def tFacts_leastThatFollows : am_T := (⟨"PaperedOver$Facts", "leastThatFollows", "(I)I"⟩, prog_4_method_9_code, 3, (some FieldType.int))
abbrev mFacts_dateLeast : Nat := 16
def tFacts_dateLeast : am_T := (⟨"PaperedOver$Facts", "dateLeast", "(I)V"⟩, prog_4_method_10_code, 4, (none : Option FieldType))
abbrev mFacts_dateMost : Nat := 17
def tFacts_dateMost : am_T := (⟨"PaperedOver$Facts", "dateMost", "(I)V"⟩, prog_4_method_11_code, 4, (none : Option FieldType))
abbrev mFacts_isYounger : Nat := 18
def tFacts_isYounger : am_T := (⟨"PaperedOver$Facts", "isYounger", "(II)Z"⟩, prog_4_method_12_code, 5, (some FieldType.boolean))
abbrev mFacts_scrapedOff : Nat := 19
def tFacts_scrapedOff : am_T := (⟨"PaperedOver$Facts", "scrapedOff", "(I)I"⟩, prog_4_method_13_code, 6, (some FieldType.int))
abbrev mFacts_neverThere : Nat := 20
def tFacts_neverThere : am_T := (⟨"PaperedOver$Facts", "neverThere", "(I)I"⟩, prog_4_method_14_code, 4, (some FieldType.int))
abbrev mFacts_whoCan : Nat := 21
def tFacts_whoCan : am_T := (⟨"PaperedOver$Facts", "whoCan", "(I)I"⟩, prog_4_method_15_code, 6, (some FieldType.int))
abbrev mFacts_missingAt : Nat := 22
def tFacts_missingAt : am_T := (⟨"PaperedOver$Facts", "missingAt", "(I)I"⟩, prog_4_method_16_code, 2, (some FieldType.int))
abbrev mFacts_leastOf : Nat := 23
def tFacts_leastOf : am_T := (⟨"PaperedOver$Facts", "leastOf", "(I)I"⟩, prog_4_method_17_code, 4, (some FieldType.int))
abbrev mFacts_mostOf : Nat := 24
def tFacts_mostOf : am_T := (⟨"PaperedOver$Facts", "mostOf", "(I)I"⟩, prog_4_method_18_code, 4, (some FieldType.int))
abbrev mHouse_stands : Nat := 25
def tHouse_stands : am_T := (⟨"PaperedOver$House", "stands", "()Z"⟩, prog_5_method_2_code, 1, (some FieldType.boolean))
abbrev mHouse_isWall : Nat := 26
def tHouse_isWall : am_T := (⟨"PaperedOver$House", "isWall", "(I)Z"⟩, prog_5_method_3_code, 2, (some FieldType.boolean))
abbrev mHouse_isPaper : Nat := 27
def tHouse_isPaper : am_T := (⟨"PaperedOver$House", "isPaper", "(I)Z"⟩, prog_5_method_4_code, 2, (some FieldType.boolean))
abbrev mHouse_isKind : Nat := 28
def tHouse_isKind : am_T := (⟨"PaperedOver$House", "isKind", "(I)Z"⟩, prog_5_method_5_code, 1, (some FieldType.boolean))
abbrev mHouse_isOf : Nat := 29
def tHouse_isOf : am_T := (⟨"PaperedOver$House", "isOf", "(II)Z"⟩, prog_5_method_6_code, 5, (some FieldType.boolean))
abbrev mHouse_clear : Nat := 30
def tHouse_clear : am_T := (⟨"PaperedOver$House", "clear", "()V"⟩, prog_5_method_7_code, 1, (none : Option FieldType))
abbrev mHouse_addWall : Nat := 31
def tHouse_addWall : am_T := (⟨"PaperedOver$House", "addWall", "(III)V"⟩, prog_5_method_8_code, 4, (none : Option FieldType))
abbrev mHouse_addPaper : Nat := 32
def tHouse_addPaper : am_T := (⟨"PaperedOver$House", "addPaper", "(IIIII)V"⟩, prog_5_method_9_code, 6, (none : Option FieldType))
abbrev mHouse_addTenant : Nat := 33
def tHouse_addTenant : am_T := (⟨"PaperedOver$House", "addTenant", "(III)V"⟩, prog_5_method_10_code, 4, (none : Option FieldType))
abbrev mHouse_take : Nat := 34
def tHouse_take : am_T := (⟨"PaperedOver$House", "take", "(LPaperedOver$House;)V"⟩, prog_5_method_11_code, 3, (none : Option FieldType))
abbrev mHouse_printedEvery : Nat := 35
def tHouse_printedEvery : am_T := (⟨"PaperedOver$House", "printedEvery", "(I)I"⟩, prog_5_method_12_code, 4, (some FieldType.int))
abbrev mHouse_isToldBy : Nat := 36
def tHouse_isToldBy : am_T := (⟨"PaperedOver$House", "isToldBy", "(II)Z"⟩, prog_5_method_13_code, 6, (some FieldType.boolean))
abbrev mHouse_leftBy : Nat := 37
def tHouse_leftBy : am_T := (⟨"PaperedOver$House", "leftBy", "(II)I"⟩, prog_5_method_14_code, 2, (some FieldType.int))
abbrev mOrders_all : Nat := 38
def tOrders_all : am_T := (⟨"PaperedOver$Orders", "all", "()I"⟩, prog_7_method_2_code, 1, (some FieldType.int))
abbrev mOrders_withAhead : Nat := 39
def tOrders_withAhead : am_T := (⟨"PaperedOver$Orders", "withAhead", "(II)I"⟩, prog_7_method_3_code, 3, (some FieldType.int))
abbrev mOrders_mostEvenPair : Nat := 40
def tOrders_mostEvenPair : am_T := (⟨"PaperedOver$Orders", "mostEvenPair", "()I"⟩, prog_7_method_4_code, 7, (some FieldType.int))
abbrev mOrders_isOpen : Nat := 41
def tOrders_isOpen : am_T := (⟨"PaperedOver$Orders", "isOpen", "(II)Z"⟩, prog_7_method_5_code, 4, (some FieldType.boolean))
abbrev mOrders_countOnce : Nat := 42
def tOrders_countOnce : am_T := (⟨"PaperedOver$Orders", "countOnce", "()V"⟩, prog_7_method_6_code, 2, (none : Option FieldType))
abbrev mOrders_countBegun : Nat := 43
def tOrders_countBegun : am_T := (⟨"PaperedOver$Orders", "countBegun", "(I)V"⟩, prog_7_method_7_code, 3, (none : Option FieldType))
abbrev mOrders_countEnded : Nat := 44
def tOrders_countEnded : am_T := (⟨"PaperedOver$Orders", "countEnded", "(I)V"⟩, prog_7_method_8_code, 4, (none : Option FieldType))
abbrev mOrders_countPairs : Nat := 45
def tOrders_countPairs : am_T := (⟨"PaperedOver$Orders", "countPairs", "(III)V"⟩, prog_7_method_9_code, 5, (none : Option FieldType))
abbrev mReader_read : Nat := 46
def tReader_read : am_T := (⟨"PaperedOver$Reader", "read", "()Z"⟩, prog_8_method_2_code, 4, (some FieldType.boolean))
abbrev mReader_word : Nat := 47
def tReader_word : am_T := (⟨"PaperedOver$Reader", "word", "()I"⟩, prog_8_method_3_code, 1, (some FieldType.int))
abbrev mReader_isFull : Nat := 48
def tReader_isFull : am_T := (⟨"PaperedOver$Reader", "isFull", "(I)Z"⟩, prog_8_method_4_code, 2, (some FieldType.boolean))
abbrev mReader_readOne : Nat := 49
def tReader_readOne : am_T := (⟨"PaperedOver$Reader", "readOne", "(I)V"⟩, prog_8_method_5_code, 2, (none : Option FieldType))
abbrev mReader_readWall : Nat := 50
def tReader_readWall : am_T := (⟨"PaperedOver$Reader", "readWall", "()V"⟩, prog_8_method_6_code, 4, (none : Option FieldType))
abbrev mReader_readPaper : Nat := 51
def tReader_readPaper : am_T := (⟨"PaperedOver$Reader", "readPaper", "()V"⟩, prog_8_method_7_code, 6, (none : Option FieldType))
abbrev mReader_readTenant : Nat := 52
def tReader_readTenant : am_T := (⟨"PaperedOver$Reader", "readTenant", "()V"⟩, prog_8_method_8_code, 4, (none : Option FieldType))
abbrev mReader_sortOfPaper : Nat := 53
def tReader_sortOfPaper : am_T := (⟨"PaperedOver$Reader", "sortOfPaper", "()I"⟩, prog_8_method_9_code, 2, (some FieldType.int))
abbrev mReader_number : Nat := 54
def tReader_number : am_T := (⟨"PaperedOver$Reader", "number", "(II)I"⟩, prog_8_method_10_code, 4, (some FieldType.int))
abbrev mReader_semicolon : Nat := 55
def tReader_semicolon : am_T := (⟨"PaperedOver$Reader", "semicolon", "()V"⟩, prog_8_method_11_code, 1, (none : Option FieldType))
abbrev mReader_fail : Nat := 56
def tReader_fail : am_T := (⟨"PaperedOver$Reader", "fail", "(I)V"⟩, prog_8_method_12_code, 2, (none : Option FieldType))
abbrev mReader_step : Nat := 57
def tReader_step : am_T := (⟨"PaperedOver$Reader", "step", "()V"⟩, prog_8_method_13_code, 2, (none : Option FieldType))
abbrev mReader_isName : Nat := 58
def tReader_isName : am_T := (⟨"PaperedOver$Reader", "isName", "(Ljava/lang/String;)Z"⟩, prog_8_method_14_code, 3, (some FieldType.boolean))
abbrev mReader_isBlank : Nat := 59
def tReader_isBlank : am_T := (⟨"PaperedOver$Reader", "isBlank", "(I)Z"⟩, prog_8_method_15_code, 1, (some FieldType.boolean))
abbrev mReader_isLetter : Nat := 60
def tReader_isLetter : am_T := (⟨"PaperedOver$Reader", "isLetter", "(I)Z"⟩, prog_8_method_16_code, 1, (some FieldType.boolean))
abbrev mReader_isFigure : Nat := 61
def tReader_isFigure : am_T := (⟨"PaperedOver$Reader", "isFigure", "(I)Z"⟩, prog_8_method_17_code, 1, (some FieldType.boolean))
abbrev mRows_isRow : Nat := 62
def tRows_isRow : am_T := (⟨"PaperedOver$Rows", "isRow", "(I)Z"⟩, prog_9_method_2_code, 2, (some FieldType.boolean))
abbrev mRows_isLane : Nat := 63
def tRows_isLane : am_T := (⟨"PaperedOver$Rows", "isLane", "(I)Z"⟩, prog_9_method_3_code, 2, (some FieldType.boolean))
abbrev mRows_isThere : Nat := 64
def tRows_isThere : am_T := (⟨"PaperedOver$Rows", "isThere", "(I)Z"⟩, prog_9_method_4_code, 2, (some FieldType.boolean))
abbrev mRows_alike : Nat := 65
def tRows_alike : am_T := (⟨"PaperedOver$Rows", "alike", "(II)Z"⟩, prog_9_method_5_code, 3, (some FieldType.boolean))
abbrev mRows_holds : Nat := 66
def tRows_holds : am_T := (⟨"PaperedOver$Rows", "holds", "(III)Z"⟩, prog_9_method_6_code, 4, (some FieldType.boolean))
abbrev mRows_make : Nat := 67
def tRows_make : am_T := (⟨"PaperedOver$Rows", "make", "(III)V"⟩, prog_9_method_7_code, 4, (none : Option FieldType))
abbrev mRows_item : Nat := 68
def tRows_item : am_T := (⟨"PaperedOver$Rows", "item", "(II)I"⟩, prog_9_method_8_code, 3, (some FieldType.int))
abbrev mRows_put : Nat := 69
def tRows_put : am_T := (⟨"PaperedOver$Rows", "put", "(III)I"⟩, prog_9_method_9_code, 5, (some FieldType.int))
abbrev mRows_move : Nat := 70
def tRows_move : am_T := (⟨"PaperedOver$Rows", "move", "(IIIII)V"⟩, prog_9_method_10_code, 6, (none : Option FieldType))
abbrev mRows_remove : Nat := 71
def tRows_remove : am_T := (⟨"PaperedOver$Rows", "remove", "(I)I"⟩, prog_9_method_11_code, 3, (some FieldType.int))
abbrev mRows_howMany : Nat := 72
def tRows_howMany : am_T := (⟨"PaperedOver$Rows", "howMany", "()I"⟩, prog_9_method_12_code, 3, (some FieldType.int))
abbrev mSpots_isSpot : Nat := 73
def tSpots_isSpot : am_T := (⟨"PaperedOver$Spots", "isSpot", "(I)Z"⟩, prog_10_method_2_code, 2, (some FieldType.boolean))
abbrev mSpots_hasRoom : Nat := 74
def tSpots_hasRoom : am_T := (⟨"PaperedOver$Spots", "hasRoom", "()Z"⟩, prog_10_method_3_code, 1, (some FieldType.boolean))
abbrev mSpots_layer : Nat := 75
def tSpots_layer : am_T := (⟨"PaperedOver$Spots", "layer", "(II)I"⟩, prog_10_method_4_code, 3, (some FieldType.int))
abbrev mSpots_open : Nat := 76
def tSpots_open : am_T := (⟨"PaperedOver$Spots", "open", "(I)V"⟩, prog_10_method_5_code, 2, (none : Option FieldType))
abbrev mSpots_lay : Nat := 77
def tSpots_lay : am_T := (⟨"PaperedOver$Spots", "lay", "(II)V"⟩, prog_10_method_6_code, 3, (none : Option FieldType))
abbrev mSpots_take : Nat := 78
def tSpots_take : am_T := (⟨"PaperedOver$Spots", "take", "(LPaperedOver$Spots;)V"⟩, prog_10_method_7_code, 2, (none : Option FieldType))
abbrev mTape_hasRoom : Nat := 79
def tTape_hasRoom : am_T := (⟨"PaperedOver$Tape", "hasRoom", "(I)Z"⟩, prog_11_method_2_code, 2, (some FieldType.boolean))
abbrev mTape_append : Nat := 80
def tTape_append : am_T := (⟨"PaperedOver$Tape", "append", "(JI)V"⟩, prog_11_method_3_code, 5, (none : Option FieldType))
abbrev mTape_at : Nat := 81
def tTape_at : am_T := (⟨"PaperedOver$Tape", "at", "(I)I"⟩, prog_11_method_4_code, 2, (some FieldType.int))
abbrev mMain_row : Nat := 82
def tMain_row : am_T := (⟨"PaperedOver", "row", "(III)I"⟩, prog_1_method_2_code, 4, (some FieldType.int))
abbrev mMain_set : Nat := 83
def tMain_set : am_T := (⟨"PaperedOver", "set", "(III)I"⟩, prog_1_method_3_code, 4, (some FieldType.int))
abbrev mMain_copy : Nat := 84
def tMain_copy : am_T := (⟨"PaperedOver", "copy", "(IIIII)I"⟩, prog_1_method_4_code, 6, (some FieldType.int))
abbrev mMain_drop : Nat := 85
def tMain_drop : am_T := (⟨"PaperedOver", "drop", "(I)I"⟩, prog_1_method_5_code, 2, (some FieldType.int))
abbrev mMain_feed : Nat := 86
def tMain_feed : am_T := (⟨"PaperedOver", "feed", "(JI)I"⟩, prog_1_method_6_code, 4, (some FieldType.int))
abbrev mMain_house : Nat := 87
def tMain_house : am_T := (⟨"PaperedOver", "house", "()I"⟩, prog_1_method_7_code, 2, (some FieldType.int))
abbrev mMain_fault : Nat := 88
def tMain_fault : am_T := (⟨"PaperedOver", "fault", "()I"⟩, prog_1_method_8_code, 1, (some FieldType.int))
abbrev mMain_lift : Nat := 89
def tMain_lift : am_T := (⟨"PaperedOver", "lift", "(IIII)I"⟩, prog_1_method_9_code, 7, (some FieldType.int))
abbrev mMain_forget : Nat := 90
def tMain_forget : am_T := (⟨"PaperedOver", "forget", "()I"⟩, prog_1_method_10_code, 1, (some FieldType.int))
abbrev mMain_spot : Nat := 91
def tMain_spot : am_T := (⟨"PaperedOver", "spot", "(II)I"⟩, prog_1_method_11_code, 3, (some FieldType.int))
abbrev mMain_papers : Nat := 92
def tMain_papers : am_T := (⟨"PaperedOver", "papers", "(I)I"⟩, prog_1_method_12_code, 2, (some FieldType.int))
abbrev mMain_paper : Nat := 93
def tMain_paper : am_T := (⟨"PaperedOver", "paper", "(II)I"⟩, prog_1_method_13_code, 3, (some FieldType.int))
abbrev mMain_orders : Nat := 94
def tMain_orders : am_T := (⟨"PaperedOver", "orders", "()I"⟩, prog_1_method_14_code, 1, (some FieldType.int))
abbrev mMain_first : Nat := 95
def tMain_first : am_T := (⟨"PaperedOver", "first", "(I)I"⟩, prog_1_method_15_code, 2, (some FieldType.int))
abbrev mMain_odds : Nat := 96
def tMain_odds : am_T := (⟨"PaperedOver", "odds", "(III)I"⟩, prog_1_method_16_code, 7, (some FieldType.int))
abbrev mMain_next : Nat := 97
def tMain_next : am_T := (⟨"PaperedOver", "next", "()I"⟩, prog_1_method_17_code, 2, (some FieldType.int))
abbrev mMain_years : Nat := 98
def tMain_years : am_T := (⟨"PaperedOver", "years", "(II)I"⟩, prog_1_method_18_code, 3, (some FieldType.int))
abbrev mMain_younger : Nat := 99
def tMain_younger : am_T := (⟨"PaperedOver", "younger", "(II)I"⟩, prog_1_method_19_code, 3, (some FieldType.int))
abbrev mMain_lacks : Nat := 100
def tMain_lacks : am_T := (⟨"PaperedOver", "lacks", "(II)I"⟩, prog_1_method_20_code, 3, (some FieldType.int))
abbrev mMain_tenants : Nat := 101
def tMain_tenants : am_T := (⟨"PaperedOver", "tenants", "(I)I"⟩, prog_1_method_21_code, 2, (some FieldType.int))
abbrev mMain_cupboard : Nat := 102
def tMain_cupboard : am_T := (⟨"PaperedOver", "cupboard", "(II)I"⟩, prog_1_method_22_code, 4, (some FieldType.int))
abbrev mMain_scrap : Nat := 103
def tMain_scrap : am_T := (⟨"PaperedOver", "scrap", "(II)I"⟩, prog_1_method_23_code, 3, (some FieldType.int))
abbrev mMain_tells : Nat := 104
def tMain_tells : am_T := (⟨"PaperedOver", "tells", "(I)I"⟩, prog_1_method_24_code, 3, (some FieldType.int))
abbrev mMain_rolls : Nat := 105
def tMain_rolls : am_T := (⟨"PaperedOver", "rolls", "(III)I"⟩, prog_1_method_25_code, 4, (some FieldType.int))
abbrev mMain_image : Nat := 106
def tMain_image : am_T := (⟨"PaperedOver", "image", "(I)I"⟩, prog_1_method_26_code, 3, (some FieldType.int))
abbrev mMain_restore : Nat := 107
def tMain_restore : am_T := (⟨"PaperedOver", "restore", "(I)I"⟩, prog_1_method_27_code, 3, (some FieldType.int))
abbrev mMain_kind : Nat := 108
def tMain_kind : am_T := (⟨"PaperedOver", "kind", "(I)I"⟩, prog_1_method_28_code, 2, (some FieldType.int))
abbrev mMain_as : Nat := 109
def tMain_as : am_T := (⟨"PaperedOver", "as", "(II)I"⟩, prog_1_method_29_code, 3, (some FieldType.int))
abbrev mMain_ask : Nat := 110
def tMain_ask : am_T := (⟨"PaperedOver", "ask", "(II)I"⟩, prog_1_method_30_code, 3, (some FieldType.int))
abbrev mMain_trace : Nat := 111
def tMain_trace : am_T := (⟨"PaperedOver", "trace", "(I)I"⟩, prog_1_method_31_code, 2, (some FieldType.int))
abbrev mMain_count : Nat := 112
def tMain_count : am_T := (⟨"PaperedOver", "count", "(I)I"⟩, prog_1_method_32_code, 2, (some FieldType.int))
abbrev mMain_status : Nat := 113
def tMain_status : am_T := (⟨"PaperedOver", "status", "()I"⟩, prog_1_method_33_code, 1, (some FieldType.int))
abbrev mMain_found : Nat := 114
def tMain_found : am_T := (⟨"PaperedOver", "found", "(I)I"⟩, prog_1_method_34_code, 2, (some FieldType.int))
abbrev mMain_clean : Nat := 115
def tMain_clean : am_T := (⟨"PaperedOver", "clean", "(I)I"⟩, prog_1_method_35_code, 2, (some FieldType.int))
abbrev mMain_learnAnew : Nat := 116
def tMain_learnAnew : am_T := (⟨"PaperedOver", "learnAnew", "()V"⟩, prog_1_method_36_code, 1, (none : Option FieldType))
abbrev mMain_isSeen : Nat := 117
def tMain_isSeen : am_T := (⟨"PaperedOver", "isSeen", "(I)Z"⟩, prog_1_method_37_code, 2, (some FieldType.boolean))
abbrev mMain_areUnlikePapers : Nat := 118
def tMain_areUnlikePapers : am_T := (⟨"PaperedOver", "areUnlikePapers", "(III)Z"⟩, prog_1_method_38_code, 7, (some FieldType.boolean))
abbrev mMain_isSwitch : Nat := 119
def tMain_isSwitch : am_T := (⟨"PaperedOver", "isSwitch", "(I)Z"⟩, prog_1_method_39_code, 1, (some FieldType.boolean))
abbrev mMain_isSetOf : Nat := 120
def tMain_isSetOf : am_T := (⟨"PaperedOver", "isSetOf", "(II)Z"⟩, prog_1_method_40_code, 2, (some FieldType.boolean))
abbrev mMain_has : Nat := 121
def tMain_has : am_T := (⟨"PaperedOver", "has", "(II)Z"⟩, prog_1_method_41_code, 2, (some FieldType.boolean))
abbrev mMain_greatestShared : Nat := 122
def tMain_greatestShared : am_T := (⟨"PaperedOver", "greatestShared", "(II)I"⟩, prog_1_method_42_code, 4, (some FieldType.int))
abbrev mMain_partsUp : Nat := 123
def tMain_partsUp : am_T := (⟨"PaperedOver", "partsUp", "(II)I"⟩, prog_1_method_43_code, 2, (some FieldType.int))
abbrev mRef_in : Nat := 124
def tRef_in : am_T := (⟨"PaperedOverModel", "in", "(JJJ)Z"⟩, prog_13_method_3_code, 6, (some FieldType.boolean))
abbrev mRef_finding : Nat := 125
def tRef_finding : am_T := (⟨"PaperedOverModel", "finding", "(I)I"⟩, prog_13_method_4_code, 2, (some FieldType.int))
abbrev mRef_isRow : Nat := 126
def tRef_isRow : am_T := (⟨"PaperedOverModel", "isRow", "(I)Z"⟩, prog_13_method_5_code, 1, (some FieldType.boolean))
abbrev mRef_row : Nat := 127
def tRef_row : am_T := (⟨"PaperedOverModel", "row", "(III)I"⟩, prog_13_method_6_code, 5, (some FieldType.int))
abbrev mRef_set : Nat := 128
def tRef_set : am_T := (⟨"PaperedOverModel", "set", "(III)I"⟩, prog_13_method_7_code, 4, (some FieldType.int))
abbrev mRef_copy : Nat := 129
def tRef_copy : am_T := (⟨"PaperedOverModel", "copy", "(IIIII)I"⟩, prog_13_method_8_code, 9, (some FieldType.int))
abbrev mRef_drop : Nat := 130
def tRef_drop : am_T := (⟨"PaperedOverModel", "drop", "(I)I"⟩, prog_13_method_9_code, 2, (some FieldType.int))
abbrev mRef_feed : Nat := 131
def tRef_feed : am_T := (⟨"PaperedOverModel", "feed", "(JI)I"⟩, prog_13_method_10_code, 5, (some FieldType.int))
abbrev mRef_byteAt : Nat := 132
def tRef_byteAt : am_T := (⟨"PaperedOverModel", "byteAt", "(I)I"⟩, prog_13_method_11_code, 2, (some FieldType.int))
abbrev mRef_isLetter : Nat := 133
def tRef_isLetter : am_T := (⟨"PaperedOverModel", "isLetter", "(I)Z"⟩, prog_13_method_12_code, 1, (some FieldType.boolean))
abbrev mRef_isFigure : Nat := 134
def tRef_isFigure : am_T := (⟨"PaperedOverModel", "isFigure", "(I)Z"⟩, prog_13_method_13_code, 1, (some FieldType.boolean))
abbrev mRef_nextToken : Nat := 135
def tRef_nextToken : am_T := (⟨"PaperedOverModel", "nextToken", "()V"⟩, prog_13_method_14_code, 2, (none : Option FieldType))
abbrev mRef_begin : Nat := 136
def tRef_begin : am_T := (⟨"PaperedOverModel", "begin", "()V"⟩, prog_13_method_15_code, 1, (none : Option FieldType))
abbrev mRef_bad : Nat := 137
def tRef_bad : am_T := (⟨"PaperedOverModel", "bad", "(I)V"⟩, prog_13_method_16_code, 2, (none : Option FieldType))
abbrev mRef_must : Nat := 138
def tRef_must : am_T := (⟨"PaperedOverModel", "must", "(Z)V"⟩, prog_13_method_17_code, 2, (none : Option FieldType))
abbrev mRef_name : Nat := 139
def tRef_name : am_T := (⟨"PaperedOverModel", "name", "()J"⟩, prog_13_method_18_code, 4, (some FieldType.long))
abbrev mRef_figures : Nat := 140
def tRef_figures : am_T := (⟨"PaperedOverModel", "figures", "()I"⟩, prog_13_method_19_code, 3, (some FieldType.int))
abbrev mRef_number : Nat := 141
def tRef_number : am_T := (⟨"PaperedOverModel", "number", "(II)I"⟩, prog_13_method_20_code, 4, (some FieldType.int))
abbrev mRef_sortOf : Nat := 142
def tRef_sortOf : am_T := (⟨"PaperedOverModel", "sortOf", "(J)I"⟩, prog_13_method_21_code, 2, (some FieldType.int))
abbrev mRef_mustEnd : Nat := 143
def tRef_mustEnd : am_T := (⟨"PaperedOverModel", "mustEnd", "()V"⟩, prog_13_method_22_code, 1, (none : Option FieldType))
abbrev mRef_begins : Nat := 144
def tRef_begins : am_T := (⟨"PaperedOverModel", "begins", "(II)V"⟩, prog_13_method_23_code, 3, (none : Option FieldType))
abbrev mRef_readWall : Nat := 145
def tRef_readWall : am_T := (⟨"PaperedOverModel", "readWall", "()V"⟩, prog_13_method_24_code, 5, (none : Option FieldType))
abbrev mRef_readPaper : Nat := 146
def tRef_readPaper : am_T := (⟨"PaperedOverModel", "readPaper", "()V"⟩, prog_13_method_25_code, 7, (none : Option FieldType))
abbrev mRef_readTenant : Nat := 147
def tRef_readTenant : am_T := (⟨"PaperedOverModel", "readTenant", "()V"⟩, prog_13_method_26_code, 5, (none : Option FieldType))
abbrev mRef_house : Nat := 148
def tRef_house : am_T := (⟨"PaperedOverModel", "house", "()I"⟩, prog_13_method_27_code, 2, (some FieldType.int))
abbrev mRef_fault : Nat := 149
def tRef_fault : am_T := (⟨"PaperedOverModel", "fault", "()I"⟩, prog_13_method_28_code, 1, (some FieldType.int))
abbrev mRef_isWall : Nat := 150
def tRef_isWall : am_T := (⟨"PaperedOverModel", "isWall", "(I)Z"⟩, prog_13_method_29_code, 2, (some FieldType.boolean))
abbrev mRef_isPaper : Nat := 151
def tRef_isPaper : am_T := (⟨"PaperedOverModel", "isPaper", "(I)Z"⟩, prog_13_method_30_code, 2, (some FieldType.boolean))
abbrev mRef_isSpot : Nat := 152
def tRef_isSpot : am_T := (⟨"PaperedOverModel", "isSpot", "(I)Z"⟩, prog_13_method_31_code, 2, (some FieldType.boolean))
abbrev mRef_wall : Nat := 153
def tRef_wall : am_T := (⟨"PaperedOverModel", "wall", "(II)I"⟩, prog_13_method_32_code, 3, (some FieldType.int))
abbrev mRef_of : Nat := 154
def tRef_of : am_T := (⟨"PaperedOverModel", "of", "(II)I"⟩, prog_13_method_33_code, 3, (some FieldType.int))
abbrev mRef_lies : Nat := 155
def tRef_lies : am_T := (⟨"PaperedOverModel", "lies", "(II)I"⟩, prog_13_method_34_code, 3, (some FieldType.int))
abbrev mRef_wallOf : Nat := 156
def tRef_wallOf : am_T := (⟨"PaperedOverModel", "wallOf", "(I)I"⟩, prog_13_method_35_code, 2, (some FieldType.int))
abbrev mRef_manyAt : Nat := 157
def tRef_manyAt : am_T := (⟨"PaperedOverModel", "manyAt", "(I)I"⟩, prog_13_method_36_code, 2, (some FieldType.int))
abbrev mRef_laySpots : Nat := 158
def tRef_laySpots : am_T := (⟨"PaperedOverModel", "laySpots", "()V"⟩, prog_13_method_37_code, 3, (none : Option FieldType))
abbrev mRef_laySure : Nat := 159
def tRef_laySure : am_T := (⟨"PaperedOverModel", "laySure", "()V"⟩, prog_13_method_38_code, 4, (none : Option FieldType))
abbrev mRef_inRings : Nat := 160
def tRef_inRings : am_T := (⟨"PaperedOverModel", "inRings", "()I"⟩, prog_13_method_39_code, 3, (some FieldType.int))
abbrev mRef_isIn : Nat := 161
def tRef_isIn : am_T := (⟨"PaperedOverModel", "isIn", "(II)Z"⟩, prog_13_method_40_code, 2, (some FieldType.boolean))
abbrev mRef_isSeen : Nat := 162
def tRef_isSeen : am_T := (⟨"PaperedOverModel", "isSeen", "(I)Z"⟩, prog_13_method_41_code, 2, (some FieldType.boolean))
abbrev mRef_lack : Nat := 163
def tRef_lack : am_T := (⟨"PaperedOverModel", "lack", "(III)I"⟩, prog_13_method_42_code, 4, (some FieldType.int))
abbrev mRef_lift : Nat := 164
def tRef_lift : am_T := (⟨"PaperedOverModel", "lift", "(IIII)I"⟩, prog_13_method_43_code, 9, (some FieldType.int))
abbrev mRef_forget : Nat := 165
def tRef_forget : am_T := (⟨"PaperedOverModel", "forget", "()I"⟩, prog_13_method_44_code, 1, (some FieldType.int))
abbrev mRef_spot : Nat := 166
def tRef_spot : am_T := (⟨"PaperedOverModel", "spot", "(II)I"⟩, prog_13_method_45_code, 3, (some FieldType.int))
abbrev mRef_papers : Nat := 167
def tRef_papers : am_T := (⟨"PaperedOverModel", "papers", "(I)I"⟩, prog_13_method_46_code, 2, (some FieldType.int))
abbrev mRef_paper : Nat := 168
def tRef_paper : am_T := (⟨"PaperedOverModel", "paper", "(II)I"⟩, prog_13_method_47_code, 3, (some FieldType.int))
abbrev mRef_ordersWith : Nat := 169
def tRef_ordersWith : am_T := (⟨"PaperedOverModel", "ordersWith", "(II)I"⟩, prog_13_method_48_code, 7, (some FieldType.int))
abbrev mRef_orders : Nat := 170
def tRef_orders : am_T := (⟨"PaperedOverModel", "orders", "()I"⟩, prog_13_method_49_code, 1, (some FieldType.int))
abbrev mRef_first : Nat := 171
def tRef_first : am_T := (⟨"PaperedOverModel", "first", "(I)I"⟩, prog_13_method_50_code, 5, (some FieldType.int))
abbrev mRef_divisor : Nat := 172
def tRef_divisor : am_T := (⟨"PaperedOverModel", "divisor", "(II)I"⟩, prog_13_method_51_code, 5, (some FieldType.int))
abbrev mRef_odds : Nat := 173
def tRef_odds : am_T := (⟨"PaperedOverModel", "odds", "(III)I"⟩, prog_13_method_52_code, 6, (some FieldType.int))
abbrev mRef_next : Nat := 174
def tRef_next : am_T := (⟨"PaperedOverModel", "next", "()I"⟩, prog_13_method_53_code, 9, (some FieldType.int))
abbrev mRef_layYears : Nat := 175
def tRef_layYears : am_T := (⟨"PaperedOverModel", "layYears", "()V"⟩, prog_13_method_54_code, 4, (none : Option FieldType))
abbrev mRef_years : Nat := 176
def tRef_years : am_T := (⟨"PaperedOverModel", "years", "(II)I"⟩, prog_13_method_55_code, 3, (some FieldType.int))
abbrev mRef_younger : Nat := 177
def tRef_younger : am_T := (⟨"PaperedOverModel", "younger", "(II)I"⟩, prog_13_method_56_code, 5, (some FieldType.int))
abbrev mRef_lacks : Nat := 178
def tRef_lacks : am_T := (⟨"PaperedOverModel", "lacks", "(II)I"⟩, prog_13_method_57_code, 8, (some FieldType.int))
abbrev mRef_tenants : Nat := 179
def tRef_tenants : am_T := (⟨"PaperedOverModel", "tenants", "(I)I"⟩, prog_13_method_58_code, 7, (some FieldType.int))
abbrev mRef_cupboard : Nat := 180
def tRef_cupboard : am_T := (⟨"PaperedOverModel", "cupboard", "(II)I"⟩, prog_13_method_59_code, 7, (some FieldType.int))
abbrev mRef_scrap : Nat := 181
def tRef_scrap : am_T := (⟨"PaperedOverModel", "scrap", "(II)I"⟩, prog_13_method_60_code, 5, (some FieldType.int))
abbrev mRef_tellsBy : Nat := 182
def tRef_tellsBy : am_T := (⟨"PaperedOverModel", "tellsBy", "(II)Z"⟩, prog_13_method_61_code, 7, (some FieldType.boolean))
abbrev mRef_tells : Nat := 183
def tRef_tells : am_T := (⟨"PaperedOverModel", "tells", "(I)I"⟩, prog_13_method_62_code, 3, (some FieldType.int))
abbrev mRef_painted : Nat := 184
def tRef_painted : am_T := (⟨"PaperedOverModel", "painted", "(II)I"⟩, prog_13_method_63_code, 5, (some FieldType.int))
abbrev mRef_rolls : Nat := 185
def tRef_rolls : am_T := (⟨"PaperedOverModel", "rolls", "(III)I"⟩, prog_13_method_64_code, 11, (some FieldType.int))
abbrev mRef_image : Nat := 186
def tRef_image : am_T := (⟨"PaperedOverModel", "image", "(I)I"⟩, prog_13_method_65_code, 3, (some FieldType.int))
abbrev mRef_restore : Nat := 187
def tRef_restore : am_T := (⟨"PaperedOverModel", "restore", "(I)I"⟩, prog_13_method_66_code, 3, (some FieldType.int))
abbrev mRef_isOf : Nat := 188
def tRef_isOf : am_T := (⟨"PaperedOverModel", "isOf", "(II)Z"⟩, prog_13_method_67_code, 2, (some FieldType.boolean))
abbrev mRef_kind : Nat := 189
def tRef_kind : am_T := (⟨"PaperedOverModel", "kind", "(I)I"⟩, prog_13_method_68_code, 2, (some FieldType.int))
abbrev mRef_as : Nat := 190
def tRef_as : am_T := (⟨"PaperedOverModel", "as", "(II)I"⟩, prog_13_method_69_code, 3, (some FieldType.int))
abbrev mRef_began : Nat := 191
def tRef_began : am_T := (⟨"PaperedOverModel", "began", "(I)V"⟩, prog_13_method_70_code, 2, (none : Option FieldType))
abbrev mRef_plainSize : Nat := 192
def tRef_plainSize : am_T := (⟨"PaperedOverModel", "plainSize", "(I)I"⟩, prog_13_method_71_code, 2, (some FieldType.int))
abbrev mRef_markOf : Nat := 193
def tRef_markOf : am_T := (⟨"PaperedOverModel", "markOf", "(I)I"⟩, prog_13_method_72_code, 3, (some FieldType.int))
abbrev mRef_sizeOf : Nat := 194
def tRef_sizeOf : am_T := (⟨"PaperedOverModel", "sizeOf", "(I)I"⟩, prog_13_method_73_code, 4, (some FieldType.int))
abbrev mRef_ask : Nat := 195
def tRef_ask : am_T := (⟨"PaperedOverModel", "ask", "(II)I"⟩, prog_13_method_74_code, 3, (some FieldType.int))
abbrev mRef_trace : Nat := 196
def tRef_trace : am_T := (⟨"PaperedOverModel", "trace", "(I)I"⟩, prog_13_method_75_code, 2, (some FieldType.int))
abbrev mRef_count : Nat := 197
def tRef_count : am_T := (⟨"PaperedOverModel", "count", "(I)I"⟩, prog_13_method_76_code, 4, (some FieldType.int))
abbrev mRef_status : Nat := 198
def tRef_status : am_T := (⟨"PaperedOverModel", "status", "()I"⟩, prog_13_method_77_code, 1, (some FieldType.int))
abbrev mMath_abs : Nat := 199
def tMath_abs : am_T := (⟨"java/lang/Math", "abs", "(I)I"⟩, prog_14_method_59_code, 1, (some FieldType.int))
abbrev mMath_max : Nat := 200
def tMath_max : am_T := (⟨"java/lang/Math", "max", "(II)I"⟩, prog_14_method_65_code, 2, (some FieldType.int))
abbrev mMath_min : Nat := 201
def tMath_min : am_T := (⟨"java/lang/Math", "min", "(II)I"⟩, prog_14_method_69_code, 2, (some FieldType.int))
abbrev mStr_length : Nat := 202
def tStr_length : am_T := (⟨"java/lang/String", "length", "()I"⟩, prog_15_method_54_code, 1, (some FieldType.int))
abbrev mStr_charAt : Nat := 203
def tStr_charAt : am_T := (⟨"java/lang/String", "charAt", "(I)C"⟩, prog_15_method_56_code, 2, (some FieldType.char))
abbrev mStr_coder : Nat := 204
def tStr_coder : am_T := (⟨"java/lang/String", "coder", "()B"⟩, prog_15_method_152_code, 1, (some FieldType.byte))
abbrev mStr_isLatin1 : Nat := 205
def tStr_isLatin1 : am_T := (⟨"java/lang/String", "isLatin1", "()Z"⟩, prog_15_method_154_code, 1, (some FieldType.boolean))
abbrev mStr_checkIndex : Nat := 206
def tStr_checkIndex : am_T := (⟨"java/lang/String", "checkIndex", "(II)V"⟩, prog_15_method_155_code, 2, (none : Option FieldType))
abbrev mLat_charAt : Nat := 207
def tLat_charAt : am_T := (⟨"java/lang/StringLatin1", "charAt", "([BI)C"⟩, prog_16_method_2_code, 2, (some FieldType.char))
abbrev mArr_rangeCheck : Nat := 208
def tArr_rangeCheck : am_T := (⟨"java/util/Arrays", "rangeCheck", "(III)V"⟩, prog_19_method_30_code, 3, (none : Option FieldType))
abbrev mArr_fill2 : Nat := 209
def tArr_fill2 : am_T := (⟨"java/util/Arrays", "fill", "([II)V"⟩, prog_19_method_103_code, 4, (none : Option FieldType))
abbrev mArr_fill4 : Nat := 210
def tArr_fill4 : am_T := (⟨"java/util/Arrays", "fill", "([IIII)V"⟩, prog_19_method_104_code, 5, (none : Option FieldType))
abbrev mPre_checkIndex : Nat := 211
def tPre_checkIndex : am_T := (⟨"jdk/internal/util/Preconditions", "checkIndex", "(IILjava/util/function/BiFunction;)I"⟩, prog_20_method_11_code, 3, (some FieldType.int))
def am_mt : List am_T := [tBodies_askSize, tBodies_askMark, tBodies_told, tBodies_answer, tBodies_begin, tCutter_cut, tCutter_widthOf, tCutter_cutWall, tFacts_hasRing, tFacts_learn, tFacts_gather, tFacts_at, tFacts_close, tFacts_canFollow, tFacts_arrange, tFacts_leastThatFollows, tFacts_dateLeast, tFacts_dateMost, tFacts_isYounger, tFacts_scrapedOff, tFacts_neverThere, tFacts_whoCan, tFacts_missingAt, tFacts_leastOf, tFacts_mostOf, tHouse_stands, tHouse_isWall, tHouse_isPaper, tHouse_isKind, tHouse_isOf, tHouse_clear, tHouse_addWall, tHouse_addPaper, tHouse_addTenant, tHouse_take, tHouse_printedEvery, tHouse_isToldBy, tHouse_leftBy, tOrders_all, tOrders_withAhead, tOrders_mostEvenPair, tOrders_isOpen, tOrders_countOnce, tOrders_countBegun, tOrders_countEnded, tOrders_countPairs, tReader_read, tReader_word, tReader_isFull, tReader_readOne, tReader_readWall, tReader_readPaper, tReader_readTenant, tReader_sortOfPaper, tReader_number, tReader_semicolon, tReader_fail, tReader_step, tReader_isName, tReader_isBlank, tReader_isLetter, tReader_isFigure, tRows_isRow, tRows_isLane, tRows_isThere, tRows_alike, tRows_holds, tRows_make, tRows_item, tRows_put, tRows_move, tRows_remove, tRows_howMany, tSpots_isSpot, tSpots_hasRoom, tSpots_layer, tSpots_open, tSpots_lay, tSpots_take, tTape_hasRoom, tTape_append, tTape_at, tMain_row, tMain_set, tMain_copy, tMain_drop, tMain_feed, tMain_house, tMain_fault, tMain_lift, tMain_forget, tMain_spot, tMain_papers, tMain_paper, tMain_orders, tMain_first, tMain_odds, tMain_next, tMain_years, tMain_younger, tMain_lacks, tMain_tenants, tMain_cupboard, tMain_scrap, tMain_tells, tMain_rolls, tMain_image, tMain_restore, tMain_kind, tMain_as, tMain_ask, tMain_trace, tMain_count, tMain_status, tMain_found, tMain_clean, tMain_learnAnew, tMain_isSeen, tMain_areUnlikePapers, tMain_isSwitch, tMain_isSetOf, tMain_has, tMain_greatestShared, tMain_partsUp, tRef_in, tRef_finding, tRef_isRow, tRef_row, tRef_set, tRef_copy, tRef_drop, tRef_feed, tRef_byteAt, tRef_isLetter, tRef_isFigure, tRef_nextToken, tRef_begin, tRef_bad, tRef_must, tRef_name, tRef_figures, tRef_number, tRef_sortOf, tRef_mustEnd, tRef_begins, tRef_readWall, tRef_readPaper, tRef_readTenant, tRef_house, tRef_fault, tRef_isWall, tRef_isPaper, tRef_isSpot, tRef_wall, tRef_of, tRef_lies, tRef_wallOf, tRef_manyAt, tRef_laySpots, tRef_laySure, tRef_inRings, tRef_isIn, tRef_isSeen, tRef_lack, tRef_lift, tRef_forget, tRef_spot, tRef_papers, tRef_paper, tRef_ordersWith, tRef_orders, tRef_first, tRef_divisor, tRef_odds, tRef_next, tRef_layYears, tRef_years, tRef_younger, tRef_lacks, tRef_tenants, tRef_cupboard, tRef_scrap, tRef_tellsBy, tRef_tells, tRef_painted, tRef_rolls, tRef_image, tRef_restore, tRef_isOf, tRef_kind, tRef_as, tRef_began, tRef_plainSize, tRef_markOf, tRef_sizeOf, tRef_ask, tRef_trace, tRef_count, tRef_status, tMath_abs, tMath_max, tMath_min, tStr_length, tStr_charAt, tStr_coder, tStr_isLatin1, tStr_checkIndex, tLat_charAt, tArr_rangeCheck, tArr_fill2, tArr_fill4, tPre_checkIndex]
def mt (n : Nat) : am_T := am_mt.getD n tBodies_askSize
abbrev ConP (d n : Nat) (as : List am_V) (M : am_M) (Po : Option am_V → am_M → Prop) : Prop := am_Con d (mt n) as M Po
abbrev Con (d n : Nat) (as : List am_V) (M : am_M) (r : Option am_V) (M2 : am_M) : Prop := ConP d n as M (fun a b => a = r ∧ b = M2)
end
section
def Cl (d n : Nat) (as : List am_V) (M : am_M) (K : Option am_V → am_M → Prop) : Prop := ∃ (d2 : Nat) (Po : Option am_V → am_M → Prop), d2 < d ∧ ConP d2 n as M Po ∧ ∀ r M2, Po r M2 → K r M2
theorem cl_ {d n d2 : Nat} {as : List am_V} {M M2 : am_M} {r : Option am_V} {K : Option am_V → am_M → Prop} (h : Con d2 n as M r M2) (k : K r M2) (hd : d2 < d := by decide) : Cl d n as M K := ⟨d2, _, hd, h, fun a b hab => by obtain ⟨rfl, rfl⟩ := hab; exact k⟩
theorem clp {d n d2 : Nat} {as : List am_V} {M : am_M} {Po : Option am_V → am_M → Prop} {K : Option am_V → am_M → Prop} (h : ConP d2 n as M Po) (k : ∀ r M2, Po r M2 → K r M2) (hd : d2 < d := by decide) : Cl d n as M K := ⟨d2, _, hd, h, k⟩
def am_nth : am_L → Nat → Option am_V
  | [], _ => none
  | x :: _, 0 => x
  | _ :: t, n + 1 => am_nth t n
def am_set : am_L → Nat → am_V → am_L
  | [], _, _ => []
  | _ :: t, 0, v => some v :: t
  | x :: t, n + 1, v => x :: am_set t n v
def am_none : am_L → Nat → am_L
  | [], _ => []
  | _ :: t, 0 => none :: t
  | x :: t, n + 1 => x :: am_none t n
def am_isL : Option am_V → Bool
  | some (Sum.inr (Sum.inr _)) => true
  | _ => false
/-- a place that may be stored to: not the second half of a long -/
def am_ok1 : am_L → Nat → Bool
  | [], _ => false
  | _ :: _, 0 => true
  | x :: t, n + 1 => match n with
    | 0 => !am_isL x && am_ok1 t 0
    | k + 1 => am_ok1 t (k + 1)
def am_pI (st : List am_V) (f : Int32 → List am_V → Prop) : Prop := match st with
  | Sum.inr (Sum.inl x) :: r => f x r
  | _ => False
def am_pL (st : List am_V) (f : Int64 → List am_V → Prop) : Prop := match st with
  | Sum.inr (Sum.inr x) :: r => f x r
  | _ => False
def am_pR (st : List am_V) (f : Nat → Nat → Nat → List am_V → Prop) : Prop := match st with
  | Sum.inl (k, j, o) :: r => f k j o r
  | _ => False
def am_pA (st : List am_V) (f : am_V → List am_V → Prop) : Prop := match st with
  | Sum.inl (k, j, o) :: r => f (Sum.inl (k, j, o)) r
  | Sum.inr (Sum.inl x) :: r => f (Sum.inr (Sum.inl x)) r
  | _ => False
def am_n1 (ns : List Nat) (f : Nat → Prop) : Prop := match ns with
  | i :: _ => f i
  | [] => False
def am_eI (en : Option am_N) (f : Int32 → Prop) : Prop := match en with
  | some (Sum.inr (Sum.inr (Sum.inl x))) => f x
  | _ => False
def am_ck (b : Bool) (P : Prop) : Prop := match b with
  | true => P
  | false => False
def am_cat : List am_V → Nat
  | [] => 0
  | Sum.inr (Sum.inr _) :: r => 2 + am_cat r
  | _ :: r => 1 + am_cat r
def am_pop : Nat → List am_V → List am_V → Option (List am_V × List am_V)
  | 0, st, acc => some (acc, st)
  | n + 1, v :: st, acc => am_pop n st (v :: acc)
  | _ + 1, [], _ => none
def am_push (r : Option am_V) (rest : List am_V) : List am_V := match r with
  | some v => v :: rest
  | none => rest
def am_al (b : Bool) (k o : Nat) : Option Nat := match o with
  | 0 => none
  | o + 1 => match (am_ar k)[o]? with
    | some q => match q.1, b with
      | true, true => some q.2
      | false, false => some q.2
      | _, _ => none
    | none => none
def am_rcv (k : Nat) (as : List am_V) : Bool := match as with
  | Sum.inl (a, _, o) :: _ => Nat.beq a k && (Nat.beq o 0 || Nat.beq a 13)
  | _ => false
def am_cnd (op : Jvm.ClassFile.Cond) (x y : Int32) (A B : Prop) : Prop := match op with
  | .eq => Br (x = y) A B
  | .ne => Br (x = y) B A
  | .lt => Br (x < y) A B
  | .ge => Br (y ≤ x) A B
  | .gt => Br (y < x) A B
  | .le => Br (x ≤ y) A B
def am_cnd0 (op : Jvm.ClassFile.Cond) (x : Int32) (A B : Prop) : Prop := match op with
  | .eq => Br (x = 0) A B
  | .ne => Br (x = 0) B A
  | .lt => Br (x < 0) A B
  | .ge => Br (0 ≤ x) A B
  | .gt => Br (0 < x) A B
  | .le => Br (x ≤ 0) A B
/-- a switch: the default's target, then target and case, one after the other -/
def am_sw (x : Int32) (K : Nat → Prop) (df : Nat) : List Nat → Prop
  | t :: c :: l => Br (x = Int32.ofNat c) (K t) (am_sw x K df l)
  | _ => K df
def am_ret (ret : Option FieldType) (x : Int32) (P : Prop) : Prop := match ret with
  | some .int => P
  | some ty => Ob (vp_nar ty x = x) P
  | none => False
def am_retL (ret : Option FieldType) (P : Prop) : Prop := match ret with
  | some .long => P
  | _ => False
def am_retV (ret : Option FieldType) (P : Prop) : Prop := match ret with
  | none => P
  | _ => False
/-- an answer is a number -/
def am_res (r : Option am_V) (P : Prop) : Prop := match r with
  | some (Sum.inl _) => False
  | _ => P
def am_call (d n : Nat) (b : Bool) (as rest : List am_V) (M : am_M) (K : List am_V → am_M → Prop) : Prop := am_ck b (am_ck (Nat.ble (am_cat rest) 8) (Cl d n as M (fun r M2 => am_res r (K (am_push r rest) M2))))
def am_callM (d n a : Nat) (kd : Option Nat) (st : List am_V) (M : am_M) (K : List am_V → am_M → Prop) : Prop := match am_pop a st [] with
  | some (as, rest) => am_call d n (match kd with | some k => am_rcv k as | none => true) as rest M K
  | none => False
def am_get (M : am_M) (st : List am_V) (c s : Nat) (K : List am_V → Prop) : Prop := am_pR st fun k j o r => am_ck (Nat.beq k c && Nat.beq o 0) (match (am_ob c)[s]? with
  | some none => K (aI (M k j 0 s) :: r)
  | some (some g) => (match g j with | (k2, j2, o2) => K (Sum.inl (k2, j2, o2) :: r))
  | none => False)
def am_put (M : am_M) (st : List am_V) (c s : Nat) (K : List am_V → am_M → Prop) : Prop := am_pI st fun x r => am_pR r fun k j o r => am_ck (Nat.beq k c && Nat.beq o 0) (match (am_ob c)[s]? with
  | some none => match am_fb c s with
    | false => K r (sA M k j 0 (upd (M k j 0) s x))
    | true => Ob (vp_nar .boolean x = x) (K r (sA M k j 0 (upd (M k j 0) s x)))
  | _ => False)
def am_ild (X : Option (Nat × (Nat → Int32))) (M : am_M) (st : List am_V) (K : List am_V → Prop) : Prop := am_pI st fun i r => am_pR r fun k j o r => match am_al false k o with
  | some n => Ob (vp_in i n) (K (aI (M k j o i.toNatClampNeg) :: r))
  | none => match k with
    | 12 => Ob (vp_in i 6) (K (aI ((am_sc o).getD i.toNatClampNeg 0) :: r))
    | 16 => (match X with | some (L, xs) => Ob (vp_in i L) (K (aI (xs i.toNatClampNeg) :: r)) | none => False)
    | _ => False
def am_bld (M : am_M) (st : List am_V) (K : List am_V → Prop) : Prop := am_pI st fun i r => am_pR r fun k j o r => match am_al true k o with
  | some n => Ob (vp_in i n) (K (aI (M k j o i.toNatClampNeg) :: r))
  | none => match k with
    | 14 => Ob (vp_in i (am_sl.getD o 0)) (K (aI ((am_sb.getD o []).getD i.toNatClampNeg 0) :: r))
    | _ => False
def am_ist (M : am_M) (st : List am_V) (K : List am_V → am_M → Prop) : Prop := am_pI st fun x r => am_pI r fun i r => am_pR r fun k j o r => match am_al false k o with
  | some n => Ob (vp_in i n) (K r (sA M k j o (upd (M k j o) i.toNatClampNeg x)))
  | none => False
def am_bst (M : am_M) (st : List am_V) (K : List am_V → am_M → Prop) : Prop := am_pI st fun x r => am_pI r fun i r => am_pR r fun k j o r => match am_al true k o with
  | some n => Ob (vp_in i n) (K r (sA M k j o (upd (M k j o) i.toNatClampNeg (vp_nar .boolean x))))
  | none => False
def am_len (X : Option (Nat × (Nat → Int32))) (M : am_M) (st : List am_V) (K : List am_V → Prop) : Prop := am_pR st fun k _ o r => match am_al false k o with
  | some n => K (aI (Int32.ofNat n) :: r)
  | none => match k with
    | 12 => K (aI 6 :: r)
    | 14 => K (aI (Int32.ofNat (am_sl.getD o 0)) :: r)
    | 16 => (match X with | some (L, _) => K (aI (Int32.ofNat L) :: r) | none => False)
    | _ => False
def am_cpy (d : Nat) (M : am_M) (st : List am_V) (K : List am_V → am_M → Prop) : Prop := am_pI st fun n r => am_pI r fun dp r => am_pR r fun k1 j1 o1 r => am_pI r fun sp r => am_pR r fun k0 j0 o0 r => am_ck (Nat.ble 1 d && r.isEmpty) (match am_al false k0 o0, am_al false k1 o1 with
  | some n0, some n1 => Ob (¬ sp < 0 ∧ ¬ dp < 0 ∧ ¬ n < 0 ∧ sp.toNatClampNeg + n.toNatClampNeg ≤ n0 ∧ dp.toNatClampNeg + n.toNatClampNeg ≤ n1) (K r (sA M k1 j1 o1 (va_cpy (M k0 j0 o0) (M k1 j1 o1) sp.toNatClampNeg dp.toNatClampNeg n.toNatClampNeg)))
  | _, _ => False)
/-- one instruction: k is what comes behind it, J what stands at a target, Rt what must hold at the end -/
def am_step (d : Nat) (X : Option (Nat × (Nat → Int32))) (ret : Option FieldType) (J : Nat → am_L → List am_V → am_M → Prop) (Rt : Option am_V → am_M → Prop) (el : am_E) (k : am_L → List am_V → am_M → Prop) (lv : am_L) (st : List am_V) (M : am_M) : Prop :=
  match el.2.1 with
  | .iconst _ => am_eI el.2.2.2 fun v => k lv (aI v :: st) M
  | .bipush _ => am_eI el.2.2.2 fun v => k lv (aI v :: st) M
  | .sipush _ => am_eI el.2.2.2 fun v => k lv (aI v :: st) M
  | .ldc _ => (match el.2.2.2 with
    | some (Sum.inr (Sum.inr (Sum.inl v))) => k lv (aI v :: st) M
    | some (Sum.inr (Sum.inr (Sum.inr (Sum.inr (Sum.inl v))))) => k lv (v :: st) M
    | _ => False)
  | .ldc_w _ => am_eI el.2.2.2 fun v => k lv (aI v :: st) M
  | .ldc2_w _ => (match el.2.2.2 with
    | some (Sum.inr (Sum.inr (Sum.inr (Sum.inl v)))) => k lv (aL v :: st) M
    | _ => False)
  | .lconst _ => (match el.2.2.2 with
    | some (Sum.inr (Sum.inr (Sum.inr (Sum.inl v)))) => k lv (aL v :: st) M
    | _ => False)
  | .iload_n _ => am_n1 el.2.2.1 fun i => (match am_nth lv i with | some (Sum.inr (Sum.inl x)) => k lv (aI x :: st) M | _ => False)
  | .iload _ => am_n1 el.2.2.1 fun i => (match am_nth lv i with | some (Sum.inr (Sum.inl x)) => k lv (aI x :: st) M | _ => False)
  | .lload_n _ => am_n1 el.2.2.1 fun i => (match am_nth lv i with | some (Sum.inr (Sum.inr x)) => k lv (aL x :: st) M | _ => False)
  | .lload _ => am_n1 el.2.2.1 fun i => (match am_nth lv i with | some (Sum.inr (Sum.inr x)) => k lv (aL x :: st) M | _ => False)
  | .aload_n _ => am_n1 el.2.2.1 fun i => (match am_nth lv i with | some (Sum.inl (kd, j, o)) => k lv (Sum.inl (kd, j, o) :: st) M | _ => False)
  | .aload _ => am_n1 el.2.2.1 fun i => (match am_nth lv i with | some (Sum.inl (kd, j, o)) => k lv (Sum.inl (kd, j, o) :: st) M | _ => False)
  | .istore_n _ => am_n1 el.2.2.1 fun i => am_pI st fun x r => am_ck (am_ok1 lv i) (k (am_set lv i (aI x)) r M)
  | .istore _ => am_n1 el.2.2.1 fun i => am_pI st fun x r => am_ck (am_ok1 lv i) (k (am_set lv i (aI x)) r M)
  | .astore_n _ => am_n1 el.2.2.1 fun i => am_pR st fun kd j o r => am_ck (am_ok1 lv i && !Nat.beq kd 15) (k (am_set lv i (Sum.inl (kd, j, o))) r M)
  | .lstore_n _ => am_n1 el.2.2.1 fun i => am_pL st fun x r => am_ck (am_ok1 lv i && Nat.blt (i + 1) lv.length) (k (am_none (am_set lv i (aL x)) (i + 1)) r M)
  | .iinc _ _ => am_n1 el.2.2.1 fun i => am_eI el.2.2.2 fun v => (match am_nth lv i with | some (Sum.inr (Sum.inl x)) => am_ck (am_ok1 lv i) (k (am_set lv i (aI (x + v))) st M) | _ => False)
  | .iadd => am_pI st fun y r => am_pI r fun x r => k lv (aI (x + y) :: r) M
  | .isub => am_pI st fun y r => am_pI r fun x r => k lv (aI (x - y) :: r) M
  | .imul => am_pI st fun y r => am_pI r fun x r => k lv (aI (x * y) :: r) M
  | .idiv => am_pI st fun y r => am_pI r fun x r => Ob (¬ y = 0) (k lv (aI (x / y) :: r) M)
  | .irem => am_pI st fun y r => am_pI r fun x r => Ob (¬ y = 0) (k lv (aI (x - x / y * y) :: r) M)
  | .ineg => am_pI st fun x r => k lv (aI (-x) :: r) M
  | .iand => am_pI st fun y r => am_pI r fun x r => k lv (aI (x &&& y) :: r) M
  | .ior => am_pI st fun y r => am_pI r fun x r => k lv (aI (x ||| y) :: r) M
  | .ixor => am_pI st fun y r => am_pI r fun x r => k lv (aI (x ^^^ y) :: r) M
  | .ishl => am_pI st fun y r => am_pI r fun x r => k lv (aI (x <<< (y &&& 31)) :: r) M
  | .ishr => am_pI st fun y r => am_pI r fun x r => k lv (aI (x >>> (y &&& 31)) :: r) M
  | .ladd => am_pL st fun y r => am_pL r fun x r => k lv (aL (x + y) :: r) M
  | .land => am_pL st fun y r => am_pL r fun x r => k lv (aL (x &&& y) :: r) M
  | .lor => am_pL st fun y r => am_pL r fun x r => k lv (aL (x ||| y) :: r) M
  | .lshl => am_pI st fun y r => am_pL r fun x r => k lv (aL (x <<< (y.toInt64 &&& 63)) :: r) M
  | .lshr => am_pI st fun y r => am_pL r fun x r => k lv (aL (x >>> (y.toInt64 &&& 63)) :: r) M
  | .lushr => am_pI st fun y r => am_pL r fun x r => k lv (aL (x.toUInt64 >>> (y.toInt64.toUInt64 &&& Int64.toUInt64 63)).toInt64 :: r) M
  | .lcmp => am_pL st fun y r => am_pL r fun x r => k lv (aI (lg_cmp x y) :: r) M
  | .i2l => am_pI st fun x r => k lv (aL x.toInt64 :: r) M
  | .l2i => am_pL st fun x r => k lv (aI x.toInt32 :: r) M
  | .i2b => am_pI st fun x r => k lv (aI x.toInt8.toInt32 :: r) M
  | .i2s => am_pI st fun x r => k lv (aI x.toInt16.toInt32 :: r) M
  | .i2c => am_pI st fun x r => k lv (aI (x.toUInt32 % 65536).toInt32 :: r) M
  | .dup => am_pA st fun x r => k lv (x :: x :: r) M
  | .dup2 => am_pA st fun x r => am_pA r fun y r => k lv (x :: y :: x :: y :: r) M
  | .pop => am_pA st fun _ r => k lv r M
  | .getfield _ => (match el.2.2.2 with
    | some (Sum.inl (c, s)) => am_get M st c s fun r => k lv r M
    | some (Sum.inr (Sum.inr (Sum.inr (Sum.inr (Sum.inr (Sum.inl n)))))) => am_pR st fun kd _ o r => am_ck (Nat.beq kd 13) (match n with | 0 => k lv (aI 0 :: r) M | _ => k lv (aR 14 0 o :: r) M)
    | _ => False)
  | .putfield _ => (match el.2.2.2 with
    | some (Sum.inl (c, s)) => am_put M st c s fun r M2 => k lv r M2
    | _ => False)
  | .getstatic _ => (match el.2.2.2 with
    | some (Sum.inr (Sum.inr (Sum.inl v))) => k lv (aI v :: st) M
    | some (Sum.inr (Sum.inr (Sum.inr (Sum.inr (Sum.inl v))))) => k lv (v :: st) M
    | _ => False)
  | .arraylength => am_len X M st fun r => k lv r M
  | .iaload => am_ild X M st fun r => k lv r M
  | .baload => am_bld M st fun r => k lv r M
  | .iastore => am_ist M st fun r M2 => k lv r M2
  | .bastore => am_bst M st fun r M2 => k lv r M2
  | .if_icmp op _ => am_n1 el.2.2.1 fun t => am_pI st fun y r => am_pI r fun x r => am_cnd op x y (J t lv r M) (k lv r M)
  | .ifCond op _ => am_n1 el.2.2.1 fun t => am_pI st fun x r => am_cnd0 op x (J t lv r M) (k lv r M)
  | .goto _ => am_n1 el.2.2.1 fun t => J t lv st M
  | .tableswitch _ _ _ _ => (match el.2.2.1 with
    | df :: l => am_pI st fun x r => am_sw x (fun t => J t lv r M) df l
    | [] => False)
  | .invokevirtual _ => (match el.2.2.2 with
    | some (Sum.inr (Sum.inl (n, a, kd))) => am_callM d n a (some kd) st M fun r M2 => k lv r M2
    | _ => False)
  | .invokestatic _ => (match el.2.2.2 with
    | some (Sum.inr (Sum.inl (n, a, _))) => am_callM d n a none st M fun r M2 => k lv r M2
    | some (Sum.inr (Sum.inr (Sum.inr (Sum.inr (Sum.inr (Sum.inr _)))))) => am_cpy d M st fun r M2 => k lv r M2
    | _ => False)
  | .ireturn => am_pI st fun x r => am_ck r.isEmpty (am_ret ret x (Rt (some (aI x)) M))
  | .lreturn => am_pL st fun x r => am_ck r.isEmpty (am_retL ret (Rt (some (aL x)) M))
  | .return_ => am_ck st.isEmpty (am_retV ret (Rt none M))
  | _ => False
def am_to (pc : Nat) : List am_E → List am_E
  | [] => []
  | el :: L => match Nat.beq el.1 pc with
    | true => el :: L
    | false => am_to pc L
/-- what comes behind an instruction: at the places of cut it stands as J -/
def am_rst (d : Nat) (X : Option (Nat × (Nat → Int32))) (ret : Option FieldType) (J : Nat → am_L → List am_V → am_M → Prop) (Rt : Option am_V → am_M → Prop) (cut : List Nat) : List am_E → am_L → List am_V → am_M → Prop
  | [] => fun _ _ _ => False
  | el :: L => match cut.any (Nat.beq el.1) with
    | true => J el.1
    | false => am_step d X ret J Rt el (am_rst d X ret J Rt cut L)
def am_blk (d : Nat) (X : Option (Nat × (Nat → Int32))) (ret : Option FieldType) (J : Nat → am_L → List am_V → am_M → Prop) (Rt : Option am_V → am_M → Prop) (cut : List Nat) : List am_E → am_L → List am_V → am_M → Prop
  | [] => fun _ _ _ => False
  | el :: L => am_step d X ret J Rt el (am_rst d X ret J Rt cut L)
/-- J is closed under the code -/
def am_cl (d : Nat) (X : Option (Nat × (Nat → Int32))) (ret : Option FieldType) (code : List am_E) (J : Nat → am_L → List am_V → am_M → Prop) (Rt : Option am_V → am_M → Prop) : Prop := ∀ (cut : List Nat) (pc : Nat) (lv : am_L) (st : List am_V) (M : am_M), am_blk d X ret J Rt cut (am_to pc code) lv st M → J pc lv st M
def am_args : List am_V → am_L
  | [] => []
  | Sum.inr (Sum.inr x) :: t => some (aL x) :: none :: am_args t
  | v :: t => some v :: am_args t
def am_lv0 (nL : Nat) (as : List am_V) : am_L := am_args as ++ List.replicate (nL - (am_args as).length) none
/-- the code comes to its end as Po wants it -/
def am_Sem (d : Nat) (ret : Option FieldType) (code : List am_E) (lv0 : am_L) (M : am_M) (Po : Option am_V → am_M → Prop) : Prop := ∀ J : Nat → am_L → List am_V → am_M → Prop, am_cl d none ret code J Po → J 0 lv0 [] M
end
section
/-! what is checked of a row of code -/
def am_isw : Instr → Bool
  | .tableswitch _ _ _ _ => true
  | _ => false
def am_ln : Instr → Nat
  | .bipush _ => 2
  | .sipush _ => 3
  | .ldc _ => 2
  | .ldc_w _ => 3
  | .ldc2_w _ => 3
  | .iload _ => 2
  | .lload _ => 2
  | .aload _ => 2
  | .istore _ => 2
  | .iinc _ _ => 3
  | .getfield _ => 3
  | .putfield _ => 3
  | .getstatic _ => 3
  | .if_icmp _ _ => 3
  | .ifCond _ _ => 3
  | .goto _ => 3
  | .invokevirtual _ => 3
  | .invokestatic _ => 3
  | .invokespecial _ => 3
  | .new _ => 3
  | _ => 1
def am_swc (pc : Nat) : Int → List Int → List Nat → Bool
  | _, [], [] => true
  | lo, off :: os, t :: c :: l => decide ((pc : Int) + off = (t : Int)) && decide ((c : Int) = lo) && decide (c < 1000) && am_swc pc (lo + 1) os l
  | _, _, _ => false
def am_eIc (en : Option am_N) (v : Int32) : Bool := match en with
  | some (Sum.inr (Sum.inr (Sum.inl x))) => decide (v = x)
  | _ => true
def am_eLc (en : Option am_N) (v : Int64) : Bool := match en with
  | some (Sum.inr (Sum.inr (Sum.inr (Sum.inl x)))) => decide (v = x)
  | _ => true
def am_n1c (ns : List Nat) (n : Nat) : Bool := match ns with
  | i :: _ => decide (n = i)
  | [] => true
def am_tgc (ns : List Nat) (pc : Nat) (off : Int) : Bool := match ns with
  | t :: _ => decide ((pc : Int) + off = (t : Int))
  | [] => true
def am_sc1 (el : am_E) : Bool := match el.2.1 with
  | .iconst n => am_eIc el.2.2.2 (Int32.ofInt n)
  | .bipush n => am_eIc el.2.2.2 (Int8.ofInt n).toInt32
  | .sipush n => am_eIc el.2.2.2 (Int16.ofInt n).toInt32
  | .lconst n => am_eLc el.2.2.2 (Int64.ofNat (n : Nat))
  | .iload_n n => am_n1c el.2.2.1 n
  | .lload_n n => am_n1c el.2.2.1 n
  | .aload_n n => am_n1c el.2.2.1 n
  | .istore_n n => am_n1c el.2.2.1 n
  | .astore_n n => am_n1c el.2.2.1 n
  | .lstore_n n => am_n1c el.2.2.1 n
  | .iload n => am_n1c el.2.2.1 n
  | .lload n => am_n1c el.2.2.1 n
  | .aload n => am_n1c el.2.2.1 n
  | .istore n => am_n1c el.2.2.1 n
  | .iinc i n => am_n1c el.2.2.1 i && am_eIc el.2.2.2 (Int32.ofInt n)
  | .if_icmp _ off => am_tgc el.2.2.1 el.1 off
  | .ifCond _ off => am_tgc el.2.2.1 el.1 off
  | .goto off => am_tgc el.2.2.1 el.1 off
  | .tableswitch df lo hi offs => am_tgc el.2.2.1 el.1 df && am_swc el.1 lo offs.toList (el.2.2.1.drop 1) && decide (hi + 1 = lo + (offs.toList.length : Int))
  | _ => true
def am_key : Instr → Option (Nat × Nat)
  | .getfield i => some (0, i)
  | .putfield i => some (0, i)
  | .ldc i => some (1, i)
  | .ldc_w i => some (1, i)
  | .ldc2_w i => some (2, i)
  | .getstatic i => some (3, i)
  | .invokevirtual i => some (4, i)
  | .invokestatic i => some (5, i)
  | _ => none
def am_eqV (a b : am_V) : Bool := match a, b with
  | Sum.inl (x, y, z), Sum.inl (x2, y2, z2) => x == x2 && y == y2 && z == z2
  | _, _ => false
theorem am_eqV_ok {a b : am_V} (h : am_eqV a b = true) : a = b := by
  unfold am_eqV at h
  split at h
  · simp only [Bool.and_eq_true, beq_iff_eq] at h
    obtain ⟨⟨rfl, rfl⟩, rfl⟩ := h
    rfl
  · cases h
def am_eqN (a b : am_N) : Bool := match a, b with
  | Sum.inl (x, y), Sum.inl (x2, y2) => x == x2 && y == y2
  | Sum.inr (Sum.inl (x, y, z)), Sum.inr (Sum.inl (x2, y2, z2)) => x == x2 && y == y2 && z == z2
  | Sum.inr (Sum.inr (Sum.inl x)), Sum.inr (Sum.inr (Sum.inl y)) => decide (x = y)
  | Sum.inr (Sum.inr (Sum.inr (Sum.inl x))), Sum.inr (Sum.inr (Sum.inr (Sum.inl y))) => decide (x = y)
  | Sum.inr (Sum.inr (Sum.inr (Sum.inr (Sum.inl x)))), Sum.inr (Sum.inr (Sum.inr (Sum.inr (Sum.inl y)))) => am_eqV x y
  | Sum.inr (Sum.inr (Sum.inr (Sum.inr (Sum.inr (Sum.inl x))))), Sum.inr (Sum.inr (Sum.inr (Sum.inr (Sum.inr (Sum.inl y))))) => x == y
  | Sum.inr (Sum.inr (Sum.inr (Sum.inr (Sum.inr (Sum.inr _))))), Sum.inr (Sum.inr (Sum.inr (Sum.inr (Sum.inr (Sum.inr _))))) => true
  | _, _ => false
theorem am_eqN_ok {a b : am_N} (h : am_eqN a b = true) : a = b := by
  unfold am_eqN at h
  split at h
  · simp only [Bool.and_eq_true, beq_iff_eq] at h
    obtain ⟨rfl, rfl⟩ := h
    rfl
  · simp only [Bool.and_eq_true, beq_iff_eq] at h
    obtain ⟨⟨rfl, rfl⟩, rfl⟩ := h
    rfl
  · rw [of_decide_eq_true h]
  · rw [of_decide_eq_true h]
  · rw [am_eqV_ok h]
  · simp only [beq_iff_eq] at h
    rw [h]
  · rfl
  · cases h
def am_poc (pool : List (Nat × Nat × am_N)) (el : am_E) : Bool := match am_key el.2.1, el.2.2.2 with
  | some (t, i), some e => pool.any (fun q => q.1 == t && q.2.1 == i && am_eqN q.2.2 e)
  | _, _ => true
/-- a code against its bytes and a pool -/
def am_chk (cc : ByteArray) (pool : List (Nat × Nat × am_N)) : List am_E → Bool
  | [] => true
  | el :: L => (match decode cc el.1 with
    | .ok (i, n) => decide (i = el.2.1) && (am_isw i || (n == am_ln i && (match L with | [] => true | e2 :: _ => e2.1 == el.1 + n)))
    | .error _ => false) && am_sc1 el && am_poc pool el && am_chk cc pool L
/-- a call's own words -/
def am_cw (t : am_T) (np : Nat) : Prop := Cond.code t.1 t.2.1 t.2.2.1 t.2.2.2 ∈ gtb ∧ Cond.initialized t.1.cls ∈ gtb ∧ t.1.cls ≠ "java/lang/invoke/MethodHandle" ∧ t.1.cls ≠ "java/lang/invoke/VarHandle" ∧ (parseMethodDescriptor t.1.desc).map (fun d => d.parameters.length) = some np ∧ t.2.2.1 ≤ 45
def am_pk (own : String) (tag idx : Nat) (e : am_N) : Prop := match tag, e with
  | 0, Sum.inl (c, s) => ∃ r : vw_C, am_cls[c]? = some r ∧ s < r.2.2 ∧ Cond.fieldLink own idx (r.2.1 s).1 (r.2.1 s).2.1 (r.2.1 s).2.2.1 ∈ gtb
  | 0, Sum.inr (Sum.inr (Sum.inr (Sum.inr (Sum.inr (Sum.inl n))))) => (n = 0 ∧ Cond.fieldLink own idx "java/lang/String" "coder" "B" ∈ gtb) ∨ (n = 1 ∧ Cond.fieldLink own idx "java/lang/String" "value" "[B" ∈ gtb)
  | 1, Sum.inr (Sum.inr (Sum.inl v)) => Cond.constant own idx v ∈ gtb
  | 1, Sum.inr (Sum.inr (Sum.inr (Sum.inr (Sum.inl v)))) => ∃ i, i < 8 ∧ v = aR 13 0 i ∧ own = "PaperedOver$Reader" ∧ idx = am_si i
  | 2, Sum.inr (Sum.inr (Sum.inr (Sum.inl v))) => Cond.constantLong own idx v ∈ gtb
  | 3, Sum.inr (Sum.inr (Sum.inl v)) => v = 1 ∧ Cond.fieldLink own idx "java/lang/String" "COMPACT_STRINGS" "Z" ∈ gtb
  | 3, Sum.inr (Sum.inr (Sum.inr (Sum.inr (Sum.inl v)))) => (∃ i, i < 3 ∧ v = aR 12 0 i ∧ Cond.fieldLink own idx (am_sa i).1 (am_sa i).2 "[I" ∈ gtb) ∨ (v = aR 15 0 0 ∧ Cond.fieldLink own idx "jdk/internal/util/Preconditions" "SIOOBE_FORMATTER" "Ljava/util/function/BiFunction;" ∈ gtb)
  | 4, Sum.inr (Sum.inl (n, a, kd)) => ∃ np, a = np + 1 ∧ am_cw (mt n) np ∧ Cond.methodLink own idx (mt n).1 ∈ gtb ∧ Cond.instanceMethod (mt n).1 ∈ gtb ∧ Cond.selects (mt n).1.cls (mt n).1 (mt n).1 ∈ gtb ∧ ((∃ r : vw_C, am_cls[kd]? = some r ∧ r.1 = (mt n).1.cls) ∨ (kd = 13 ∧ (mt n).1.cls = "java/lang/String"))
  | 5, Sum.inr (Sum.inl (n, a, _)) => am_cw (mt n) a ∧ Cond.static (mt n).1 ∈ gtb ∧ (Cond.methodLink own idx (mt n).1 ∈ gtb ∨ Cond.methodLinkNest own idx (mt n).1 "PaperedOver" ∈ am_nw)
  | 5, Sum.inr (Sum.inr (Sum.inr (Sum.inr (Sum.inr (Sum.inr _))))) => Cond.methodLink own idx arraycopyName ∈ gtb ∧ Cond.native arraycopyName ∈ gtb ∧ Cond.static arraycopyName ∈ gtb ∧ Cond.initialized "java/lang/System" ∈ gtb
  | _, _ => True
end
section
/-! inversions of the machine's words -/
theorem pI_inv {st : List am_V} {f : Int32 → List am_V → Prop} (h : am_pI st f) : ∃ x r, st = aI x :: r ∧ f x r := by
  unfold am_pI at h
  split at h
  · exact ⟨_, _, rfl, h⟩
  · exact h.elim
theorem pL_inv {st : List am_V} {f : Int64 → List am_V → Prop} (h : am_pL st f) : ∃ x r, st = aL x :: r ∧ f x r := by
  unfold am_pL at h
  split at h
  · exact ⟨_, _, rfl, h⟩
  · exact h.elim
theorem pR_inv {st : List am_V} {f : Nat → Nat → Nat → List am_V → Prop} (h : am_pR st f) : ∃ k j o r, st = aR k j o :: r ∧ f k j o r := by
  unfold am_pR at h
  split at h
  · exact ⟨_, _, _, _, rfl, h⟩
  · exact h.elim
theorem pA_inv {st : List am_V} {f : am_V → List am_V → Prop} (h : am_pA st f) : ∃ v r, st = v :: r ∧ (∀ x, v ≠ aL x) ∧ f v r := by
  unfold am_pA at h
  split at h
  · exact ⟨_, _, rfl, (fun x q => by cases q), h⟩
  · exact ⟨_, _, rfl, (fun x q => by cases q), h⟩
  · exact h.elim
theorem n1_inv {ns : List Nat} {f : Nat → Prop} (h : am_n1 ns f) : ∃ i l, ns = i :: l ∧ f i := by
  unfold am_n1 at h
  split at h
  · exact ⟨_, _, rfl, h⟩
  · exact h.elim
theorem eI_inv {en : Option am_N} {f : Int32 → Prop} (h : am_eI en f) : ∃ x, en = some (eI x) ∧ f x := by
  unfold am_eI at h
  split at h
  · exact ⟨_, rfl, h⟩
  · exact h.elim
theorem ck_inv {b : Bool} {P : Prop} (h : am_ck b P) : b = true ∧ P := by
  unfold am_ck at h
  split at h
  · exact ⟨rfl, h⟩
  · exact h.elim
/-! the world -/
theorem am_nodup : am_all.Nodup := by decide +kernel
theorem am_no15 : ∀ q ∈ am_all, ¬ q.1 = 15 := by decide +kernel
theorem am_ro15 : ∀ q ∈ am_ro, q.1 = 15 ∨ ¬ q.1 = 15 := by decide +kernel
section Wl
variable {ad : Nat × Nat × Nat → Nat} {fv : Value} {cI cZ : ClassId}
theorem cv_ref {q : Nat × Nat × Nat} (h : ¬ q.1 = 15) : cv ad fv (Sum.inl q) = .ref (ad q) := by simp [cv, h]
theorem wl_at {M : am_M} {p : Nat} {q : Nat × Nat × Nat} (h : am_all[p]? = some q) : (am_wl ad cI cZ M)[p]? = some (ad q, am_cell ad cI cZ M q) := by simp [am_wl, h]
theorem wl_set {M M2 : am_M} {p : Nat} {q : Nat × Nat × Nat} (h : am_all[p]? = some q) (hM : ∀ q2, q2 ≠ q → am_cell ad cI cZ M2 q2 = am_cell ad cI cZ M q2) : (am_wl ad cI cZ M).set p (ad q, am_cell ad cI cZ M2 q) = am_wl ad cI cZ M2 := by
  apply List.ext_getElem?
  intro i
  by_cases hi : i = p
  · subst hi
    have hl := (List.getElem?_eq_some_iff.mp (wl_at (ad := ad) (cI := cI) (cZ := cZ) (M := M) h)).1
    rw [List.getElem?_set_self hl, wl_at h]
  · rw [List.getElem?_set_ne (Ne.symm hi)]
    simp only [am_wl, List.getElem?_map]
    cases hq : am_all[i]? with
    | none => rfl
    | some q2 =>
      have hne : q2 ≠ q := by
        intro e
        subst e
        exact hi ((List.getElem?_inj (List.getElem?_eq_some_iff.mp hq).1 am_nodup).mp (hq.trans h.symm))
      simp [hM q2 hne]
theorem fl_congr {M M2 : am_M} {k j : Nat} (h : M2 k j 0 = M k j 0) : ∀ (L : List (Option (Nat → Nat × Nat × Nat))) (i : Nat), am_fl ad M2 k j i L = am_fl ad M k j i L
  | [], _ => rfl
  | none :: t, i => by
    show Value.int (M2 k j 0 i) :: am_fl ad M2 k j (i + 1) t = Value.int (M k j 0 i) :: am_fl ad M k j (i + 1) t
    rw [h, fl_congr h t (i + 1)]
  | some g :: t, i => by
    show Value.ref (ad (g j)) :: am_fl ad M2 k j (i + 1) t = Value.ref (ad (g j)) :: am_fl ad M k j (i + 1) t
    rw [fl_congr h t (i + 1)]
theorem fl_none {M : am_M} {k j : Nat} : ∀ (L : List (Option (Nat → Nat × Nat × Nat))) (i s : Nat), L[s]? = some none → (am_fl ad M k j i L)[s]? = some (.int (M k j 0 (i + s)))
  | [], _, _, h => by simp at h
  | none :: t, i, 0, _ => rfl
  | some g :: t, i, 0, h => by simp at h
  | none :: t, i, s + 1, h => by
    show (Value.int (M k j 0 i) :: am_fl ad M k j (i + 1) t)[s + 1]? = _
    rw [List.getElem?_cons_succ, fl_none t (i + 1) s (by simpa using h), Nat.add_right_comm, Nat.add_assoc]
  | some g :: t, i, s + 1, h => by
    show (Value.ref (ad (g j)) :: am_fl ad M k j (i + 1) t)[s + 1]? = _
    rw [List.getElem?_cons_succ, fl_none t (i + 1) s (by simpa using h), Nat.add_right_comm, Nat.add_assoc]
theorem fl_some {M : am_M} {k j : Nat} {g : Nat → Nat × Nat × Nat} : ∀ (L : List (Option (Nat → Nat × Nat × Nat))) (i s : Nat), L[s]? = some (some g) → (am_fl ad M k j i L)[s]? = some (.ref (ad (g j)))
  | [], _, _, h => by simp at h
  | none :: t, i, 0, h => by simp at h
  | some g2 :: t, i, 0, h => by
    simp at h
    subst h
    rfl
  | none :: t, i, s + 1, h => by
    show (Value.int (M k j 0 i) :: am_fl ad M k j (i + 1) t)[s + 1]? = _
    rw [List.getElem?_cons_succ, fl_some t (i + 1) s (by simpa using h)]
  | some g2 :: t, i, s + 1, h => by
    show (Value.ref (ad (g2 j)) :: am_fl ad M k j (i + 1) t)[s + 1]? = _
    rw [List.getElem?_cons_succ, fl_some t (i + 1) s (by simpa using h)]
theorem fl_len {M : am_M} {k j : Nat} : ∀ (L : List (Option (Nat → Nat × Nat × Nat))) (i : Nat), (am_fl ad M k j i L).length = L.length
  | [], _ => rfl
  | none :: t, i => by
    show (am_fl ad M k j (i + 1) t).length + 1 = _
    rw [fl_len t (i + 1)]; rfl
  | some g :: t, i => by
    show (am_fl ad M k j (i + 1) t).length + 1 = _
    rw [fl_len t (i + 1)]; rfl
theorem fl_set {M M2 : am_M} {k j : Nat} {x : Int32} : ∀ (L : List (Option (Nat → Nat × Nat × Nat))) (i s : Nat), L[s]? = some none → M2 k j 0 = upd (M k j 0) (i + s) x → (am_fl ad M k j i L).set s (.int x) = am_fl ad M2 k j i L
  | [], _, _, h, _ => by simp at h
  | none :: t, i, 0, _, hM => by
    have h1 : am_fl ad M2 k j (i + 1) t = am_fl ad M k j (i + 1) t := by
      have key : ∀ (t : List (Option (Nat → Nat × Nat × Nat))) (n : Nat), i < n → am_fl ad M2 k j n t = am_fl ad M k j n t := by
        intro t
        induction t with
        | nil => intro n _; rfl
        | cons a t ih =>
          intro n hn
          cases a with
          | none =>
            show Value.int (M2 k j 0 n) :: am_fl ad M2 k j (n + 1) t = Value.int (M k j 0 n) :: am_fl ad M k j (n + 1) t
            rw [ih (n + 1) (by omega), hM]
            have : ¬ n = i + 0 := by omega
            simp only [upd, if_neg this]
          | some g =>
            show Value.ref (ad (g j)) :: am_fl ad M2 k j (n + 1) t = Value.ref (ad (g j)) :: am_fl ad M k j (n + 1) t
            rw [ih (n + 1) (by omega)]
      exact key t (i + 1) (by omega)
    show Value.int x :: am_fl ad M k j (i + 1) t = Value.int (M2 k j 0 i) :: am_fl ad M2 k j (i + 1) t
    rw [h1, hM]
    simp [upd]
  | some g :: t, i, 0, h, _ => by simp at h
  | none :: t, i, s + 1, h, hM => by
    show Value.int (M k j 0 i) :: (am_fl ad M k j (i + 1) t).set s (.int x) = Value.int (M2 k j 0 i) :: am_fl ad M2 k j (i + 1) t
    rw [fl_set (M2 := M2) t (i + 1) s (by simpa using h) (by rw [hM]; congr 1; omega), hM]
    have : ¬ i = i + (s + 1) := by omega
    simp only [upd, if_neg this]
  | some g :: t, i, s + 1, h, hM => by
    show Value.ref (ad (g j)) :: (am_fl ad M k j (i + 1) t).set s (.int x) = Value.ref (ad (g j)) :: am_fl ad M2 k j (i + 1) t
    rw [fl_set (M2 := M2) t (i + 1) s (by simpa using h) (by rw [hM]; congr 1; omega)]
theorem sA_same {M : am_M} {k j o : Nat} {f : Nat → Int32} : sA M k j o f k j o = f := by simp [sA]
theorem sA_ne {M : am_M} {k j o : Nat} {f : Nat → Int32} {a b c : Nat} (h : ¬ (a, b, c) = (k, j, o)) : sA M k j o f a b c = M a b c := by
  have h2 : ¬ (a = k ∧ b = j ∧ c = o) := fun q => h (by rw [q.1, q.2.1, q.2.2])
  simp only [sA, if_neg h2]
theorem cell_ne {M : am_M} {k j o : Nat} {f : Nat → Int32} : ∀ q2 : Nat × Nat × Nat, q2 ≠ (k, j, o) → am_cell ad cI cZ (sA M k j o f) q2 = am_cell ad cI cZ M q2 := by
  rintro ⟨a, b, c⟩ hne
  unfold am_cell
  cases c with
  | zero =>
    show Sum.inr (a, am_fl ad (sA M k j o f) a b 0 (am_ob a)) = Sum.inr (a, am_fl ad M a b 0 (am_ob a))
    rw [fl_congr (sA_ne hne)]
  | succ c =>
    show (match (am_ar a)[c]? with
      | some bn => Sum.inl (if bn.1 = true then cZ else cI, bn.2, Sum.inl (sA M k j o f a b (c + 1)))
      | none => Sum.inl (cI, 0, Sum.inl (fun _ => 0))) = (match (am_ar a)[c]? with
      | some bn => Sum.inl (if bn.1 = true then cZ else cI, bn.2, Sum.inl (M a b (c + 1)))
      | none => Sum.inl (cI, 0, Sum.inl (fun _ => 0)))
    rw [sA_ne hne]
/-- an array's cell, by its sort -/
theorem cell_arr {M : am_M} {b : Bool} {k j o n : Nat} (h : am_al b k o = some n) : am_cell ad cI cZ M (k, j, o) = .inl (if b then cZ else cI, n, .inl (M k j o)) := by
  unfold am_al at h
  cases o with
  | zero => cases h
  | succ o =>
    dsimp only at h
    show (match (am_ar k)[o]? with
      | some bn => Sum.inl (if bn.1 = true then cZ else cI, bn.2, Sum.inl (M k j (o + 1)))
      | none => Sum.inl (cI, 0, Sum.inl (fun _ => 0))) = _
    cases hq : (am_ar k)[o]? with
    | none => rw [hq] at h; cases h
    | some q =>
      rw [hq] at h
      obtain ⟨q1, q2⟩ := q
      cases q1 <;> cases b <;> first | (cases h; rfl) | cases h
end Wl
/-! locals -/
def am_H (ad : Nat × Nat × Nat → Nat) (fv : Value) (ls : Array Slot) (nL : Nat) (lv : am_L) : Prop := ls.size = nL ∧ lv.length = nL ∧ lv_wf ls ∧ ∀ (i : Nat) (v : am_V), am_nth lv i = some v → ls[i]? = some (.val (cv ad fv v))
def am_as (ad : Nat × Nat × Nat → Nat) (fv : Value) (lv : am_L) : List (Nat × Value) := (List.range lv.length).filterMap (fun i => (am_nth lv i).map (fun v => (i, cv ad fv v)))
theorem nth_lt : ∀ {lv : am_L} {i : Nat} {v : am_V}, am_nth lv i = some v → i < lv.length
  | [], i, v, h => by simp [am_nth] at h
  | x :: t, 0, v, h => by simp
  | x :: t, i + 1, v, h => by
    have := nth_lt (lv := t) (i := i) h
    simp; omega
theorem as_mem {ad : Nat × Nat × Nat → Nat} {fv : Value} {lv : am_L} {i : Nat} {v : am_V} (h : am_nth lv i = some v) : (i, cv ad fv v) ∈ am_as ad fv lv := List.mem_filterMap.mpr ⟨i, List.mem_range.mpr (nth_lt h), by rw [h]; rfl⟩
theorem as_has {ad : Nat × Nat × Nat → Nat} {fv : Value} {ls : Array Slot} {nL : Nat} {lv : am_L} (h : am_H ad fv ls nL lv) : lv_has ls nL (am_as ad fv lv) := by
  refine ⟨h.1, h.2.2.1, fun q hq => ?_⟩
  obtain ⟨i, -, hi⟩ := List.mem_filterMap.mp hq
  cases hv : am_nth lv i with
  | none => rw [hv] at hi; cases hi
  | some v =>
    rw [hv] at hi
    cases hi
    exact h.2.2.2 i v hv
theorem set_nth : ∀ {lv : am_L} {i j : Nat} {v w : am_V}, am_nth (am_set lv i v) j = some w → (j = i ∧ w = v) ∨ (j ≠ i ∧ am_nth lv j = some w)
  | [], i, j, v, w, h => by simp [am_set, am_nth] at h
  | x :: t, 0, 0, v, w, h => by
    left
    simp [am_set, am_nth] at h
    exact ⟨rfl, h.symm⟩
  | x :: t, 0, j + 1, v, w, h => Or.inr ⟨by omega, h⟩
  | x :: t, i + 1, 0, v, w, h => Or.inr ⟨by omega, h⟩
  | x :: t, i + 1, j + 1, v, w, h => by
    rcases set_nth (lv := t) (i := i) (j := j) h with ⟨a, b⟩ | ⟨a, b⟩
    · exact Or.inl ⟨by omega, b⟩
    · exact Or.inr ⟨by omega, b⟩
theorem none_nth : ∀ {lv : am_L} {i j : Nat} {w : am_V}, am_nth (am_none lv i) j = some w → j ≠ i ∧ am_nth lv j = some w
  | [], i, j, w, h => by simp [am_none, am_nth] at h
  | x :: t, 0, 0, w, h => by simp [am_none, am_nth] at h
  | x :: t, 0, j + 1, w, h => ⟨by omega, h⟩
  | x :: t, i + 1, 0, w, h => ⟨by omega, h⟩
  | x :: t, i + 1, j + 1, w, h => by
    obtain ⟨a, b⟩ := none_nth (lv := t) (i := i) (j := j) h
    exact ⟨by omega, b⟩
theorem set_len : ∀ (lv : am_L) (i : Nat) (v : am_V), (am_set lv i v).length = lv.length
  | [], _, _ => rfl
  | _ :: _, 0, _ => rfl
  | x :: t, i + 1, v => by simp [am_set, set_len t i v]
theorem none_len : ∀ (lv : am_L) (i : Nat), (am_none lv i).length = lv.length
  | [], _ => rfl
  | _ :: _, 0 => rfl
  | x :: t, i + 1 => by simp [am_none, none_len t i]
theorem ok1_lt : ∀ {lv : am_L} {i : Nat}, am_ok1 lv i = true → i < lv.length
  | [], i, h => by simp [am_ok1] at h
  | x :: t, 0, h => by simp
  | x :: t, 1, h => by
    simp only [am_ok1, Bool.and_eq_true] at h
    have := ok1_lt (lv := t) (i := 0) h.2
    simp; omega
  | x :: t, i + 2, h => by
    have := ok1_lt (lv := t) (i := i + 1) h
    simp; omega
theorem ok1_prev : ∀ {lv : am_L} {i : Nat} {v : am_V}, am_ok1 lv (i + 1) = true → am_nth lv i = some v → ∀ x, v ≠ aL x
  | [], i, v, h, _ => by simp [am_ok1] at h
  | x :: t, 0, v, h, hv => by
    simp only [am_ok1, Bool.and_eq_true] at h
    intro y hy
    subst hy
    have hx : x = some (aL y) := hv
    subst hx
    simp [am_isL] at h
  | x :: t, i + 1, v, h, hv => ok1_prev (lv := t) (i := i) h hv
theorem cv_cat1 {ad : Nat × Nat × Nat → Nat} {fv : Value} (hf : fv = .null ∨ ∃ t : Nat, fv = .ref t) {v : am_V} (h : ∀ x, v ≠ aL x) : (cv ad fv v).category = 1 := by
  rcases v with q | x | x
  · by_cases hq : q.1 = 15
    · rcases hf with rfl | ⟨t, rfl⟩ <;> simp [cv, hq, Value.category]
    · simp [cv, hq, Value.category]
  · rfl
  · exact absurd rfl (h x)
theorem H_set1 {ad : Nat × Nat × Nat → Nat} {fv : Value} (hf : fv = .null ∨ ∃ t : Nat, fv = .ref t) {ls ls2 : Array Slot} {nL i : Nat} {lv : am_L} {v : am_V} (h : am_H ad fv ls nL lv) (ho : am_ok1 lv i = true) (h2 : lv_has ls2 nL ((i, cv ad fv v) :: (am_as ad fv lv).filter (fun q => !(q.1 == i) && !(q.1 + 1 == i && q.2.category == 2)))) : am_H ad fv ls2 nL (am_set lv i v) := by
  refine ⟨h2.1, (set_len lv i v).trans h.2.1, h2.2.1, fun j w hw => ?_⟩
  rcases set_nth hw with ⟨rfl, rfl⟩ | ⟨hne, hw3⟩
  · exact h2.2.2 _ List.mem_cons_self
  · refine h2.2.2 (j, cv ad fv w) (List.mem_cons_of_mem _ (List.mem_filter.mpr ⟨as_mem hw3, ?_⟩))
    by_cases hj : j + 1 = i
    · subst hj
      have := cv_cat1 (ad := ad) hf (ok1_prev ho hw3)
      simp [this]
    · simp [hne, hj]
theorem H_set2 {ad : Nat × Nat × Nat → Nat} {fv : Value} (hf : fv = .null ∨ ∃ t : Nat, fv = .ref t) {ls ls2 : Array Slot} {nL i : Nat} {lv : am_L} {v : am_V} (h : am_H ad fv ls nL lv) (ho : am_ok1 lv i = true) (h2 : lv_has ls2 nL ((i, cv ad fv v) :: (am_as ad fv lv).filter (fun q => !(q.1 == i) && (!(q.1 == i + 1) && !(q.1 + 1 == i && q.2.category == 2))))) : am_H ad fv ls2 nL (am_none (am_set lv i v) (i + 1)) := by
  refine ⟨h2.1, (none_len _ _).trans ((set_len lv i v).trans h.2.1), h2.2.1, fun j w hw => ?_⟩
  obtain ⟨hn1, hw⟩ := none_nth hw
  rcases set_nth hw with ⟨rfl, rfl⟩ | ⟨hne, hw3⟩
  · exact h2.2.2 _ List.mem_cons_self
  · refine h2.2.2 (j, cv ad fv w) (List.mem_cons_of_mem _ (List.mem_filter.mpr ⟨as_mem hw3, ?_⟩))
    by_cases hj : j + 1 = i
    · subst hj
      have := cv_cat1 (ad := ad) hf (ok1_prev ho hw3)
      simp [this, hn1]
    · simp [hne, hj, hn1]
def am_lvl (lv : am_L) : Prop := ∀ (i : Nat) (v : am_V), am_nth lv i = some v → am_vl v
theorem lvl_set {lv : am_L} {i : Nat} {v : am_V} (h : am_lvl lv) (hv : am_vl v) : am_lvl (am_set lv i v) := by
  intro j w hw
  rcases set_nth hw with ⟨-, rfl⟩ | ⟨-, hw⟩
  · exact hv
  · exact h j w hw
theorem lvl_none {lv : am_L} {i : Nat} (h : am_lvl lv) : am_lvl (am_none lv i) := fun j w hw => h j w (none_nth hw).2
/-! a switch -/
theorem ofNat_toInt {c : Nat} (h : c < 1000) : (Int32.ofNat c).toInt = (c : Int) := nI_toInt (n := c) (by omega)
theorem sw_in {pc : Nat} {x : Int32} {K : Nat → Prop} {df : Nat} : ∀ (os : List Int) (l : List Nat) (lo : Int) (i : Nat) (off : Int), am_swc pc lo os l = true → os[i]? = some off → x.toInt = lo + i → am_sw x K df l → ∃ t : Nat, (pc : Int) + off = (t : Int) ∧ K t
  | [], l, lo, i, off, _, h, _, _ => by simp at h
  | o :: os, [], lo, i, off, h, _, _, _ => by simp [am_swc] at h
  | o :: os, [t], lo, i, off, h, _, _, _ => by simp [am_swc] at h
  | o :: os, t :: c :: l, lo, 0, off, h, ho, hx, hs => by
    simp only [am_swc, Bool.and_eq_true, decide_eq_true_eq] at h
    simp at ho
    subst ho
    refine ⟨t, h.1.1.1, hs.1 (Int32.toInt_inj.mp ?_)⟩
    rw [ofNat_toInt h.1.2, h.1.1.2, hx]
    simp
  | o :: os, t :: c :: l, lo, i + 1, off, h, ho, hx, hs => by
    simp only [am_swc, Bool.and_eq_true, decide_eq_true_eq] at h
    have hne : ¬ x = Int32.ofNat c := by
      intro e
      rw [e, ofNat_toInt h.1.2, h.1.1.2] at hx
      omega
    exact sw_in os l (lo + 1) i off h.2 (by simpa using ho) (by rw [hx]; omega) (hs.2 hne)
theorem sw_out {pc : Nat} {x : Int32} {K : Nat → Prop} {df : Nat} : ∀ (os : List Int) (l : List Nat) (lo : Int), am_swc pc lo os l = true → (x.toInt < lo ∨ lo + os.length ≤ x.toInt) → am_sw x K df l → K df
  | [], [], lo, _, _, hs => hs
  | [], t :: l, lo, h, _, _ => by simp [am_swc] at h
  | o :: os, [], lo, h, _, _ => by simp [am_swc] at h
  | o :: os, [t], lo, h, _, _ => by simp [am_swc] at h
  | o :: os, t :: c :: l, lo, h, hx, hs => by
    simp only [am_swc, Bool.and_eq_true, decide_eq_true_eq] at h
    have hne : ¬ x = Int32.ofNat c := by
      intro e
      rw [e, ofNat_toInt h.1.2, h.1.1.2] at hx
      simp at hx
      omega
    exact sw_out os l (lo + 1) h.2 (by simp at hx; omega) (hs.2 hne)
end
section
section Snd
variable {p : Program} {l : Launch} {e : Env} {R : Room} {s : State} {m : MethodId} {args : Array Value} {below : List Frame} {meth : Method} {c : Code} {cells slots : Nat} {Q : State → Prop} {cc : ByteArray} {nL : Nat} {own : String} {D : va_G} {ad : Nat × Nat × Nat → Nat} {fv : Value} {cI cZ : ClassId} {A : Nat → Prop} {d : Nat} {X : Option (Nat × (Nat → Int32))} {ret : Option FieldType} {Rt : Option am_V → am_M → Prop}
def am_J (p : Program) (l : Launch) (e : Env) (R : Room) (s : State) (m : MethodId) (args : Array Value) (below : List Frame) (meth : Method) (c : Code) (cells slots : Nat) (Q : State → Prop) (nL : Nat) (D : va_G) (ad : Nat × Nat × Nat → Nat) (fv : Value) (cI cZ : ClassId) (A : Nat → Prop) : Nat → am_L → List am_V → am_M → Prop := fun pc lv st M =>
  ∀ (H : Heap) (locs : List Loc) (ls : Array Slot), va_P D am_cls (am_wl ad cI cZ M) H → va_S A s.heap H locs → am_H ad fv ls nL lv → am_lvl lv → (∀ v ∈ st, am_vl v) → W p l e R s m args below meth c H locs cells slots Q (F0 m pc ls (st.map (cv ad fv)))
def am_X (X : Option (Nat × (Nat → Int32))) (ad : Nat × Nat × Nat → Nat) (s : State) (A : Nat → Prop) : Prop := match X with
  | none => True
  | some (L, xs) => va_X (ad (16, 0, 0)) L xs s s.heap ∧ ad (16, 0, 0) < s.heap.size ∧ ¬ A (ad (16, 0, 0))
def am_Cx (p : Program) (R : Room) (s : State) (m : MethodId) (args : Array Value) (c : Code) (cells slots : Nat) (cc : ByteArray) (nL : Nat) (own : String) (D : va_G) (ad : Nat × Nat × Nat → Nat) (fv : Value) (cI cZ : ClassId) (A : Nat → Prop) (d : Nat) (X : Option (Nat × (Nat → Int32))) : Prop :=
  p.tables.exec = Jvm.exec ∧ c.code = cc ∧ c.maxLocals = nL ∧ s.vm.findClass own = some m.cls ∧ (∀ w ∈ gtb, w.before args s = true) ∧ va_K D am_cls [(cI, .int), (cZ, .boolean)] s ∧ (∀ M, va_D A (am_wl ad cI cZ M)) ∧ am_Ev ad fv A s s.heap ∧ (d ≤ R.frames ∧ 64 * d ≤ R.locals) ∧ (cells ≤ R.cells ∧ slots ≤ R.slots) ∧ am_X X ad s A
theorem Af_A (hD : ∀ M, va_D A (am_wl ad cI cZ M)) : ∀ q, am_Af ad q → A q := by
  rintro q ⟨k, hk, rfl⟩
  obtain ⟨i, hi⟩ := List.getElem?_of_mem hk
  exact (hD (fun _ _ _ _ => 0)).2 i _ (wl_at hi)
theorem D_Af (hD : ∀ M, va_D A (am_wl ad cI cZ M)) (M : am_M) : va_D (am_Af ad) (am_wl ad cI cZ M) := by
  refine (hD M).weaken (fun k q hq _ => ?_)
  simp only [am_wl, List.getElem?_map] at hq
  cases hk : am_all[k]? with
  | none => rw [hk] at hq; cases hq
  | some x =>
    rw [hk] at hq
    cases hq
    exact ⟨x, List.mem_of_getElem? hk, rfl⟩
theorem gin {L : List Cond} (h : ∀ w ∈ L, w ∈ gtb) : GoodIn gtb L := fun w hw => gtb_good w (h w hw)
theorem am_ws_in {t : am_T} (h : Cond.code t.1 t.2.1 t.2.2.1 t.2.2.2 ∈ gtb) : ∀ w ∈ am_ws t, w ∈ gtb := by
  intro w hw
  rcases List.mem_cons.mp hw with rfl | hw
  · exact h
  · exact hw
theorem am_run {H : Heap} {locs : List Loc} {ls : Array Slot} {pc : Nat} {st0 rest : List Value} {a : Array Value} {Po : Option am_V → am_M → Prop} (hr : va_Run p l e R s m args below meth c H locs cells slots 0 0 (F0 m pc ls st0) rest (am_Q D ad fv cI cZ Po a) (am_Af ad)) (hS : va_S A s.heap H locs) (hA : ∀ q, am_Af ad q → A q)
    (kk : ∀ (r : Option am_V) (M2 : am_M), Po r M2 → ∀ (H1 : Heap) (locs1 : List Loc), va_P D am_cls (am_wl ad cI cZ M2) H1 → va_S A s.heap H1 locs1 → W p l e R s m args below meth c H1 locs1 cells slots Q (F0 m (pc + 3) ls ((r.map (cv ad fv)).toList ++ rest))) : W p l e R s m args below meth c H locs cells slots Q (F0 m pc ls st0) := by
  intro T hT X'
  obtain ⟨v, st₀, t, T', L, h0, X', hL, e1, e2, ⟨r, M2, hpo, hv, hp, hz, hk⟩, st⟩ := hr T hT X'
  have hv2 : v = r.map (cv ad fv) := by injection hv
  subst hv2
  rw [h0] at hz hk
  obtain ⟨t2, a1, b1⟩ := kk r M2 hpo T'.heap (locs ++ L) (by rw [e1]; exact hp) ⟨Nat.le_trans hS.1 (by rw [e1]; exact hz), fun q h1 h2 => by rw [e1, hk q (Nat.lt_of_lt_of_le h1 hS.1) (fun z => h2 (hA q z))]; exact hS.2.1 q h1 h2, fun q hq => by
      rcases List.mem_append.mp hq with h | h
      · exact hS.2.2 q h
      · exact hA _ (hL q h)⟩ T' rfl X'
  exact ⟨t2, st t2 a1, b1⟩
theorem am_blind {M : am_M} {av : List Value} : FrameBlind (va_Pc av (am_B D ad fv cI cZ M)) := by
  intro a U g mk h
  obtain ⟨h1, h2, h3, h4, h5⟩ := h
  exact ⟨h1, h2, h3, va_K.moved (u := U) (U := U.calling g mk a) (Vm.Alike.refl U.vm) h4, h5.call⟩
theorem am_pre (C : am_Cx p R s m args c cells slots cc nL own D ad fv cI cZ A d X) {H : Heap} {locs : List Loc} {M : am_M} (hP : va_P D am_cls (am_wl ad cI cZ M) H) (hS : va_S A s.heap H locs) {av : List Value} : ∀ U : State, U.heap = H → s.WarmedH U.vm → va_Pc av (am_B D ad fv cI cZ M) av.toArray U := by
  obtain ⟨hx, hb, hml, hown, hts, hK, hD, hE, hR, hR2, hX⟩ := C
  intro U hU hW
  exact ⟨rfl, by rw [hU]; exact hP, D_Af hD M, va_K.moved hW.alike hK, hE.go hS hU hW (Af_A hD)⟩
theorem cat_sum (hf : fv = .null ∨ ∃ t : Nat, fv = .ref t) : ∀ rest : List am_V, ((rest.map (cv ad fv)).map fun v => v.category).sum = am_cat rest
  | [] => rfl
  | Sum.inl q :: r => by
    have h1 := cv_cat1 (ad := ad) hf (v := Sum.inl q) (fun x h => by cases h)
    simp only [List.map_cons, List.sum_cons, h1, am_cat]
    rw [cat_sum hf r]
  | Sum.inr (Sum.inl x) :: r => by
    have h1 := cv_cat1 (ad := ad) hf (v := Sum.inr (Sum.inl x)) (fun x h => by cases h)
    simp only [List.map_cons, List.sum_cons, h1, am_cat]
    rw [cat_sum hf r]
  | Sum.inr (Sum.inr x) :: r => by
    simp only [List.map_cons, List.sum_cons, am_cat]
    rw [cat_sum hf r]
    rfl
theorem pop_inv : ∀ (n : Nat) (st acc as rest : List am_V), am_pop n st acc = some (as, rest) → ∃ bs, st = bs ++ rest ∧ as = bs.reverse ++ acc ∧ bs.length = n
  | 0, st, acc, as, rest, h => by
    simp only [am_pop, Option.some.injEq, Prod.mk.injEq] at h
    exact ⟨[], by simp [h.2], by simp [h.1], rfl⟩
  | n + 1, [], acc, as, rest, h => by simp [am_pop] at h
  | n + 1, v :: st, acc, as, rest, h => by
    obtain ⟨bs, h1, h2, h3⟩ := pop_inv n st (v :: acc) as rest h
    exact ⟨v :: bs, by simp [h1], by simp [h2], by simp [h3]⟩
/-- a call of a static method -/
theorem am_callS (C : am_Cx p R s m args c cells slots cc nL own D ad fv cI cZ A d X) {n d2 idx pc kd : Nat} {as rest : List am_V} {M : am_M} {Po : Option am_V → am_M → Prop} (hc : ConP d2 n as M Po) (hd2 : d2 < d) (hpk : am_pk own 5 idx (eC n as.length kd)) {H : Heap} {locs : List Loc} {ls : Array Slot} (hP : va_P D am_cls (am_wl ad cI cZ M) H) (hS : va_S A s.heap H locs) (hsz : ls.size = nL) (hcat : am_cat rest ≤ 8) (hval : ∀ v ∈ as, am_vl v) (hdg : decode cc pc = .ok (.invokestatic idx, 3))
    (kk : ∀ (r : Option am_V) (M2 : am_M), Po r M2 → ∀ (H1 : Heap) (locs1 : List Loc), va_P D am_cls (am_wl ad cI cZ M2) H1 → va_S A s.heap H1 locs1 → W p l e R s m args below meth c H1 locs1 cells slots Q (F0 m (pc + 3) ls ((r.map (cv ad fv)).toList ++ rest.map (cv ad fv)))) : W p l e R s m args below meth c H locs cells slots Q (F0 m pc ls ((as.map (cv ad fv)).reverse ++ rest.map (cv ad fv))) := by
  have hpre := am_pre C hP hS (av := as.map (cv ad fv))
  obtain ⟨hx, hb, hml, hown, hts, hK, hD, hE, hR, hR2, hX⟩ := C
  obtain ⟨⟨w1, w2, w3, w4, w5, w6⟩, hst, hlink⟩ := hpk
  have hws := am_ws_in w1
  have hroom : (am_rm d2).frames + 1 ≤ R.frames ∧ 8 + ((mt n).2.2.1 + 11) + (am_rm d2).locals ≤ R.locals := by
    have e1 : (am_rm d2).frames = d2 := rfl
    have e2 : (am_rm d2).locals = 64 * d2 := rfl
    rw [e1, e2]
    omega
  have hcat2 : 2 * (F0 m pc ls ((as.map (cv ad fv)).reverse ++ rest.map (cv ad fv))).monitorRoom + ((rest.map (cv ad fv)).map fun v => v.category).sum ≤ 8 := lv_room (by rw [cat_sum hE.2.2.2.2.1]; exact hcat)
  rcases hlink with hlink | hlink
  · exact am_run (va_runS (As := as.map (cv ad fv)) (rest := rest.map (cv ad fv)) ⟨hx, hb, hml, hown, hts⟩ (hc l D ad fv cI cZ hval) (va_cwS (ws' := gtb) as.length hts (gin (by
      intro w hw
      rcases List.mem_append.mp hw with h | h
      · simp only [List.mem_cons, List.not_mem_nil, or_false] at h
        rcases h with rfl | rfl | rfl
        · exact hlink
        · exact hst
        · exact w2
      · exact hws w h)) rfl rfl rfl ⟨w3, w4, w5⟩ hroom) ⟨am_blind, hpre⟩ rfl (by simp) hsz rfl hcat2 hdg ⟨hR2.1, hR2.2⟩) hS (Af_A hD) kk
  · exact am_run (va_runSN (host := "PaperedOver") (As := as.map (cv ad fv)) (rest := rest.map (cv ad fv)) ⟨hx, hb, hml, hown, hts⟩ (hc l D ad fv cI cZ hval) ⟨va_cnB (ws' := gtb) as.length hts (gin hws) rfl rfl rfl (hE.1 _ hlink) (hts _ w2) ⟨w3, w4, w5⟩ hroom, hts _ hst, trivial⟩ ⟨am_blind, hpre⟩ rfl (by simp) hsz rfl hcat2 hdg ⟨hR2.1, hR2.2⟩) hS (Af_A hD) kk
/-- a call of an instance's method -/
theorem am_callV (C : am_Cx p R s m args c cells slots cc nL own D ad fv cI cZ A d X) {n d2 idx pc k j o : Nat} {as rest : List am_V} {M : am_M} {Po : Option am_V → am_M → Prop} (hc : ConP d2 n (aR k j o :: as) M Po) (hd2 : d2 < d) (ho : o = 0 ∨ k = 13) (hpk : am_pk own 4 idx (eC n (as.length + 1) k)) {H : Heap} {locs : List Loc} {ls : Array Slot} (hP : va_P D am_cls (am_wl ad cI cZ M) H) (hS : va_S A s.heap H locs) (hsz : ls.size = nL) (hcat : am_cat rest ≤ 8) (hval : ∀ v ∈ aR k j o :: as, am_vl v) (hdg : decode cc pc = .ok (.invokevirtual idx, 3))
    (kk : ∀ (r : Option am_V) (M2 : am_M), Po r M2 → ∀ (H1 : Heap) (locs1 : List Loc), va_P D am_cls (am_wl ad cI cZ M2) H1 → va_S A s.heap H1 locs1 → W p l e R s m args below meth c H1 locs1 cells slots Q (F0 m (pc + 3) ls ((r.map (cv ad fv)).toList ++ rest.map (cv ad fv)))) : W p l e R s m args below meth c H locs cells slots Q (F0 m pc ls ((as.map (cv ad fv)).reverse ++ cv ad fv (aR k j o) :: rest.map (cv ad fv))) := by
  have hpre := am_pre C hP hS (av := (aR k j o :: as).map (cv ad fv))
  obtain ⟨hx, hb, hml, hown, hts, hK, hD, hE, hR, hR2, hX⟩ := C
  obtain ⟨np, hnp, ⟨w1, w2, w3, w4, w5, w6⟩, hlink, hin, hsel, hcls⟩ := hpk
  have hnp : np = as.length := by omega
  subst hnp
  have hws := am_ws_in w1
  have hroom : (am_rm d2).frames + 1 ≤ R.frames ∧ 8 + ((mt n).2.2.1 + 11) + (am_rm d2).locals ≤ R.locals := by
    have e1 : (am_rm d2).frames = d2 := rfl
    have e2 : (am_rm d2).locals = 64 * d2 := rfl
    rw [e1, e2]
    omega
  have hcat2 : 2 * (F0 m pc ls ((as.map (cv ad fv)).reverse ++ cv ad fv (aR k j o) :: rest.map (cv ad fv))).monitorRoom + ((rest.map (cv ad fv)).map fun v => v.category).sum ≤ 8 := lv_room (by rw [cat_sum hE.2.2.2.2.1]; exact hcat)
  have hgood : GoodIn gtb (wsV own idx (mt n).1.cls (mt n).1 (am_ws (mt n))) := gin (by
      intro w hw
      rcases List.mem_append.mp hw with h | h
      · simp only [List.mem_cons, List.not_mem_nil, or_false] at h
        rcases h with rfl | rfl | rfl | rfl
        · exact hlink
        · exact hin
        · exact hsel
        · exact w2
      · exact hws w h)
  have hv1 : am_vl (aR k j o) := hval _ List.mem_cons_self
  have hrec : ¬ k = 15 ∧ ∃ cell : Cell, H[ad (k, j, o)]? = some cell ∧ cell.vm.isStatics = false ∧ s.vm.findClass (mt n).1.cls = some cell.cls := by
    rcases hcls with ⟨rc, h1, h2⟩ | ⟨h1, h2⟩
    · have hk12 : k < 12 := (List.getElem?_eq_some_iff.mp h1).1
      refine ⟨by omega, ?_⟩
      rcases ho with rfl | rfl
      · rcases hv1 with hv1 | hv1
        · obtain ⟨i, hi⟩ := List.getElem?_of_mem hv1
          have := va_recv hK hP h1 (q0 := i) (a := ad (k, j, 0)) (fs := am_fl ad M k j 0 (am_ob k)) (wl_at hi)
          rw [h2] at this
          exact this
        · exfalso
          revert hv1
          simp only [am_ro, List.mem_cons, Prod.mk.injEq, List.not_mem_nil, or_false]
          omega
      · omega
    · subst h1
      refine ⟨by omega, ?_⟩
      rcases hv1 with hv1 | hv1
      · exact absurd hv1 (fun h => absurd ((by decide +kernel : ∀ q ∈ am_all, q.1 < 12) _ h) (show ¬ (13 : Nat) < 12 by decide))
      · have hj : j = 0 ∧ o < 8 := by
          revert hv1
          simp only [am_ro, List.mem_cons, Prod.mk.injEq, List.not_mem_nil, or_false]
          omega
        obtain ⟨rfl, ho8⟩ := hj
        have := vk_recv hE.2.2.2.2.2.1 ho8 hS
        rw [h2]
        exact this
  have hcv : cv ad fv (aR k j o) = .ref (ad (k, j, o)) := cv_ref hrec.1
  rw [hcv]
  have hM := hc l D ad fv cI cZ hval
  have e0 : (aR k j o :: as).map (cv ad fv) = Value.ref (ad (k, j, o)) :: as.map (cv ad fv) := by rw [List.map_cons, hcv]
  rw [e0] at hM hpre
  exact am_run (va_runV (As := as.map (cv ad fv)) (rest := rest.map (cv ad fv)) ⟨hx, hb, hml, hown, hts⟩ hM (cwV (ws' := gtb) as.length hts hgood rfl rfl rfl ⟨rfl, w3, w4, w5⟩ hroom) ⟨am_blind, hrec.2, hpre⟩ rfl (by simp) hsz rfl (by rw [hcv] at hcat2; exact hcat2) hdg ⟨hR2.1, hR2.2⟩) hS (Af_A hD) kk
end Snd
end
section
theorem ck_bb {a b c : Nat} (h : (Nat.beq a b && Nat.beq c 0) = true) : a = b ∧ c = 0 := by
  obtain ⟨h1, h2⟩ := (Bool.and_eq_true _ _).mp h
  exact ⟨Nat.eq_of_beq_eq_true h1, Nat.eq_of_beq_eq_true h2⟩
/-! the facts of the shapes, by program -/
theorem sh_ref : ∀ q ∈ am_all, ∀ g, some g ∈ am_ob q.1 → q.2.2 = 0 → g q.2.1 ∈ am_all := by
  intro q hq g hg h0
  have key : am_all.all (fun q => !(q.2.2 == 0) || (am_ob q.1).all (fun x => match x with | some g => decide (g q.2.1 ∈ am_all) | none => true)) = true := by decide +kernel
  have h1 := List.all_eq_true.mp key q hq
  simp only [h0, beq_self_eq_true, Bool.not_true, Bool.false_or] at h1
  have h2 := List.all_eq_true.mp h1 _ hg
  exact of_decide_eq_true h2
theorem sh_put : ∀ c, c < 12 → ∀ s, s < 40 → (am_ob c)[s]? = some none → ∃ r : vw_C, am_cls[c]? = some r ∧ (r.2.1 s).2.2.2 = false ∧ parseFieldDescriptor (r.2.1 s).2.2.1 = some (if am_fb c s then .boolean else .int) := by
  have key : (List.range 12).all (fun c => (List.range 40).all (fun s => match (am_ob c)[s]? with
    | some none => (match am_cls[c]? with | some r => decide ((r.2.1 s).2.2.2 = false) && decide (parseFieldDescriptor (r.2.1 s).2.2.1 = some (if am_fb c s then .boolean else .int)) | none => false)
    | _ => true)) = true := by decide +kernel
  intro c hc s hs h
  have h1 := List.all_eq_true.mp (List.all_eq_true.mp key c (List.mem_range.mpr hc)) s (List.mem_range.mpr hs)
  rw [h] at h1
  cases hr : am_cls[c]? with
  | none => rw [hr] at h1; cases h1
  | some r =>
    rw [hr] at h1
    simp only [Bool.and_eq_true, decide_eq_true_eq] at h1
    exact ⟨r, rfl, h1.1, h1.2⟩
theorem sh_len : ∀ c, c < 12 → ∃ r : vw_C, am_cls[c]? = some r ∧ r.2.2 = (am_ob c).length ∧ r.2.2 < 40 := by
  have key : (List.range 12).all (fun c => match am_cls[c]? with | some r => decide (r.2.2 = (am_ob c).length) && decide (r.2.2 < 40) | none => false) = true := by decide +kernel
  intro c hc
  have h1 := List.all_eq_true.mp key c (List.mem_range.mpr hc)
  cases hr : am_cls[c]? with
  | none => rw [hr] at h1; cases h1
  | some r =>
    rw [hr] at h1
    simp only [Bool.and_eq_true, decide_eq_true_eq] at h1
    exact ⟨r, rfl, h1.1, h1.2⟩
def am_clok : Prop := ∀ (c : Nat) (r : vw_C), am_cls[c]? = some r → (∀ w ∈ u_ws r.1 r.2.1 r.2.2, w ∈ gtb) ∧ (∃ ty0 : Nat → FieldType, ∀ k, k < r.2.2 → parseFieldDescriptor (r.2.1 k).2.2.1 = some (ty0 k)) ∧ ∀ a, a < r.2.2 → ∀ b, b < r.2.2 → a ≠ b → (r.2.1 a).2.1 ≠ (r.2.1 b).2.1
theorem vl_in {k j o : Nat} (h : am_vl (aR k j o)) (hk : k < 12) : (k, j, o) ∈ am_all := by
  rcases h with h | h
  · exact h
  · exfalso
    revert h
    simp only [am_ro, List.mem_cons, Prod.mk.injEq, List.not_mem_nil, or_false]
    omega
theorem vl_all {q : Nat × Nat × Nat} (h : q ∈ am_all) : am_vl (Sum.inl q) := Or.inl h
theorem al_lt {b : Bool} {k o n : Nat} (h : am_al b k o = some n) : k < 12 := by
  unfold am_al at h
  cases o with
  | zero => cases h
  | succ o =>
    dsimp only at h
    by_cases hk : k < 12
    · exact hk
    · have : am_ar k = [] := by
        unfold am_ar
        split <;> first | rfl | omega
      rw [this] at h
      simp at h
section Snd2
variable {p : Program} {l : Launch} {e : Env} {R : Room} {s : State} {m : MethodId} {args : Array Value} {below : List Frame} {meth : Method} {c : Code} {cells slots : Nat} {Q : State → Prop} {cc : ByteArray} {nL : Nat} {own : String} {D : va_G} {ad : Nat × Nat × Nat → Nat} {fv : Value} {cI cZ : ClassId} {A : Nat → Prop} {d : Nat} {X : Option (Nat × (Nat → Int32))} {ret : Option FieldType} {Rt : Option am_V → am_M → Prop}
theorem snd_get (hcl : am_clok) (C : am_Cx p R s m args c cells slots cc nL own D ad fv cI cZ A d X) {idx pc ci sl : Nat} {lv : am_L} {st : List am_V} {M : am_M} {K : List am_V → Prop} (hpk : am_pk own 0 idx (eF ci sl)) (hdg : decode cc pc = .ok (.getfield idx, 3)) (hk : ∀ r, K r → am_J p l e R s m args below meth c cells slots Q nL D ad fv cI cZ A (pc + 3) lv r M) (h : am_get M st ci sl K) : am_J p l e R s m args below meth c cells slots Q nL D ad fv cI cZ A pc lv st M := by
  obtain ⟨hx, hb, hml, hown, hts, hK, hD, hE, hR, hR2, hX⟩ := C
  obtain ⟨k, j, o, r, rfl, h2⟩ := pR_inv h
  clear h
  obtain ⟨hb2, h⟩ := ck_inv h2
  clear h2
  obtain ⟨rfl, rfl⟩ := ck_bb hb2
  obtain ⟨rc, hrc, hsl, hlink⟩ := hpk
  obtain ⟨hw, -, -⟩ := hcl _ _ hrc
  intro H locs ls hP hS hl hlv hst
  have hk12 : k < 12 := (List.getElem?_eq_some_iff.mp hrc).1
  have hin := vl_in (hst _ List.mem_cons_self) hk12
  obtain ⟨i, hi⟩ := List.getElem?_of_mem hin
  have hat := wl_at (ad := ad) (cI := cI) (cZ := cZ) (M := M) hi
  show W p l e R s m args below meth c H locs cells slots Q (F0 m pc ls (cv ad fv (Sum.inl (k, j, 0)) :: r.map (cv ad fv)))
  rw [cv_ref (am_no15 _ hin)]
  cases ho : (am_ob k)[sl]? with
  | none => rw [ho] at h; exact h.elim
  | some x =>
    rw [ho] at h
    cases x with
    | none =>
      exact va_get hx hb hts hw hown hK hP i hat hrc sl hsl (hts _ hlink) (fun _ q => q) (v := .int (M k j 0 sl)) (by rw [fl_none _ _ _ ho, Nat.zero_add]) hdg (hk _ h H locs ls hP hS hl hlv (fun v hv => by
        rcases List.mem_cons.mp hv with rfl | hv
        · exact trivial
        · exact hst v (List.mem_cons_of_mem _ hv)))
    | some g =>
      have hg : g j ∈ am_all := sh_ref _ hin g (List.mem_of_getElem? ho) rfl
      refine va_get hx hb hts hw hown hK hP i hat hrc sl hsl (hts _ hlink) (fun _ q => q) (v := .ref (ad (g j))) (fl_some _ _ _ ho) hdg ?_
      have := hk _ h H locs ls hP hS hl hlv (fun v hv => by
        rcases List.mem_cons.mp hv with rfl | hv
        · exact vl_all hg
        · exact hst v (List.mem_cons_of_mem _ hv))
      rw [List.map_cons, cv_ref (am_no15 _ hg)] at this
      exact this
theorem snd_put (hcl : am_clok) (C : am_Cx p R s m args c cells slots cc nL own D ad fv cI cZ A d X) {idx pc ci sl : Nat} {lv : am_L} {st : List am_V} {M : am_M} {K : List am_V → am_M → Prop} (hpk : am_pk own 0 idx (eF ci sl)) (hdg : decode cc pc = .ok (.putfield idx, 3)) (hk : ∀ r M2, K r M2 → am_J p l e R s m args below meth c cells slots Q nL D ad fv cI cZ A (pc + 3) lv r M2) (h : am_put M st ci sl K) : am_J p l e R s m args below meth c cells slots Q nL D ad fv cI cZ A pc lv st M := by
  obtain ⟨hx, hb, hml, hown, hts, hK, hD, hE, hR, hR2, hX⟩ := C
  obtain ⟨x, r1, rfl, h1⟩ := pI_inv h
  clear h
  obtain ⟨k, j, o, r, rfl, h2⟩ := pR_inv h1
  clear h1
  obtain ⟨hb2, h⟩ := ck_inv h2
  clear h2
  obtain ⟨rfl, rfl⟩ := ck_bb hb2
  obtain ⟨rc, hrc, hsl, hlink⟩ := hpk
  obtain ⟨hw, ⟨ty0, hty⟩, hnm⟩ := hcl _ _ hrc
  intro H locs ls hP hS hl hlv hst
  have hk12 : k < 12 := (List.getElem?_eq_some_iff.mp hrc).1
  obtain ⟨rc2, hrc2, hlen, h40⟩ := sh_len k hk12
  obtain rfl : rc = rc2 := Option.some.inj (hrc.symm.trans hrc2)
  have hin := vl_in (hst _ (List.mem_cons_of_mem _ List.mem_cons_self)) hk12
  obtain ⟨i, hi⟩ := List.getElem?_of_mem hin
  have hat := wl_at (ad := ad) (cI := cI) (cZ := cZ) (M := M) hi
  show W p l e R s m args below meth c H locs cells slots Q (F0 m pc ls (.int x :: cv ad fv (Sum.inl (k, j, 0)) :: r.map (cv ad fv)))
  rw [cv_ref (am_no15 _ hin)]
  cases ho : (am_ob k)[sl]? with
  | none => rw [ho] at h; exact h.elim
  | some y =>
    rw [ho] at h
    cases y with
    | some g => exact h.elim
    | none =>
      obtain ⟨rc3, hrc3, hfin, hd⟩ := sh_put k hk12 sl (by omega) ho
      obtain rfl : rc = rc3 := Option.some.inj (hrc.symm.trans hrc3)
      have hKv : K r (sA M k j 0 (upd (M k j 0) sl x)) ∧ narrow (if am_fb k sl then .boolean else .int) (.int x) = .int x ∧ fits (if am_fb k sl then .boolean else .int) (.int x) = true := by
        dsimp only at h
        cases hfb : am_fb k sl with
        | false => rw [hfb] at h; exact ⟨h, rfl, rfl⟩
        | true =>
          rw [hfb] at h
          have h1 : vp_nar .boolean x = x := h.1
          have h2 : x &&& 1 = x := h1
          refine ⟨h.2, by show Value.int (x &&& 1) = .int x; rw [h2], ?_⟩
          show (x == 0 || x == 1) = true
          obtain ⟨q, hq, e1⟩ := pk_andE x (m := 1) 1 (by decide)
          rw [h2] at e1
          have : q = 0 ∨ q = 1 := by omega
          rcases this with rfl | rfl <;> (rw [e1]; decide)
      have hset : (am_wl ad cI cZ M).set i (ad (k, j, 0), .inr (k, (am_fl ad M k j 0 (am_ob k)).set sl (.int x))) = am_wl ad cI cZ (sA M k j 0 (upd (M k j 0) sl x)) := by
        rw [← wl_set (M2 := sA M k j 0 (upd (M k j 0) sl x)) hi (cell_ne)]
        congr 2
        show Sum.inr (k, _) = Sum.inr (k, am_fl ad (sA M k j 0 (upd (M k j 0) sl x)) k j 0 (am_ob k))
        rw [fl_set (M2 := sA M k j 0 (upd (M k j 0) sl x)) _ _ _ ho (by rw [sA_same, Nat.zero_add])]
      refine va_put hx hb hts hw ty0 hty hnm hown hK hP (hD M) hS i hat hrc sl hsl (hts _ hlink) (fun _ q => q) hfin hd hKv.2.1 hKv.2.2 (by rw [fl_len]; show sl < (am_ob k).length; omega) hdg (fun H1 locs1 hP1 _ hS1 => ?_)
      have hP2 : va_P D am_cls (am_wl ad cI cZ (sA M k j 0 (upd (M k j 0) sl x))) H1 := by
        rw [← hset]
        exact hP1
      exact hk _ _ hKv.1 H1 locs1 ls hP2 hS1 hl hlv (fun v hv => hst v (List.mem_cons_of_mem _ (List.mem_cons_of_mem _ hv)))
end Snd2
end
section
section Snd3
variable {p : Program} {l : Launch} {e : Env} {R : Room} {s : State} {m : MethodId} {args : Array Value} {below : List Frame} {meth : Method} {c : Code} {cells slots : Nat} {Q : State → Prop} {cc : ByteArray} {nL : Nat} {own : String} {D : va_G} {ad : Nat × Nat × Nat → Nat} {fv : Value} {cI cZ : ClassId} {A : Nat → Prop} {d : Nat} {X : Option (Nat × (Nat → Int32))} {ret : Option FieldType} {Rt : Option am_V → am_M → Prop}
theorem vl_tl {v : am_V} {st : List am_V} (h : ∀ w ∈ v :: st, am_vl w) : ∀ w ∈ st, am_vl w := fun w hw => h w (List.mem_cons_of_mem _ hw)
theorem vl_cons {v : am_V} {st : List am_V} (hv : am_vl v) (h : ∀ w ∈ st, am_vl w) : ∀ w ∈ v :: st, am_vl w := fun w hw => by
  rcases List.mem_cons.mp hw with rfl | hw
  · exact hv
  · exact h w hw
theorem snd_ild (C : am_Cx p R s m args c cells slots cc nL own D ad fv cI cZ A d X) {pc : Nat} {lv : am_L} {st : List am_V} {M : am_M} {K : List am_V → Prop} (hdg : decode cc pc = .ok (.iaload, 1)) (hk : ∀ r, K r → am_J p l e R s m args below meth c cells slots Q nL D ad fv cI cZ A (pc + 1) lv r M) (h : am_ild X M st K) : am_J p l e R s m args below meth c cells slots Q nL D ad fv cI cZ A pc lv st M := by
  obtain ⟨hx, hb, hml, hown, hts, hK, hD, hE, hR, hR2, hX⟩ := C
  obtain ⟨i, r1, rfl, h1⟩ := pI_inv h
  clear h
  obtain ⟨k, j, o, r, rfl, h⟩ := pR_inv h1
  clear h1
  intro H locs ls hP hS hl hlv hst
  have hst2 := vl_tl (vl_tl hst)
  have hv1 : am_vl (aR k j o) := hst _ (List.mem_cons_of_mem _ List.mem_cons_self)
  show W p l e R s m args below meth c H locs cells slots Q (F0 m pc ls (.int i :: cv ad fv (Sum.inl (k, j, o)) :: r.map (cv ad fv)))
  cases ha : am_al false k o with
  | some n =>
    rw [ha] at h
    have hin := vl_in hv1 (al_lt ha)
    obtain ⟨i2, hi⟩ := List.getElem?_of_mem hin
    have hat := wl_at (ad := ad) (cI := cI) (cZ := cZ) (M := M) hi
    rw [cell_arr ha] at hat
    rw [cv_ref (am_no15 _ hin)]
    exact va_iald hx hb hK hP i2 0 hat rfl h.1 hdg (hk _ h.2 H locs ls hP hS hl hlv (vl_cons trivial hst2))
  | none =>
    rw [ha] at h
    dsimp only at h
    split at h
    · have hv2 : j = 0 ∧ o < 3 := by
        rcases hv1 with q | q
        · exact absurd ((by decide +kernel : ∀ q ∈ am_all, q.1 < 12) _ q) (show ¬ (12 : Nat) < 12 by decide)
        · revert q
          simp only [am_ro, List.mem_cons, Prod.mk.injEq, List.not_mem_nil, or_false]
          omega
      obtain ⟨rfl, ho⟩ := hv2
      rw [cv_ref (show ¬ (12 : Nat) = 15 by decide)]
      exact va_ti hx hb (hE.2.1 o ho).2 hS h.1 rfl hdg (hk _ h.2 H locs ls hP hS hl hlv (vl_cons trivial hst2))
    · cases X with
      | none => exact h.elim
      | some q =>
        obtain ⟨L, xs⟩ := q
        have hv2 : j = 0 ∧ o = 0 := by
          rcases hv1 with q | q
          · exact absurd ((by decide +kernel : ∀ q ∈ am_all, q.1 < 12) _ q) (show ¬ (16 : Nat) < 12 by decide)
          · revert q
            simp only [am_ro, List.mem_cons, Prod.mk.injEq, List.not_mem_nil, or_false]
            omega
        obtain ⟨rfl, rfl⟩ := hv2
        rw [cv_ref (show ¬ (16 : Nat) = 15 by decide)]
        exact va_sld hx hb hX.1 hX.2.1 hX.2.2 hS h.1 hdg (hk _ h.2 H locs ls hP hS hl hlv (vl_cons trivial hst2))
    · exact h.elim
theorem snd_bld (C : am_Cx p R s m args c cells slots cc nL own D ad fv cI cZ A d X) {pc : Nat} {lv : am_L} {st : List am_V} {M : am_M} {K : List am_V → Prop} (hdg : decode cc pc = .ok (.baload, 1)) (hk : ∀ r, K r → am_J p l e R s m args below meth c cells slots Q nL D ad fv cI cZ A (pc + 1) lv r M) (h : am_bld M st K) : am_J p l e R s m args below meth c cells slots Q nL D ad fv cI cZ A pc lv st M := by
  obtain ⟨hx, hb, hml, hown, hts, hK, hD, hE, hR, hR2, hX⟩ := C
  obtain ⟨i, r1, rfl, h1⟩ := pI_inv h
  clear h
  obtain ⟨k, j, o, r, rfl, h⟩ := pR_inv h1
  clear h1
  intro H locs ls hP hS hl hlv hst
  have hst2 := vl_tl (vl_tl hst)
  have hv1 : am_vl (aR k j o) := hst _ (List.mem_cons_of_mem _ List.mem_cons_self)
  show W p l e R s m args below meth c H locs cells slots Q (F0 m pc ls (.int i :: cv ad fv (Sum.inl (k, j, o)) :: r.map (cv ad fv)))
  cases ha : am_al true k o with
  | some n =>
    rw [ha] at h
    have hin := vl_in hv1 (al_lt ha)
    obtain ⟨i2, hi⟩ := List.getElem?_of_mem hin
    have hat := wl_at (ad := ad) (cI := cI) (cZ := cZ) (M := M) hi
    rw [cell_arr ha] at hat
    rw [cv_ref (am_no15 _ hin)]
    exact va_zald hx hb hK hP i2 1 hat rfl h.1 hdg (hk _ h.2 H locs ls hP hS hl hlv (vl_cons trivial hst2))
  | none =>
    rw [ha] at h
    dsimp only at h
    split at h
    · have hv2 : j = 0 ∧ o < 8 := by
        rcases hv1 with q | q
        · exact absurd ((by decide +kernel : ∀ q ∈ am_all, q.1 < 12) _ q) (show ¬ (14 : Nat) < 12 by decide)
        · revert q
          simp only [am_ro, List.mem_cons, Prod.mk.injEq, List.not_mem_nil, or_false]
          omega
      obtain ⟨rfl, ho⟩ := hv2
      rw [cv_ref (show ¬ (14 : Nat) = 15 by decide)]
      exact va_tb hx hb (hE.2.2.2.2.2.1.1 o ho).2.2.2 hS h.1 rfl hdg (hk _ h.2 H locs ls hP hS hl hlv (vl_cons trivial hst2))
    · exact h.elim
theorem snd_len (C : am_Cx p R s m args c cells slots cc nL own D ad fv cI cZ A d X) {pc : Nat} {lv : am_L} {st : List am_V} {M : am_M} {K : List am_V → Prop} (hdg : decode cc pc = .ok (.arraylength, 1)) (hk : ∀ r, K r → am_J p l e R s m args below meth c cells slots Q nL D ad fv cI cZ A (pc + 1) lv r M) (h : am_len X M st K) : am_J p l e R s m args below meth c cells slots Q nL D ad fv cI cZ A pc lv st M := by
  obtain ⟨hx, hb, hml, hown, hts, hK, hD, hE, hR, hR2, hX⟩ := C
  obtain ⟨k, j, o, r, rfl, h1⟩ := pR_inv h
  clear h
  have h := h1
  clear h1
  intro H locs ls hP hS hl hlv hst
  have hst2 := vl_tl hst
  have hv1 : am_vl (aR k j o) := hst _ List.mem_cons_self
  show W p l e R s m args below meth c H locs cells slots Q (F0 m pc ls (cv ad fv (Sum.inl (k, j, o)) :: r.map (cv ad fv)))
  cases ha : am_al false k o with
  | some n =>
    rw [ha] at h
    have hin := vl_in hv1 (al_lt ha)
    obtain ⟨i2, hi⟩ := List.getElem?_of_mem hin
    have hat := wl_at (ad := ad) (cI := cI) (cZ := cZ) (M := M) hi
    rw [cell_arr ha] at hat
    rw [cv_ref (am_no15 _ hin)]
    exact va_alen hx hb hK hP i2 0 hat (ty := .int) rfl rfl hdg (hk _ h H locs ls hP hS hl hlv (vl_cons trivial hst2))
  | none =>
    rw [ha] at h
    dsimp only at h
    split at h
    · have hv2 : j = 0 ∧ o < 3 := by
        rcases hv1 with q | q
        · exact absurd ((by decide +kernel : ∀ q ∈ am_all, q.1 < 12) _ q) (show ¬ (12 : Nat) < 12 by decide)
        · revert q
          simp only [am_ro, List.mem_cons, Prod.mk.injEq, List.not_mem_nil, or_false]
          omega
      obtain ⟨rfl, ho⟩ := hv2
      rw [cv_ref (show ¬ (12 : Nat) = 15 by decide)]
      exact va_tlen hx hb (hE.2.1 o ho).2 hS rfl hdg (hk _ h H locs ls hP hS hl hlv (vl_cons trivial hst2))
    · have hv2 : j = 0 ∧ o < 8 := by
        rcases hv1 with q | q
        · exact absurd ((by decide +kernel : ∀ q ∈ am_all, q.1 < 12) _ q) (show ¬ (14 : Nat) < 12 by decide)
        · revert q
          simp only [am_ro, List.mem_cons, Prod.mk.injEq, List.not_mem_nil, or_false]
          omega
      obtain ⟨rfl, ho⟩ := hv2
      rw [cv_ref (show ¬ (14 : Nat) = 15 by decide)]
      exact va_tlen hx hb (hE.2.2.2.2.2.1.1 o ho).2.2.2 hS rfl hdg (hk _ h H locs ls hP hS hl hlv (vl_cons trivial hst2))
    · cases X with
      | none => exact h.elim
      | some q =>
        obtain ⟨L, xs⟩ := q
        have hv2 : j = 0 ∧ o = 0 := by
          rcases hv1 with q | q
          · exact absurd ((by decide +kernel : ∀ q ∈ am_all, q.1 < 12) _ q) (show ¬ (16 : Nat) < 12 by decide)
          · revert q
            simp only [am_ro, List.mem_cons, Prod.mk.injEq, List.not_mem_nil, or_false]
            omega
        obtain ⟨rfl, rfl⟩ := hv2
        rw [cv_ref (show ¬ (16 : Nat) = 15 by decide)]
        exact va_slen hx hb hX.1 hX.2.1 hX.2.2 hS hdg (hk _ h H locs ls hP hS hl hlv (vl_cons trivial hst2))
    · exact h.elim
theorem wl_setA {b : Bool} {M : am_M} {k j o n i : Nat} {f : Nat → Int32} (ha : am_al b k o = some n) (hi : am_all[i]? = some (k, j, o)) : (am_wl ad cI cZ M).set i (ad (k, j, o), .inl (if b then cZ else cI, n, .inl f)) = am_wl ad cI cZ (sA M k j o f) := by
  rw [← wl_set (M2 := sA M k j o f) hi cell_ne, cell_arr ha, sA_same]
theorem snd_ist (C : am_Cx p R s m args c cells slots cc nL own D ad fv cI cZ A d X) {pc : Nat} {lv : am_L} {st : List am_V} {M : am_M} {K : List am_V → am_M → Prop} (hdg : decode cc pc = .ok (.iastore, 1)) (hk : ∀ r M2, K r M2 → am_J p l e R s m args below meth c cells slots Q nL D ad fv cI cZ A (pc + 1) lv r M2) (h : am_ist M st K) : am_J p l e R s m args below meth c cells slots Q nL D ad fv cI cZ A pc lv st M := by
  obtain ⟨hx, hb, hml, hown, hts, hK, hD, hE, hR, hR2, hX⟩ := C
  obtain ⟨x, r0, rfl, h0⟩ := pI_inv h
  clear h
  obtain ⟨i, r1, rfl, h1⟩ := pI_inv h0
  clear h0
  obtain ⟨k, j, o, r, rfl, h⟩ := pR_inv h1
  clear h1
  intro H locs ls hP hS hl hlv hst
  have hst2 := vl_tl (vl_tl (vl_tl hst))
  have hv1 : am_vl (aR k j o) := hst _ (List.mem_cons_of_mem _ (List.mem_cons_of_mem _ List.mem_cons_self))
  show W p l e R s m args below meth c H locs cells slots Q (F0 m pc ls (.int x :: .int i :: cv ad fv (Sum.inl (k, j, o)) :: r.map (cv ad fv)))
  cases ha : am_al false k o with
  | none => rw [ha] at h; exact h.elim
  | some n =>
    rw [ha] at h
    have hin := vl_in hv1 (al_lt ha)
    obtain ⟨i2, hi⟩ := List.getElem?_of_mem hin
    have hat := wl_at (ad := ad) (cI := cI) (cZ := cZ) (M := M) hi
    rw [cell_arr ha] at hat
    rw [cv_ref (am_no15 _ hin)]
    refine va_iast hx hb hK hP (hD M) hS i2 0 hat rfl h.1 hdg (fun H1 locs1 hP1 _ hS1 => ?_)
    have hP2 : va_P D am_cls (am_wl ad cI cZ (sA M k j o (upd (M k j o) i.toNatClampNeg x))) H1 := by
      rw [← wl_setA ha hi]
      exact hP1
    exact hk _ _ h.2 H1 locs1 ls hP2 hS1 hl hlv hst2
theorem snd_bst (C : am_Cx p R s m args c cells slots cc nL own D ad fv cI cZ A d X) {pc : Nat} {lv : am_L} {st : List am_V} {M : am_M} {K : List am_V → am_M → Prop} (hdg : decode cc pc = .ok (.bastore, 1)) (hk : ∀ r M2, K r M2 → am_J p l e R s m args below meth c cells slots Q nL D ad fv cI cZ A (pc + 1) lv r M2) (h : am_bst M st K) : am_J p l e R s m args below meth c cells slots Q nL D ad fv cI cZ A pc lv st M := by
  obtain ⟨hx, hb, hml, hown, hts, hK, hD, hE, hR, hR2, hX⟩ := C
  obtain ⟨x, r0, rfl, h0⟩ := pI_inv h
  clear h
  obtain ⟨i, r1, rfl, h1⟩ := pI_inv h0
  clear h0
  obtain ⟨k, j, o, r, rfl, h⟩ := pR_inv h1
  clear h1
  intro H locs ls hP hS hl hlv hst
  have hst2 := vl_tl (vl_tl (vl_tl hst))
  have hv1 : am_vl (aR k j o) := hst _ (List.mem_cons_of_mem _ (List.mem_cons_of_mem _ List.mem_cons_self))
  show W p l e R s m args below meth c H locs cells slots Q (F0 m pc ls (.int x :: .int i :: cv ad fv (Sum.inl (k, j, o)) :: r.map (cv ad fv)))
  cases ha : am_al true k o with
  | none => rw [ha] at h; exact h.elim
  | some n =>
    rw [ha] at h
    have hin := vl_in hv1 (al_lt ha)
    obtain ⟨i2, hi⟩ := List.getElem?_of_mem hin
    have hat := wl_at (ad := ad) (cI := cI) (cZ := cZ) (M := M) hi
    rw [cell_arr ha] at hat
    rw [cv_ref (am_no15 _ hin)]
    refine va_zast hx hb hK hP (hD M) hS i2 1 hat rfl h.1 hdg (fun H1 locs1 hP1 _ hS1 => ?_)
    have hP2 : va_P D am_cls (am_wl ad cI cZ (sA M k j o (upd (M k j o) i.toNatClampNeg (vp_nar .boolean x)))) H1 := by
      rw [← wl_setA ha hi]
      exact hP1
    exact hk _ _ h.2 H1 locs1 ls hP2 hS1 hl hlv hst2
theorem snd_cpy (C : am_Cx p R s m args c cells slots cc nL own D ad fv cI cZ A d X) {pc idx : Nat} {lv : am_L} {st : List am_V} {M : am_M} {K : List am_V → am_M → Prop} (hpk : am_pk own 5 idx eX) (hdg : decode cc pc = .ok (.invokestatic idx, 3)) (hk : ∀ r M2, K r M2 → am_J p l e R s m args below meth c cells slots Q nL D ad fv cI cZ A (pc + 3) lv r M2) (h : am_cpy d M st K) : am_J p l e R s m args below meth c cells slots Q nL D ad fv cI cZ A pc lv st M := by
  obtain ⟨hx, hb, hml, hown, hts, hK, hD, hE, hR, hR2, hX⟩ := C
  obtain ⟨w1, w2, w3, w4⟩ := hpk
  obtain ⟨n, r0, rfl, h0⟩ := pI_inv h
  clear h
  obtain ⟨dp, r1, rfl, h1⟩ := pI_inv h0
  clear h0
  obtain ⟨k1, j1, o1, r2, rfl, h2⟩ := pR_inv h1
  clear h1
  obtain ⟨sp, r3, rfl, h3⟩ := pI_inv h2
  clear h2
  obtain ⟨k0, j0, o0, r, rfl, h4⟩ := pR_inv h3
  clear h3
  obtain ⟨hck, h⟩ := ck_inv h4
  clear h4
  obtain ⟨hd1, hr⟩ := (Bool.and_eq_true _ _).mp hck
  obtain rfl := List.isEmpty_iff.mp hr
  have hd1 : 1 ≤ d := Nat.le_of_ble_eq_true hd1
  intro H locs ls hP hS hl hlv hst
  have hv1 : am_vl (aR k1 j1 o1) := hst _ (List.mem_cons_of_mem _ (List.mem_cons_of_mem _ List.mem_cons_self))
  have hv0 : am_vl (aR k0 j0 o0) := hst _ (List.mem_cons_of_mem _ (List.mem_cons_of_mem _ (List.mem_cons_of_mem _ (List.mem_cons_of_mem _ List.mem_cons_self))))
  show W p l e R s m args below meth c H locs cells slots Q (F0 m pc ls (.int n :: .int dp :: cv ad fv (Sum.inl (k1, j1, o1)) :: .int sp :: cv ad fv (Sum.inl (k0, j0, o0)) :: []))
  cases ha0 : am_al false k0 o0 with
  | none => rw [ha0] at h; exact h.elim
  | some n0 =>
    cases ha1 : am_al false k1 o1 with
    | none => rw [ha0, ha1] at h; exact h.elim
    | some n1 =>
      rw [ha0, ha1] at h
      obtain ⟨⟨g1, g2, g3, g4, g5⟩, h⟩ := h
      have hin0 := vl_in hv0 (al_lt ha0)
      have hin1 := vl_in hv1 (al_lt ha1)
      obtain ⟨i0, hi0⟩ := List.getElem?_of_mem hin0
      obtain ⟨i1, hi1⟩ := List.getElem?_of_mem hin1
      have hat0 := wl_at (ad := ad) (cI := cI) (cZ := cZ) (M := M) hi0
      have hat1 := wl_at (ad := ad) (cI := cI) (cZ := cZ) (M := M) hi1
      rw [cell_arr ha0] at hat0
      rw [cell_arr ha1] at hat1
      rw [cv_ref (am_no15 _ hin0), cv_ref (am_no15 _ hin1)]
      refine va_copyi hx hb (hml.trans hl.1.symm) hown (hts _ w1) (hts _ w2) (hts _ w3) (hts _ w4) hK hP (hD M) hS i0 i1 0 0 (ty := .int) hat0 hat1 rfl rfl rfl g1 g2 g3 g4 g5 (fun _ _ => rfl) (Nat.le_trans hd1 hR.1) (by
        have : nativeFrameWords "java/lang/System" "arraycopy" 5 ≤ 50 := by decide +kernel
        show 0 + _ ≤ _
        omega) hdg (fun H1 locs1 hP1 _ hS1 => ?_)
      have hP2 : va_P D am_cls (am_wl ad cI cZ (sA M k1 j1 o1 (va_cpy (M k0 j0 o0) (M k1 j1 o1) sp.toNatClampNeg dp.toNatClampNeg n.toNatClampNeg))) H1 := by
        rw [← wl_setA ha1 hi1]
        exact hP1
      exact hk _ _ h H1 locs1 ls hP2 hS1 hl hlv (fun v hv => by cases hv)
end Snd3
end
section
theorem ro_12 {i : Nat} (h : i < 3) : am_vl (aR 12 0 i) := by
  have : i = 0 ∨ i = 1 ∨ i = 2 := by omega
  rcases this with rfl | rfl | rfl <;> exact Or.inr (by decide)
theorem ro_13 {i : Nat} (h : i < 8) : am_vl (aR 13 0 i) := by
  have : i = 0 ∨ i = 1 ∨ i = 2 ∨ i = 3 ∨ i = 4 ∨ i = 5 ∨ i = 6 ∨ i = 7 := by omega
  rcases this with rfl | rfl | rfl | rfl | rfl | rfl | rfl | rfl <;> exact Or.inr (by decide)
theorem ro_14 {i : Nat} (h : i < 8) : am_vl (aR 14 0 i) := by
  have : i = 0 ∨ i = 1 ∨ i = 2 ∨ i = 3 ∨ i = 4 ∨ i = 5 ∨ i = 6 ∨ i = 7 := by omega
  rcases this with rfl | rfl | rfl | rfl | rfl | rfl | rfl | rfl <;> exact Or.inr (by decide)
section Snd4
variable {p : Program} {l : Launch} {e : Env} {R : Room} {s : State} {m : MethodId} {args : Array Value} {below : List Frame} {meth : Method} {c : Code} {cells slots : Nat} {Q : State → Prop} {cc : ByteArray} {nL : Nat} {own : String} {D : va_G} {ad : Nat × Nat × Nat → Nat} {fv : Value} {cI cZ : ClassId} {A : Nat → Prop} {d : Nat} {X : Option (Nat × (Nat → Int32))} {ret : Option FieldType} {Rt : Option am_V → am_M → Prop}
def am_Re (p : Program) (l : Launch) (e : Env) (R : Room) (s : State) (m : MethodId) (args : Array Value) (below : List Frame) (meth : Method) (c : Code) (cells slots : Nat) (Q : State → Prop) (cc : ByteArray) (D : va_G) (ad : Nat × Nat × Nat → Nat) (cI cZ : ClassId) (A : Nat → Prop) (ret : Option FieldType) (Rt : Option am_V → am_M → Prop) : Prop :=
  (∀ (x : Int32) (M : am_M) (H : Heap) (locs : List Loc) (ls : Array Slot) (pc : Nat), am_ret ret x (Rt (some (aI x)) M) → va_P D am_cls (am_wl ad cI cZ M) H → va_S A s.heap H locs → decode cc pc = .ok (.ireturn, 1) → W p l e R s m args below meth c H locs cells slots Q (F0 m pc ls [.int x])) ∧
  (∀ (x : Int64) (M : am_M) (H : Heap) (locs : List Loc) (ls : Array Slot) (pc : Nat), am_retL ret (Rt (some (aL x)) M) → va_P D am_cls (am_wl ad cI cZ M) H → va_S A s.heap H locs → decode cc pc = .ok (.lreturn, 1) → W p l e R s m args below meth c H locs cells slots Q (F0 m pc ls [.long x])) ∧
  (∀ (M : am_M) (H : Heap) (locs : List Loc) (ls : Array Slot) (pc : Nat), am_retV ret (Rt none M) → va_P D am_cls (am_wl ad cI cZ M) H → va_S A s.heap H locs → decode cc pc = .ok (.return_, 1) → W p l e R s m args below meth c H locs cells slots Q (F0 m pc ls []))
set_option maxHeartbeats 4000000 in
theorem snd_step (hcl : am_clok) (C : am_Cx p R s m args c cells slots cc nL own D ad fv cI cZ A d X) (hRe : am_Re p l e R s m args below meth c cells slots Q cc D ad cI cZ A ret Rt) {el : am_E} {k : am_L → List am_V → am_M → Prop} {n : Nat} (hdec : decode cc el.1 = .ok (el.2.1, n)) (hn : am_isw el.2.1 = false → n = am_ln el.2.1) (hk : am_isw el.2.1 = false → ∀ lv st M, k lv st M → am_J p l e R s m args below meth c cells slots Q nL D ad fv cI cZ A (el.1 + n) lv st M) (hsc : am_sc1 el = true) (hpo : ∀ t i en, am_key el.2.1 = some (t, i) → el.2.2.2 = some en → am_pk own t i en) {lv : am_L} {st : List am_V} {M : am_M} (h : am_step d X ret (am_J p l e R s m args below meth c cells slots Q nL D ad fv cI cZ A) Rt el k lv st M) : am_J p l e R s m args below meth c cells slots Q nL D ad fv cI cZ A el.1 lv st M := by
  obtain ⟨pc, ins, ns, en⟩ := el
  have C0 := C
  obtain ⟨hx, hb, hml, hown, hts, hK, hD, hE, hR, hR2, hX⟩ := C0
  have hf := hE.2.2.2.2.1
  cases ins with
  | iconst b =>
    obtain rfl : n = 1 := hn rfl
    replace hk := hk rfl
    obtain ⟨v, rfl, h2⟩ := eI_inv h
    intro H locs ls hP hS hl hlv hst
    exact lv_iconst hx hb hdec (of_decide_eq_true hsc) (hk _ _ _ h2 H locs ls hP hS hl hlv (vl_cons trivial hst))
  | bipush b =>
    obtain rfl : n = 2 := hn rfl
    replace hk := hk rfl
    obtain ⟨v, rfl, h2⟩ := eI_inv h
    intro H locs ls hP hS hl hlv hst
    exact lv_bipush hx hb hdec (of_decide_eq_true hsc) (hk _ _ _ h2 H locs ls hP hS hl hlv (vl_cons trivial hst))
  | sipush b =>
    obtain rfl : n = 3 := hn rfl
    replace hk := hk rfl
    obtain ⟨v, rfl, h2⟩ := eI_inv h
    intro H locs ls hP hS hl hlv hst
    exact lv_sipush hx hb hdec (of_decide_eq_true hsc) (hk _ _ _ h2 H locs ls hP hS hl hlv (vl_cons trivial hst))
  | lconst b =>
    obtain rfl : n = 1 := hn rfl
    replace hk := hk rfl
    cases en with
    | none => exact h.elim
    | some ev =>
      rcases ev with cs | cl | ci | cj | cr | ct | cu
      · exact h.elim
      · exact h.elim
      · exact h.elim
      · intro H locs ls hP hS hl hlv hst
        exact lv_lconst hx hb hdec (of_decide_eq_true hsc) (hk _ _ _ h H locs ls hP hS hl hlv (vl_cons trivial hst))
      · exact h.elim
      · exact h.elim
      · exact h.elim
  | ldc idx =>
    obtain rfl : n = 2 := hn rfl
    replace hk := hk rfl
    cases en with
    | none => exact h.elim
    | some ev =>
      rcases ev with cs | cl | ci | cj | cr | ct | cu
      · exact h.elim
      · exact h.elim
      · intro H locs ls hP hS hl hlv hst
        exact lv_ldc hx hb hown (hts _ (hpo 1 idx _ rfl rfl)) hdec (hk _ _ _ h H locs ls hP hS hl hlv (vl_cons trivial hst))
      · exact h.elim
      · obtain ⟨i, hi, rfl, hw, rfl⟩ := hpo 1 idx _ rfl rfl
        subst hw
        intro H locs ls hP hS hl hlv hst
        refine va_ldcS hx hb hown (hE.2.2.2.2.2.2 i hi) hdec ?_
        have h5 := hk _ _ _ h H locs ls hP hS hl hlv (vl_cons (ro_13 hi) hst)
        rw [List.map_cons, cv_ref (show ¬ (13 : Nat) = 15 by decide)] at h5
        exact h5
      · exact h.elim
      · exact h.elim
  | ldc_w idx =>
    obtain rfl : n = 3 := hn rfl
    replace hk := hk rfl
    obtain ⟨v, rfl, h2⟩ := eI_inv h
    intro H locs ls hP hS hl hlv hst
    exact lv_ldcw hx hb hown (hts _ (hpo 1 idx _ rfl rfl)) hdec (hk _ _ _ h2 H locs ls hP hS hl hlv (vl_cons trivial hst))
  | ldc2_w idx =>
    obtain rfl : n = 3 := hn rfl
    replace hk := hk rfl
    cases en with
    | none => exact h.elim
    | some ev =>
      rcases ev with cs | cl | ci | cj | cr | ct | cu
      · exact h.elim
      · exact h.elim
      · exact h.elim
      · intro H locs ls hP hS hl hlv hst
        exact lv_ldc2 hx hb hown (hts _ (hpo 2 idx _ rfl rfl)) hdec (hk _ _ _ h H locs ls hP hS hl hlv (vl_cons trivial hst))
      · exact h.elim
      · exact h.elim
      · exact h.elim
  | iload_n b =>
    obtain rfl : n = 1 := hn rfl
    replace hk := hk rfl
    obtain ⟨i, l2, rfl, h2⟩ := n1_inv h
    clear h
    split at h2
    · rename_i x hx2
      intro H locs ls hP hS hl hlv hst
      exact lv_iload_n hx hb hdec (of_decide_eq_true hsc) (hl.2.2.2 _ _ hx2) (hk _ _ _ h2 H locs ls hP hS hl hlv (vl_cons trivial hst))
    · exact h2.elim
  | iload b =>
    obtain rfl : n = 2 := hn rfl
    replace hk := hk rfl
    obtain ⟨i, l2, rfl, h2⟩ := n1_inv h
    clear h
    obtain rfl := of_decide_eq_true hsc
    split at h2
    · rename_i x hx2
      intro H locs ls hP hS hl hlv hst
      exact lv_iload hx hb hdec  (hl.2.2.2 _ _ hx2) (hk _ _ _ h2 H locs ls hP hS hl hlv (vl_cons trivial hst))
    · exact h2.elim
  | lload_n b =>
    obtain rfl : n = 1 := hn rfl
    replace hk := hk rfl
    obtain ⟨i, l2, rfl, h2⟩ := n1_inv h
    clear h
    split at h2
    · rename_i x hx2
      intro H locs ls hP hS hl hlv hst
      exact lv_lload_n hx hb hdec (of_decide_eq_true hsc) (hl.2.2.2 _ _ hx2) (hk _ _ _ h2 H locs ls hP hS hl hlv (vl_cons trivial hst))
    · exact h2.elim
  | lload b =>
    obtain rfl : n = 2 := hn rfl
    replace hk := hk rfl
    obtain ⟨i, l2, rfl, h2⟩ := n1_inv h
    clear h
    obtain rfl := of_decide_eq_true hsc
    split at h2
    · rename_i x hx2
      intro H locs ls hP hS hl hlv hst
      exact lv_lload hx hb hdec  (hl.2.2.2 _ _ hx2) (hk _ _ _ h2 H locs ls hP hS hl hlv (vl_cons trivial hst))
    · exact h2.elim
  | aload_n b =>
    obtain rfl : n = 1 := hn rfl
    replace hk := hk rfl
    obtain ⟨i, l2, rfl, h2⟩ := n1_inv h
    clear h
    split at h2
    · rename_i kd j o hx2
      intro H locs ls hP hS hl hlv hst
      have h5 := hk _ _ _ h2 H locs ls hP hS hl hlv (vl_cons (hlv _ _ hx2) hst)
      have h6 := hl.2.2.2 _ _ hx2
      by_cases h15 : kd = 15
      · have e0 : cv ad fv (Sum.inl (kd, j, o)) = fv := by simp [cv, h15]
        rw [List.map_cons, e0] at h5
        rw [e0] at h6
        rcases hf with rfl | ⟨t, rfl⟩
        · exact lv_aload_nN hx hb hdec (of_decide_eq_true hsc) h6 h5
        · exact lv_aload_n hx hb hdec (of_decide_eq_true hsc) h6 h5
      · have e0 : cv ad fv (Sum.inl (kd, j, o)) = .ref (ad (kd, j, o)) := cv_ref h15
        rw [List.map_cons, e0] at h5
        rw [e0] at h6
        exact lv_aload_n hx hb hdec (of_decide_eq_true hsc) h6 h5
    · exact h2.elim
  | aload b =>
    obtain rfl : n = 2 := hn rfl
    replace hk := hk rfl
    obtain ⟨i, l2, rfl, h2⟩ := n1_inv h
    clear h
    obtain rfl := of_decide_eq_true hsc
    split at h2
    · rename_i kd j o hx2
      intro H locs ls hP hS hl hlv hst
      have h5 := hk _ _ _ h2 H locs ls hP hS hl hlv (vl_cons (hlv _ _ hx2) hst)
      have h6 := hl.2.2.2 _ _ hx2
      by_cases h15 : kd = 15
      · have e0 : cv ad fv (Sum.inl (kd, j, o)) = fv := by simp [cv, h15]
        rw [List.map_cons, e0] at h5
        rw [e0] at h6
        rcases hf with rfl | ⟨t, rfl⟩
        · exact lv_aloadN hx hb hdec  h6 h5
        · exact lv_aload hx hb hdec  h6 h5
      · have e0 : cv ad fv (Sum.inl (kd, j, o)) = .ref (ad (kd, j, o)) := cv_ref h15
        rw [List.map_cons, e0] at h5
        rw [e0] at h6
        exact lv_aload hx hb hdec  h6 h5
    · exact h2.elim
  | istore_n b =>
    obtain rfl : n = 1 := hn rfl
    replace hk := hk rfl
    obtain ⟨i, l2, rfl, h2⟩ := n1_inv h
    clear h
    obtain ⟨x, r, rfl, h3⟩ := pI_inv h2
    obtain ⟨hok, h4⟩ := ck_inv h3
    intro H locs ls hP hS hl hlv hst
    exact lv_istore_n hx hb hdec (of_decide_eq_true hsc) (as_has hl) (by have := ok1_lt hok; have := hl.2.1; omega) rfl (fun ls2 hl2 => hk _ _ _ h4 H locs ls2 hP hS (H_set1 (v := aI x) hf hl hok hl2) (lvl_set hlv trivial) (vl_tl hst))
  | istore b =>
    obtain rfl : n = 2 := hn rfl
    replace hk := hk rfl
    obtain ⟨i, l2, rfl, h2⟩ := n1_inv h
    clear h
    obtain rfl := of_decide_eq_true hsc
    obtain ⟨x, r, rfl, h3⟩ := pI_inv h2
    obtain ⟨hok, h4⟩ := ck_inv h3
    intro H locs ls hP hS hl hlv hst
    exact lv_istore hx hb hdec  (as_has hl) (by have := ok1_lt hok; have := hl.2.1; omega) rfl (fun ls2 hl2 => hk _ _ _ h4 H locs ls2 hP hS (H_set1 (v := aI x) hf hl hok hl2) (lvl_set hlv trivial) (vl_tl hst))
  | astore_n b =>
    obtain rfl : n = 1 := hn rfl
    replace hk := hk rfl
    obtain ⟨i, l2, rfl, h2⟩ := n1_inv h
    clear h
    obtain ⟨kd, j, o, r, rfl, h3⟩ := pR_inv h2
    obtain ⟨hok2, h4⟩ := ck_inv h3
    obtain ⟨hok, hn15⟩ := (Bool.and_eq_true _ _).mp hok2
    have h15 : ¬ kd = 15 := by
      intro e0
      subst e0
      cases hn15
    intro H locs ls hP hS hl hlv hst
    have e0 : cv ad fv (Sum.inl (kd, j, o)) = .ref (ad (kd, j, o)) := cv_ref h15
    show W p l e R s m args below meth c H locs cells slots Q (F0 m pc ls (cv ad fv (Sum.inl (kd, j, o)) :: r.map (cv ad fv)))
    rw [e0]
    exact lv_astore_n hx hb hdec (of_decide_eq_true hsc) (as_has hl) (by have := ok1_lt hok; have := hl.2.1; omega) rfl (fun ls2 hl2 => hk _ _ _ h4 H locs ls2 hP hS (H_set1 (v := Sum.inl (kd, j, o)) hf hl hok (by rw [e0]; exact hl2)) (lvl_set hlv (hst _ List.mem_cons_self)) (vl_tl hst))
  | lstore_n b =>
    obtain rfl : n = 1 := hn rfl
    replace hk := hk rfl
    obtain ⟨i, l2, rfl, h2⟩ := n1_inv h
    clear h
    obtain ⟨x, r, rfl, h3⟩ := pL_inv h2
    obtain ⟨hok2, h4⟩ := ck_inv h3
    obtain ⟨hok, hlt⟩ := (Bool.and_eq_true _ _).mp hok2
    have hlt2 : i + 1 < lv.length := Nat.le_of_ble_eq_true hlt
    intro H locs ls hP hS hl hlv hst
    exact lv_lstore_n hx hb hdec (of_decide_eq_true hsc) (as_has hl) (by have := hl.2.1; omega) rfl (fun ls2 hl2 => hk _ _ _ h4 H locs ls2 hP hS (H_set2 (v := aL x) hf hl hok hl2) (lvl_none (lvl_set hlv trivial)) (vl_tl hst))
  | iinc a b =>
    obtain rfl : n = 3 := hn rfl
    replace hk := hk rfl
    obtain ⟨i, l2, rfl, h2⟩ := n1_inv h
    clear h
    obtain ⟨v, rfl, h3⟩ := eI_inv h2
    obtain ⟨hs1, hs2⟩ := (Bool.and_eq_true _ _).mp hsc
    obtain rfl := of_decide_eq_true hs1
    have hs2 := of_decide_eq_true hs2
    split at h3
    · rename_i x hx2
      obtain ⟨hok, h4⟩ := ck_inv h3
      intro H locs ls hP hS hl hlv hst
      obtain ⟨q, hq⟩ := List.getElem?_of_mem (as_mem (ad := ad) (fv := fv) hx2)
      exact lv_iinc (v := x + v) hx hb hdec (as_has hl) hq (by rw [hs2]) (by have := ok1_lt hok; have := hl.2.1; omega) rfl (fun ls2 hl2 => hk _ _ _ h4 H locs ls2 hP hS (H_set1 (v := aI (x + v)) hf hl hok hl2) (lvl_set hlv trivial) hst)
    · exact h3.elim
  | iadd =>
    obtain rfl : n = 1 := hn rfl
    replace hk := hk rfl
    obtain ⟨y, r1, rfl, h2⟩ := pI_inv h
    clear h
    obtain ⟨x, r, rfl, h3⟩ := pI_inv h2
    clear h2
    intro H locs ls hP hS hl hlv hst
    exact lv_iadd hx hb hdec (hk _ _ _ h3 H locs ls hP hS hl hlv (vl_cons trivial (vl_tl (vl_tl hst))))
  | isub =>
    obtain rfl : n = 1 := hn rfl
    replace hk := hk rfl
    obtain ⟨y, r1, rfl, h2⟩ := pI_inv h
    clear h
    obtain ⟨x, r, rfl, h3⟩ := pI_inv h2
    clear h2
    intro H locs ls hP hS hl hlv hst
    exact lv_isub hx hb hdec (hk _ _ _ h3 H locs ls hP hS hl hlv (vl_cons trivial (vl_tl (vl_tl hst))))
  | imul =>
    obtain rfl : n = 1 := hn rfl
    replace hk := hk rfl
    obtain ⟨y, r1, rfl, h2⟩ := pI_inv h
    clear h
    obtain ⟨x, r, rfl, h3⟩ := pI_inv h2
    clear h2
    intro H locs ls hP hS hl hlv hst
    exact lv_imul hx hb hdec (hk _ _ _ h3 H locs ls hP hS hl hlv (vl_cons trivial (vl_tl (vl_tl hst))))
  | iand =>
    obtain rfl : n = 1 := hn rfl
    replace hk := hk rfl
    obtain ⟨y, r1, rfl, h2⟩ := pI_inv h
    clear h
    obtain ⟨x, r, rfl, h3⟩ := pI_inv h2
    clear h2
    intro H locs ls hP hS hl hlv hst
    exact lv_iand hx hb hdec (hk _ _ _ h3 H locs ls hP hS hl hlv (vl_cons trivial (vl_tl (vl_tl hst))))
  | ior =>
    obtain rfl : n = 1 := hn rfl
    replace hk := hk rfl
    obtain ⟨y, r1, rfl, h2⟩ := pI_inv h
    clear h
    obtain ⟨x, r, rfl, h3⟩ := pI_inv h2
    clear h2
    intro H locs ls hP hS hl hlv hst
    exact lv_ior hx hb hdec (hk _ _ _ h3 H locs ls hP hS hl hlv (vl_cons trivial (vl_tl (vl_tl hst))))
  | ixor =>
    obtain rfl : n = 1 := hn rfl
    replace hk := hk rfl
    obtain ⟨y, r1, rfl, h2⟩ := pI_inv h
    clear h
    obtain ⟨x, r, rfl, h3⟩ := pI_inv h2
    clear h2
    intro H locs ls hP hS hl hlv hst
    exact lv_ixor hx hb hdec (hk _ _ _ h3 H locs ls hP hS hl hlv (vl_cons trivial (vl_tl (vl_tl hst))))
  | ishl =>
    obtain rfl : n = 1 := hn rfl
    replace hk := hk rfl
    obtain ⟨y, r1, rfl, h2⟩ := pI_inv h
    clear h
    obtain ⟨x, r, rfl, h3⟩ := pI_inv h2
    clear h2
    intro H locs ls hP hS hl hlv hst
    exact lv_ishl hx hb hdec (hk _ _ _ h3 H locs ls hP hS hl hlv (vl_cons trivial (vl_tl (vl_tl hst))))
  | ishr =>
    obtain rfl : n = 1 := hn rfl
    replace hk := hk rfl
    obtain ⟨y, r1, rfl, h2⟩ := pI_inv h
    clear h
    obtain ⟨x, r, rfl, h3⟩ := pI_inv h2
    clear h2
    intro H locs ls hP hS hl hlv hst
    exact lv_ishr hx hb hdec (hk _ _ _ h3 H locs ls hP hS hl hlv (vl_cons trivial (vl_tl (vl_tl hst))))
  | idiv =>
    obtain rfl : n = 1 := hn rfl
    replace hk := hk rfl
    obtain ⟨y, r1, rfl, h2⟩ := pI_inv h
    clear h
    obtain ⟨x, r, rfl, h3⟩ := pI_inv h2
    clear h2
    intro H locs ls hP hS hl hlv hst
    exact lv_idiv hx hb hdec h3.1 (hk _ _ _ h3.2 H locs ls hP hS hl hlv (vl_cons trivial (vl_tl (vl_tl hst))))
  | irem =>
    obtain rfl : n = 1 := hn rfl
    replace hk := hk rfl
    obtain ⟨y, r1, rfl, h2⟩ := pI_inv h
    clear h
    obtain ⟨x, r, rfl, h3⟩ := pI_inv h2
    clear h2
    intro H locs ls hP hS hl hlv hst
    exact lv_irem hx hb hdec h3.1 (hk _ _ _ h3.2 H locs ls hP hS hl hlv (vl_cons trivial (vl_tl (vl_tl hst))))
  | ladd =>
    obtain rfl : n = 1 := hn rfl
    replace hk := hk rfl
    obtain ⟨y, r1, rfl, h2⟩ := pL_inv h
    clear h
    obtain ⟨x, r, rfl, h3⟩ := pL_inv h2
    clear h2
    intro H locs ls hP hS hl hlv hst
    exact lv_ladd hx hb hdec (hk _ _ _ h3 H locs ls hP hS hl hlv (vl_cons trivial (vl_tl (vl_tl hst))))
  | land =>
    obtain rfl : n = 1 := hn rfl
    replace hk := hk rfl
    obtain ⟨y, r1, rfl, h2⟩ := pL_inv h
    clear h
    obtain ⟨x, r, rfl, h3⟩ := pL_inv h2
    clear h2
    intro H locs ls hP hS hl hlv hst
    exact lv_land hx hb hdec (hk _ _ _ h3 H locs ls hP hS hl hlv (vl_cons trivial (vl_tl (vl_tl hst))))
  | lor =>
    obtain rfl : n = 1 := hn rfl
    replace hk := hk rfl
    obtain ⟨y, r1, rfl, h2⟩ := pL_inv h
    clear h
    obtain ⟨x, r, rfl, h3⟩ := pL_inv h2
    clear h2
    intro H locs ls hP hS hl hlv hst
    exact lv_lor hx hb hdec (hk _ _ _ h3 H locs ls hP hS hl hlv (vl_cons trivial (vl_tl (vl_tl hst))))
  | lcmp =>
    obtain rfl : n = 1 := hn rfl
    replace hk := hk rfl
    obtain ⟨y, r1, rfl, h2⟩ := pL_inv h
    clear h
    obtain ⟨x, r, rfl, h3⟩ := pL_inv h2
    clear h2
    intro H locs ls hP hS hl hlv hst
    exact W.lcmp hx hb hdec (hk _ _ _ h3 H locs ls hP hS hl hlv (vl_cons trivial (vl_tl (vl_tl hst))))
  | lshl =>
    obtain rfl : n = 1 := hn rfl
    replace hk := hk rfl
    obtain ⟨y, r1, rfl, h2⟩ := pI_inv h
    clear h
    obtain ⟨x, r, rfl, h3⟩ := pL_inv h2
    clear h2
    intro H locs ls hP hS hl hlv hst
    exact lv_lshl hx hb hdec rfl (hk _ _ _ h3 H locs ls hP hS hl hlv (vl_cons trivial (vl_tl (vl_tl hst))))
  | lshr =>
    obtain rfl : n = 1 := hn rfl
    replace hk := hk rfl
    obtain ⟨y, r1, rfl, h2⟩ := pI_inv h
    clear h
    obtain ⟨x, r, rfl, h3⟩ := pL_inv h2
    clear h2
    intro H locs ls hP hS hl hlv hst
    exact lv_lshr hx hb hdec rfl (hk _ _ _ h3 H locs ls hP hS hl hlv (vl_cons trivial (vl_tl (vl_tl hst))))
  | lushr =>
    obtain rfl : n = 1 := hn rfl
    replace hk := hk rfl
    obtain ⟨y, r1, rfl, h2⟩ := pI_inv h
    clear h
    obtain ⟨x, r, rfl, h3⟩ := pL_inv h2
    clear h2
    intro H locs ls hP hS hl hlv hst
    exact lv_lushr hx hb hdec rfl (hk _ _ _ h3 H locs ls hP hS hl hlv (vl_cons trivial (vl_tl (vl_tl hst))))
  | ineg =>
    obtain rfl : n = 1 := hn rfl
    replace hk := hk rfl
    obtain ⟨x, r, rfl, h2⟩ := pI_inv h
    clear h
    intro H locs ls hP hS hl hlv hst
    exact lv_ineg hx hb hdec (hk _ _ _ h2 H locs ls hP hS hl hlv (vl_cons trivial (vl_tl hst)))
  | i2l =>
    obtain rfl : n = 1 := hn rfl
    replace hk := hk rfl
    obtain ⟨x, r, rfl, h2⟩ := pI_inv h
    clear h
    intro H locs ls hP hS hl hlv hst
    exact lv_i2l hx hb hdec rfl (hk _ _ _ h2 H locs ls hP hS hl hlv (vl_cons trivial (vl_tl hst)))
  | l2i =>
    obtain rfl : n = 1 := hn rfl
    replace hk := hk rfl
    obtain ⟨x, r, rfl, h2⟩ := pL_inv h
    clear h
    intro H locs ls hP hS hl hlv hst
    exact lv_l2i hx hb hdec rfl (hk _ _ _ h2 H locs ls hP hS hl hlv (vl_cons trivial (vl_tl hst)))
  | i2b =>
    obtain rfl : n = 1 := hn rfl
    replace hk := hk rfl
    obtain ⟨x, r, rfl, h2⟩ := pI_inv h
    clear h
    intro H locs ls hP hS hl hlv hst
    exact lv_i2b hx hb hdec rfl (hk _ _ _ h2 H locs ls hP hS hl hlv (vl_cons trivial (vl_tl hst)))
  | i2s =>
    obtain rfl : n = 1 := hn rfl
    replace hk := hk rfl
    obtain ⟨x, r, rfl, h2⟩ := pI_inv h
    clear h
    intro H locs ls hP hS hl hlv hst
    exact lv_i2s hx hb hdec rfl (hk _ _ _ h2 H locs ls hP hS hl hlv (vl_cons trivial (vl_tl hst)))
  | i2c =>
    obtain rfl : n = 1 := hn rfl
    replace hk := hk rfl
    obtain ⟨x, r, rfl, h2⟩ := pI_inv h
    clear h
    intro H locs ls hP hS hl hlv hst
    exact lv_i2c hx hb hdec rfl (hk _ _ _ h2 H locs ls hP hS hl hlv (vl_cons trivial (vl_tl hst)))
  | dup =>
    obtain rfl : n = 1 := hn rfl
    replace hk := hk rfl
    replace h : am_pA st (fun x r => k lv (x :: x :: r) M) := h
    obtain ⟨v, r, rfl, hv, h2⟩ := pA_inv h
    clear h
    intro H locs ls hP hS hl hlv hst
    exact lv_dup hx hb hdec (cv_cat1 hf hv) (hk _ _ _ h2 H locs ls hP hS hl hlv (vl_cons (hst _ List.mem_cons_self) hst))
  | dup2 =>
    obtain rfl : n = 1 := hn rfl
    replace hk := hk rfl
    replace h : am_pA st (fun x r => am_pA r fun y r => k lv (x :: y :: x :: y :: r) M) := h
    obtain ⟨v, r1, rfl, hv, h2⟩ := pA_inv h
    clear h
    obtain ⟨w, r, rfl, hw, h3⟩ := pA_inv h2
    clear h2
    intro H locs ls hP hS hl hlv hst
    exact lv_dup2_11 hx hb hdec (cv_cat1 hf hv) (cv_cat1 hf hw) (hk _ _ _ h3 H locs ls hP hS hl hlv (vl_cons (hst _ List.mem_cons_self) (vl_cons (hst _ (List.mem_cons_of_mem _ List.mem_cons_self)) hst)))
  | pop =>
    obtain rfl : n = 1 := hn rfl
    replace hk := hk rfl
    replace h : am_pA st (fun _ r => k lv r M) := h
    obtain ⟨v, r, rfl, hv, h2⟩ := pA_inv h
    clear h
    intro H locs ls hP hS hl hlv hst
    exact lv_pop hx hb hdec (cv_cat1 hf hv) (hk _ _ _ h2 H locs ls hP hS hl hlv (vl_tl hst))
  | getfield idx =>
    obtain rfl : n = 3 := hn rfl
    replace hk := hk rfl
    cases en with
    | none => exact h.elim
    | some ev =>
      rcases ev with cs | cl | ci | cj | cr | ct | cu
      · obtain ⟨c1, s1⟩ := cs
        exact snd_get hcl C (hpo 0 idx _ rfl rfl) hdec (fun r hr => hk _ _ _ hr) h
      · exact h.elim
      · exact h.elim
      · exact h.elim
      · exact h.elim
      · obtain ⟨kd, j, o, r, rfl, h2⟩ := pR_inv h
        obtain ⟨hck, h3⟩ := ck_inv h2
        obtain rfl := Nat.eq_of_beq_eq_true hck
        intro H locs ls hP hS hl hlv hst
        have hv2 : j = 0 ∧ o < 8 := by
          rcases hst _ List.mem_cons_self with q | q
          · exact absurd ((by decide +kernel : ∀ q ∈ am_all, q.1 < 12) _ q) (show ¬ (13 : Nat) < 12 by decide)
          · revert q
            simp only [am_ro, List.mem_cons, Prod.mk.injEq, List.not_mem_nil, or_false]
            omega
        obtain ⟨rfl, ho⟩ := hv2
        have hst2 := vl_tl hst
        show W p l e R s m args below meth c H locs cells slots Q (F0 m pc ls (cv ad fv (Sum.inl (13, 0, o)) :: r.map (cv ad fv)))
        rw [cv_ref (show ¬ (13 : Nat) = 15 by decide)]
        rcases hpo 0 idx _ rfl rfl with ⟨rfl, hlk⟩ | ⟨rfl, hlk⟩
        · exact vk_getf hx hb (hE.2.2.2.2.2.1.1 o ho).2.1 hS hown (hts _ hlk) (fun _ q => q) hdec (hk _ _ _ h3 H locs ls hP hS hl hlv (vl_cons trivial hst2))
        · refine vk_getf hx hb (hE.2.2.2.2.2.1.1 o ho).2.2.1 hS hown (hts _ hlk) (fun _ q => q) hdec ?_
          have h5 := hk _ _ _ h3 H locs ls hP hS hl hlv (vl_cons (ro_14 ho) hst2)
          rw [List.map_cons, cv_ref (show ¬ (14 : Nat) = 15 by decide)] at h5
          exact h5
      · exact h.elim
  | putfield idx =>
    obtain rfl : n = 3 := hn rfl
    replace hk := hk rfl
    cases en with
    | none => exact h.elim
    | some ev =>
      rcases ev with cs | ev
      · obtain ⟨c1, s1⟩ := cs
        exact snd_put hcl C (hpo 0 idx _ rfl rfl) hdec (fun r M2 hr => hk _ _ _ hr) h
      · exact h.elim
  | getstatic idx =>
    obtain rfl : n = 3 := hn rfl
    replace hk := hk rfl
    cases en with
    | none => exact h.elim
    | some ev =>
      rcases ev with cs | cl | ci | cj | cr | ct | cu
      · exact h.elim
      · exact h.elim
      · obtain ⟨rfl, hlk⟩ := hpo 3 idx _ rfl rfl
        intro H locs ls hP hS hl hlv hst
        exact va_gets hx hb hE.2.2.1 hS hown (hts _ hlk) (fun _ q => q) hdec (hk _ _ _ h H locs ls hP hS hl hlv (vl_cons trivial hst))
      · exact h.elim
      · intro H locs ls hP hS hl hlv hst
        rcases hpo 3 idx _ rfl rfl with ⟨i, hi, rfl, hlk⟩ | ⟨rfl, hlk⟩
        · refine va_gets hx hb (hE.2.1 i hi).1 hS hown (hts _ hlk) (fun _ q => q) hdec ?_
          have h5 := hk _ _ _ h H locs ls hP hS hl hlv (vl_cons (ro_12 hi) hst)
          rw [List.map_cons, cv_ref (show ¬ (12 : Nat) = 15 by decide)] at h5
          exact h5
        · refine va_gets hx hb hE.2.2.2.1 hS hown (hts _ hlk) (fun _ q => q) hdec ?_
          exact hk _ _ _ h H locs ls hP hS hl hlv (vl_cons (Or.inr (by decide)) hst)
      · exact h.elim
      · exact h.elim
  | arraylength =>
    obtain rfl : n = 1 := hn rfl
    replace hk := hk rfl
    exact snd_len C hdec (fun r hr => hk _ _ _ hr) h
  | iaload =>
    obtain rfl : n = 1 := hn rfl
    replace hk := hk rfl
    exact snd_ild C hdec (fun r hr => hk _ _ _ hr) h
  | baload =>
    obtain rfl : n = 1 := hn rfl
    replace hk := hk rfl
    exact snd_bld C hdec (fun r hr => hk _ _ _ hr) h
  | iastore =>
    obtain rfl : n = 1 := hn rfl
    replace hk := hk rfl
    exact snd_ist C hdec (fun r M2 hr => hk _ _ _ hr) h
  | bastore =>
    obtain rfl : n = 1 := hn rfl
    replace hk := hk rfl
    exact snd_bst C hdec (fun r M2 hr => hk _ _ _ hr) h
  | if_icmp op off =>
    obtain rfl : n = 3 := hn rfl
    replace hk := hk rfl
    obtain ⟨t, l2, rfl, h2⟩ := n1_inv h
    clear h
    obtain ⟨y, r1, rfl, h3⟩ := pI_inv h2
    clear h2
    obtain ⟨x, r, rfl, h4⟩ := pI_inv h3
    clear h3
    have ht := of_decide_eq_true hsc
    intro H locs ls hP hS hl hlv hst
    have hst2 := vl_tl (vl_tl hst)
    cases op with
    | eq => exact lv_icmp_eq hx hb hdec ht (fun q => h4.1 q H locs ls hP hS hl hlv hst2) (fun q => hk _ _ _ (h4.2 q) H locs ls hP hS hl hlv hst2)
    | ne => exact lv_icmp_ne hx hb hdec ht (fun q => h4.2 q H locs ls hP hS hl hlv hst2) (fun q => hk _ _ _ (h4.1 q) H locs ls hP hS hl hlv hst2)
    | lt => exact lv_icmp_lt hx hb hdec ht (fun q => h4.1 q H locs ls hP hS hl hlv hst2) (fun q => hk _ _ _ (h4.2 q) H locs ls hP hS hl hlv hst2)
    | ge => exact lv_icmp_ge hx hb hdec ht (fun q => h4.1 q H locs ls hP hS hl hlv hst2) (fun q => hk _ _ _ (h4.2 q) H locs ls hP hS hl hlv hst2)
    | gt => exact lv_icmp_gt hx hb hdec ht (fun q => h4.1 q H locs ls hP hS hl hlv hst2) (fun q => hk _ _ _ (h4.2 q) H locs ls hP hS hl hlv hst2)
    | le => exact lv_icmp_le hx hb hdec ht (fun q => h4.1 q H locs ls hP hS hl hlv hst2) (fun q => hk _ _ _ (h4.2 q) H locs ls hP hS hl hlv hst2)
  | ifCond op off =>
    obtain rfl : n = 3 := hn rfl
    replace hk := hk rfl
    obtain ⟨t, l2, rfl, h2⟩ := n1_inv h
    clear h
    obtain ⟨x, r, rfl, h4⟩ := pI_inv h2
    clear h2
    have ht := of_decide_eq_true hsc
    intro H locs ls hP hS hl hlv hst
    have hst2 := vl_tl hst
    cases op with
    | eq => exact lv_if_eq hx hb hdec ht (fun q => h4.1 q H locs ls hP hS hl hlv hst2) (fun q => hk _ _ _ (h4.2 q) H locs ls hP hS hl hlv hst2)
    | ne => exact lv_if_ne hx hb hdec ht (fun q => h4.2 q H locs ls hP hS hl hlv hst2) (fun q => hk _ _ _ (h4.1 q) H locs ls hP hS hl hlv hst2)
    | lt => exact lv_if_lt hx hb hdec ht (fun q => h4.1 q H locs ls hP hS hl hlv hst2) (fun q => hk _ _ _ (h4.2 q) H locs ls hP hS hl hlv hst2)
    | ge => exact lv_if_ge hx hb hdec ht (fun q => h4.1 q H locs ls hP hS hl hlv hst2) (fun q => hk _ _ _ (h4.2 q) H locs ls hP hS hl hlv hst2)
    | gt => exact lv_if_gt hx hb hdec ht (fun q => h4.1 q H locs ls hP hS hl hlv hst2) (fun q => hk _ _ _ (h4.2 q) H locs ls hP hS hl hlv hst2)
    | le => exact lv_if_le hx hb hdec ht (fun q => h4.1 q H locs ls hP hS hl hlv hst2) (fun q => hk _ _ _ (h4.2 q) H locs ls hP hS hl hlv hst2)
  | goto off =>
    obtain rfl : n = 3 := hn rfl
    replace hk := hk rfl
    obtain ⟨t, l2, rfl, h2⟩ := n1_inv h
    clear h
    have ht := of_decide_eq_true hsc
    intro H locs ls hP hS hl hlv hst
    exact lv_goto hx hb hdec ht (h2 H locs ls hP hS hl hlv hst)
  | tableswitch df lo hi offs =>
    cases ns with
    | nil => exact h.elim
    | cons t0 l0 =>
      obtain ⟨x, r, rfl, h2⟩ := pI_inv h
      clear h
      obtain ⟨hs1, hs3⟩ := (Bool.and_eq_true _ _).mp hsc
      obtain ⟨hs1, hs2⟩ := (Bool.and_eq_true _ _).mp hs1
      have hs1 := of_decide_eq_true hs1
      have hs3 := of_decide_eq_true hs3
      intro H locs ls hP hS hl hlv hst
      have hst2 := vl_tl hst
      by_cases hr0 : x.toInt < lo ∨ hi < x.toInt
      · have h5 := sw_out offs.toList l0 lo hs2 (by omega) h2
        exact lv_tableOut hx hb hdec hr0 hs1 (h5 H locs ls hP hS hl hlv hst2)
      · have hlt : (x.toInt - lo).toNat < offs.toList.length := by omega
        have ho : offs.toList[(x.toInt - lo).toNat]? = some offs.toList[(x.toInt - lo).toNat] := List.getElem?_eq_getElem hlt
        obtain ⟨t, ht, h5⟩ := sw_in offs.toList l0 lo _ _ hs2 ho (by omega) h2
        exact lv_tableIn hx hb hdec (by omega) (by omega) (by rw [← Array.getElem?_toList]; exact ho) ht (h5 H locs ls hP hS hl hlv hst2)
  | invokevirtual idx =>
    obtain rfl : n = 3 := hn rfl
    replace hk := hk rfl
    cases en with
    | none => exact h.elim
    | some ev =>
      rcases ev with cs | cl | cw
      · exact h.elim
      · obtain ⟨n0, a0, kd⟩ := cl
        replace h : am_callM d n0 a0 (some kd) st M (fun r M2 => k lv r M2) := h
        unfold am_callM at h
        cases hp : am_pop a0 st [] with
        | none => rw [hp] at h; exact h.elim
        | some q =>
          obtain ⟨as, rest⟩ := q
          rw [hp] at h
          obtain ⟨hrc, h2⟩ := ck_inv h
          obtain ⟨hct, d2, Po, hd2, hcon, h30⟩ := ck_inv h2
          obtain ⟨bs, rfl, e2, e3⟩ := pop_inv _ _ _ _ _ hp
          cases as with
          | nil => cases hrc
          | cons v as =>
            rcases v with q | x
            · obtain ⟨k0, j0, o0⟩ := q
              have hrc2 : (Nat.beq k0 kd && (Nat.beq o0 0 || Nat.beq k0 13)) = true := hrc
              obtain ⟨g1, g2⟩ := (Bool.and_eq_true _ _).mp hrc2
              obtain rfl := Nat.eq_of_beq_eq_true g1
              have g3 : o0 = 0 ∨ k0 = 13 := by
                rcases (Bool.or_eq_true _ _).mp g2 with q | q
                · exact Or.inl (Nat.eq_of_beq_eq_true q)
                · exact Or.inr (Nat.eq_of_beq_eq_true q)
              have e4 : bs = as.reverse ++ [aR k0 j0 o0] := by
                have e5 : bs.reverse = aR k0 j0 o0 :: as := by simpa using e2.symm
                have e6 := congrArg List.reverse e5
                simpa using e6
              have e7 : a0 = as.length + 1 := by rw [← e3, e4]; simp
              subst e7
              subst e4
              intro H locs ls hP hS hl hlv hst
              have hval : ∀ v ∈ aR k0 j0 o0 :: as, am_vl v := fun v hv => hst v (by
                rcases List.mem_cons.mp hv with rfl | hv
                · simp
                · simp [hv])
              have e8 : ((as.reverse ++ [aR k0 j0 o0]) ++ rest).map (cv ad fv) = (as.map (cv ad fv)).reverse ++ cv ad fv (aR k0 j0 o0) :: rest.map (cv ad fv) := by simp
              show W p l e R s m args below meth c H locs cells slots Q (F0 m pc ls (((as.reverse ++ [aR k0 j0 o0]) ++ rest).map (cv ad fv)))
              rw [e8]
              refine am_callV C hcon hd2 g3 (hpo 4 idx _ rfl rfl) hP hS hl.1 (Nat.le_of_ble_eq_true hct) hval hdec (fun r M2 hpo9 H1 locs1 hP1 hS1 => ?_)
              have h3 := h30 r M2 hpo9
              have hrest : ∀ v ∈ rest, am_vl v := fun v hv => hst v (by simp [hv])
              cases r with
              | none => exact hk _ _ _ h3 H1 locs1 ls hP1 hS1 hl hlv hrest
              | some rv =>
                rcases rv with q | x
                · exact h3.elim
                · exact hk _ _ _ h3 H1 locs1 ls hP1 hS1 hl hlv (vl_cons trivial hrest)
            · cases hrc
      · exact h.elim
  | invokestatic idx =>
    obtain rfl : n = 3 := hn rfl
    replace hk := hk rfl
    cases en with
    | none => exact h.elim
    | some ev =>
      rcases ev with cs | cl | ci | cj | cr | ct | cu
      · exact h.elim
      · obtain ⟨n0, a0, kd⟩ := cl
        replace h : am_callM d n0 a0 none st M (fun r M2 => k lv r M2) := h
        unfold am_callM at h
        cases hp : am_pop a0 st [] with
        | none => rw [hp] at h; exact h.elim
        | some q =>
          obtain ⟨as, rest⟩ := q
          rw [hp] at h
          obtain ⟨hrc, h2⟩ := ck_inv h
          obtain ⟨hct, d2, Po, hd2, hcon, h30⟩ := ck_inv h2
          obtain ⟨bs, rfl, e2, e3⟩ := pop_inv _ _ _ _ _ hp
          have e4 : bs = as.reverse := by
            have e5 : bs.reverse = as := by simpa using e2.symm
            have e6 := congrArg List.reverse e5
            simpa using e6
          have e7 : a0 = as.length := by rw [← e3, e4]; simp
          subst e7
          subst e4
          intro H locs ls hP hS hl hlv hst
          have hval : ∀ v ∈ as, am_vl v := fun v hv => hst v (by simp [hv])
          have e8 : (as.reverse ++ rest).map (cv ad fv) = (as.map (cv ad fv)).reverse ++ rest.map (cv ad fv) := by simp
          show W p l e R s m args below meth c H locs cells slots Q (F0 m pc ls ((as.reverse ++ rest).map (cv ad fv)))
          rw [e8]
          refine am_callS C hcon hd2 (hpo 5 idx _ rfl rfl) hP hS hl.1 (Nat.le_of_ble_eq_true hct) hval hdec (fun r M2 hpo9 H1 locs1 hP1 hS1 => ?_)
          have h3 := h30 r M2 hpo9
          have hrest : ∀ v ∈ rest, am_vl v := fun v hv => hst v (by simp [hv])
          cases r with
          | none => exact hk _ _ _ h3 H1 locs1 ls hP1 hS1 hl hlv hrest
          | some rv =>
            rcases rv with q | x
            · exact h3.elim
            · exact hk _ _ _ h3 H1 locs1 ls hP1 hS1 hl hlv (vl_cons trivial hrest)
      · exact h.elim
      · exact h.elim
      · exact h.elim
      · exact h.elim
      · exact snd_cpy C (hpo 5 idx _ rfl rfl) hdec (fun r M2 hr => hk _ _ _ hr) h
  | ireturn =>
    obtain rfl : n = 1 := hn rfl
    replace hk := hk rfl
    obtain ⟨x, r, rfl, h2⟩ := pI_inv h
    clear h
    obtain ⟨hr, h3⟩ := ck_inv h2
    obtain rfl := List.isEmpty_iff.mp hr
    intro H locs ls hP hS hl hlv hst
    exact hRe.1 x M H locs ls pc h3 hP hS hdec
  | lreturn =>
    obtain rfl : n = 1 := hn rfl
    replace hk := hk rfl
    obtain ⟨x, r, rfl, h2⟩ := pL_inv h
    clear h
    obtain ⟨hr, h3⟩ := ck_inv h2
    obtain rfl := List.isEmpty_iff.mp hr
    intro H locs ls hP hS hl hlv hst
    exact hRe.2.1 x M H locs ls pc h3 hP hS hdec
  | return_ =>
    obtain rfl : n = 1 := hn rfl
    replace hk := hk rfl
    obtain ⟨hr, h3⟩ := ck_inv h
    obtain rfl := List.isEmpty_iff.mp hr
    intro H locs ls hP hS hl hlv hst
    exact hRe.2.2 M H locs ls pc h3 hP hS hdec
  | _ => exact h.elim
end Snd4
end
section
theorem poc_inv {pool : List (Nat × Nat × am_N)} {el : am_E} {t i : Nat} {en : am_N} (h : am_poc pool el = true) (hk : am_key el.2.1 = some (t, i)) (he : el.2.2.2 = some en) : (t, i, en) ∈ pool := by
  unfold am_poc at h
  rw [hk, he] at h
  obtain ⟨q, hq, h2⟩ := List.any_eq_true.mp h
  simp only [Bool.and_eq_true, beq_iff_eq] at h2
  obtain ⟨⟨rfl, rfl⟩, h3⟩ := h2
  rw [← am_eqN_ok h3]
  exact hq
theorem chk_inv {cc : ByteArray} {pool : List (Nat × Nat × am_N)} {el : am_E} {L : List am_E} (h : am_chk cc pool (el :: L) = true) : ∃ n, decode cc el.1 = .ok (el.2.1, n) ∧ (am_isw el.2.1 = false → n = am_ln el.2.1 ∧ ∀ e2 L2, L = e2 :: L2 → e2.1 = el.1 + n) ∧ am_sc1 el = true ∧ am_poc pool el = true ∧ am_chk cc pool L = true := by
  unfold am_chk at h
  obtain ⟨h123, h4⟩ := (Bool.and_eq_true _ _).mp h
  obtain ⟨h12, h3⟩ := (Bool.and_eq_true _ _).mp h123
  obtain ⟨h1, h2⟩ := (Bool.and_eq_true _ _).mp h12
  cases hd : decode cc el.1 with
  | error x => rw [hd] at h1; cases h1
  | ok q =>
    obtain ⟨i, n⟩ := q
    rw [hd] at h1
    obtain ⟨g1, g2⟩ := (Bool.and_eq_true _ _).mp h1
    obtain rfl := of_decide_eq_true g1
    refine ⟨n, rfl, fun hs => ?_, h2, h3, h4⟩
    rw [hs, Bool.false_or] at g2
    obtain ⟨g3, g4⟩ := (Bool.and_eq_true _ _).mp g2
    refine ⟨by simpa using g3, fun e2 L2 e => ?_⟩
    subst e
    simpa using g4
theorem to_suf {cc : ByteArray} {pool : List (Nat × Nat × am_N)} (pc : Nat) : ∀ code : List am_E, am_chk cc pool code = true → am_chk cc pool (am_to pc code) = true ∧ ∀ el L, am_to pc code = el :: L → el.1 = pc
  | [], h => ⟨h, fun _ _ e => by cases e⟩
  | el :: L, h => by
    unfold am_to
    cases hb : Nat.beq el.1 pc with
    | true =>
      refine ⟨h, fun e2 L2 e => ?_⟩
      cases e
      exact Nat.eq_of_beq_eq_true hb
    | false =>
      obtain ⟨-, -, -, -, -, h2⟩ := chk_inv h
      exact to_suf pc L h2
section Snd5
variable {p : Program} {l : Launch} {e : Env} {R : Room} {s : State} {m : MethodId} {args : Array Value} {below : List Frame} {meth : Method} {c : Code} {cells slots : Nat} {Q : State → Prop} {cc : ByteArray} {nL : Nat} {own : String} {D : va_G} {ad : Nat × Nat × Nat → Nat} {fv : Value} {cI cZ : ClassId} {A : Nat → Prop} {d : Nat} {X : Option (Nat × (Nat → Int32))} {ret : Option FieldType} {Rt : Option am_V → am_M → Prop}
theorem snd_rst (hcl : am_clok) (C : am_Cx p R s m args c cells slots cc nL own D ad fv cI cZ A d X) (hRe : am_Re p l e R s m args below meth c cells slots Q cc D ad cI cZ A ret Rt) {pool : List (Nat × Nat × am_N)} (hpool : ∀ q ∈ pool, am_pk own q.1 q.2.1 q.2.2) (cut : List Nat) : ∀ (S : List am_E), am_chk cc pool S = true → ∀ (lv : am_L) (st : List am_V) (M : am_M), am_rst d X ret (am_J p l e R s m args below meth c cells slots Q nL D ad fv cI cZ A) Rt cut S lv st M → ∀ el L, S = el :: L → am_J p l e R s m args below meth c cells slots Q nL D ad fv cI cZ A el.1 lv st M
  | [], _, _, _, _, _, _, _, hS => by cases hS
  | el :: L, hc, lv, st, M, h, _, _, hS => by
    cases hS
    obtain ⟨n, h1, h2, h3, h4, h5⟩ := chk_inv hc
    unfold am_rst at h
    cases hcut : cut.any (Nat.beq el.1) with
    | true => rw [hcut] at h; exact h
    | false =>
      rw [hcut] at h
      refine snd_step hcl C hRe (n := n) h1 (fun q => (h2 q).1) (fun q lv st M hk => ?_) h3 (fun t i en hk he => hpool _ (poc_inv h4 hk he)) h
      cases L with
      | nil => exact hk.elim
      | cons e2 L2 =>
        have := snd_rst hcl C hRe hpool cut (e2 :: L2) h5 lv st M hk e2 L2 rfl
        rw [(h2 q).2 e2 L2 rfl] at this
        exact this
theorem snd_blk (hcl : am_clok) (C : am_Cx p R s m args c cells slots cc nL own D ad fv cI cZ A d X) (hRe : am_Re p l e R s m args below meth c cells slots Q cc D ad cI cZ A ret Rt) {pool : List (Nat × Nat × am_N)} (hpool : ∀ q ∈ pool, am_pk own q.1 q.2.1 q.2.2) (cut : List Nat) : ∀ (S : List am_E), am_chk cc pool S = true → ∀ (lv : am_L) (st : List am_V) (M : am_M), am_blk d X ret (am_J p l e R s m args below meth c cells slots Q nL D ad fv cI cZ A) Rt cut S lv st M → ∀ el L, S = el :: L → am_J p l e R s m args below meth c cells slots Q nL D ad fv cI cZ A el.1 lv st M
  | [], _, _, _, _, _, _, _, hS => by cases hS
  | el :: L, hc, lv, st, M, h, _, _, hS => by
    cases hS
    obtain ⟨n, h1, h2, h3, h4, h5⟩ := chk_inv hc
    refine snd_step hcl C hRe (n := n) h1 (fun q => (h2 q).1) (fun q lv st M hk => ?_) h3 (fun t i en hk he => hpool _ (poc_inv h4 hk he)) h
    cases L with
    | nil => exact hk.elim
    | cons e2 L2 =>
      have := snd_rst hcl C hRe hpool cut (e2 :: L2) h5 lv st M hk e2 L2 rfl
      rw [(h2 q).2 e2 L2 rfl] at this
      exact this
theorem snd_cl (hcl : am_clok) (C : am_Cx p R s m args c cells slots cc nL own D ad fv cI cZ A d X) (hRe : am_Re p l e R s m args below meth c cells slots Q cc D ad cI cZ A ret Rt) {pool : List (Nat × Nat × am_N)} (hpool : ∀ q ∈ pool, am_pk own q.1 q.2.1 q.2.2) {code : List am_E} (hc : am_chk cc pool code = true) : am_cl d X ret code (am_J p l e R s m args below meth c cells slots Q nL D ad fv cI cZ A) Rt := by
  intro cut pc lv st M h
  obtain ⟨h1, h2⟩ := to_suf pc code hc
  cases hq : am_to pc code with
  | nil => rw [hq] at h; exact h.elim
  | cons el L =>
    rw [hq] at h h1
    have := snd_blk hcl C hRe hpool cut (el :: L) h1 lv st M h el L rfl
    rw [h2 el L hq] at this
    exact this
end Snd5
theorem sl_cons (v : Value) (vs : List Value) : (lg_sl (v :: vs)).length = (if v.category = 2 then 2 else 1) + (lg_sl vs).length := by
  unfold lg_sl
  rw [List.flatMap_cons, List.length_append]
  by_cases h : v.category = 2
  · rw [if_pos h, if_pos h]; rfl
  · rw [if_neg h, if_neg h]; rfl
theorem args_len {ad : Nat × Nat × Nat → Nat} {fv : Value} (hf : fv = .null ∨ ∃ t : Nat, fv = .ref t) : ∀ as : List am_V, (lg_sl (as.map (cv ad fv))).length = (am_args as).length
  | [] => rfl
  | Sum.inl q :: t => by
    have h1 := cv_cat1 (ad := ad) hf (v := Sum.inl q) (fun x h => by cases h)
    rw [List.map_cons, sl_cons, h1, args_len hf t]
    simp [am_args, Nat.add_comm]
  | Sum.inr (Sum.inl x) :: t => by
    rw [List.map_cons, sl_cons, args_len hf t]
    simp [am_args, cv, Value.category, Nat.add_comm]
  | Sum.inr (Sum.inr x) :: t => by
    rw [List.map_cons, sl_cons, args_len hf t]
    simp [am_args, cv, Value.category]
    omega
theorem nth_rep : ∀ (n i : Nat), am_nth (List.replicate n none) i = none
  | 0, i => by simp [am_nth]
  | n + 1, 0 => by simp [List.replicate_succ, am_nth]
  | n + 1, i + 1 => by
    rw [List.replicate_succ]
    exact nth_rep n i
theorem args_nth {ad : Nat × Nat × Nat → Nat} {fv : Value} (hf : fv = .null ∨ ∃ t : Nat, fv = .ref t) (n : Nat) : ∀ (as : List am_V) (b i : Nat) (v : am_V), am_nth (am_args as ++ List.replicate n none) i = some v → (b + i, cv ad fv v) ∈ lv_args b (as.map (cv ad fv)) ∧ v ∈ as
  | [], b, i, v, h => by
    have h1 : am_nth (List.replicate n none) i = some v := h
    rw [nth_rep] at h1
    cases h1
  | Sum.inl q :: t, b, 0, v, h => by
    cases h
    simp [lv_args]
  | Sum.inl q :: t, b, i + 1, v, h => by
    have h1 := cv_cat1 (ad := ad) hf (v := Sum.inl q) (fun x h => by cases h)
    obtain ⟨h2, h3⟩ := args_nth hf n t (b + 1) i v h
    refine ⟨?_, List.mem_cons_of_mem _ h3⟩
    have hne : ¬ (cv ad fv (Sum.inl q)).category = 2 := by omega
    simp only [List.map_cons, lv_args, if_neg hne]
    refine List.mem_cons_of_mem _ ?_
    have e0 : b + (i + 1) = b + 1 + i := by omega
    rw [e0]
    exact h2
  | Sum.inr (Sum.inl x) :: t, b, 0, v, h => by
    cases h
    simp [lv_args]
  | Sum.inr (Sum.inl x) :: t, b, i + 1, v, h => by
    obtain ⟨h2, h3⟩ := args_nth hf n t (b + 1) i v h
    refine ⟨?_, List.mem_cons_of_mem _ h3⟩
    have hne : ¬ (cv ad fv (Sum.inr (Sum.inl x))).category = 2 := by simp [cv, Value.category]
    simp only [List.map_cons, lv_args, if_neg hne]
    refine List.mem_cons_of_mem _ ?_
    have e0 : b + (i + 1) = b + 1 + i := by omega
    rw [e0]
    exact h2
  | Sum.inr (Sum.inr x) :: t, b, 0, v, h => by
    cases h
    simp [lv_args]
  | Sum.inr (Sum.inr x) :: t, b, 1, v, h => by cases h
  | Sum.inr (Sum.inr x) :: t, b, i + 2, v, h => by
    obtain ⟨h2, h3⟩ := args_nth hf n t (b + 2) i v h
    refine ⟨?_, List.mem_cons_of_mem _ h3⟩
    have hne : (cv ad fv (Sum.inr (Sum.inr x))).category = 2 := by simp [cv, Value.category]
    simp only [List.map_cons, lv_args, if_pos hne]
    refine List.mem_cons_of_mem _ ?_
    have e0 : b + (i + 2) = b + 2 + i := by omega
    rw [e0]
    exact h2
def am_mok (n : Nat) (code : List am_E) : Prop := plainFor (mt n).1 = true ∧ ∃ pool, am_chk (mt n).2.1 pool code = true ∧ ∀ q ∈ pool, am_pk (mt n).1.cls q.1 q.2.1 q.2.2
theorem con_of0 (hcl : am_clok) {d n : Nat} {as : List am_V} {M : am_M} {Po : Option am_V → am_M → Prop} {code : List am_E} (hok : am_mok n code) (lv0 : am_L) (h0 : am_lv0 (mt n).2.2.1 as = lv0) (hlen : (am_args as).length ≤ (mt n).2.2.1) {ret : Option FieldType} (hret : (mt n).2.2.2 = ret) (h : am_Sem d ret code lv0 M Po) : ConP d n as M Po := by
  subst hret
  subst h0
  intro l D ad fv cI cZ hval
  obtain ⟨hpl, pool, hchk, hpool⟩ := hok
  refine va_MetF (cc := (mt n).2.1) (maxL := (mt n).2.2.1) (ret := (mt n).2.2.2) hpl rfl ?_
  intro p e s m args below meth c s₁ B hml hpre
  obtain ⟨rfl, hP, hD, hK, hE⟩ := hpre
  have hf := hE.2.2.2.2.1
  have hts0 : ∀ w ∈ am_ws (mt n), w.before ((as.map (cv ad fv)).toArray) s = true := atoms_spec (ws := am_ws (mt n)) B.pre
  have hts : ∀ w ∈ gtb, w.before ((as.map (cv ad fv)).toArray) s = true := fun w hw => hts0 w (List.mem_cons_of_mem _ hw)
  have hown : s.vm.findClass (mt n).1.cls = some m.cls := findClass_of_methodNamed B.named
  have hDall : ∀ M, va_D (am_Af ad) (am_wl ad cI cZ M) := by
    intro M9
    refine ⟨fun i j x y hi hj hxy => ?_, fun k q hq => ?_⟩
    · simp only [am_wl, List.getElem?_map] at hi hj
      cases h1 : am_all[i]? with
      | none => rw [h1] at hi; cases hi
      | some q1 =>
        cases h2 : am_all[j]? with
        | none => rw [h2] at hj; cases hj
        | some q2 =>
          rw [h1] at hi
          rw [h2] at hj
          cases hi
          cases hj
          exact hD.1 i j _ _ (wl_at h1) (wl_at h2) hxy
    · simp only [am_wl, List.getElem?_map] at hq
      cases h1 : am_all[k]? with
      | none => rw [h1] at hq; cases hq
      | some q1 =>
        rw [h1] at hq
        cases hq
        exact ⟨q1, List.mem_of_getElem? h1, rfl⟩
  have C : am_Cx p (am_rm d) s m ((as.map (cv ad fv)).toArray) c 0 0 (mt n).2.1 (mt n).2.2.1 (mt n).1.cls D ad fv cI cZ (am_Af ad) d none := ⟨B.exec, B.bytes, hml, hown, hts, hK, hDall, hE, ⟨Nat.le_refl _, Nat.le_refl _⟩, ⟨Nat.le_refl _, Nat.le_refl _⟩, trivial⟩
  have hRe : am_Re p l e (am_rm d) s m ((as.map (cv ad fv)).toArray) below meth c 0 0 (MQ below (am_Q D ad fv cI cZ Po) ((as.map (cv ad fv)).toArray) s 0 0 (am_Af ad)) (mt n).2.1 D ad cI cZ (am_Af ad) (mt n).2.2.2 Po := by
    refine ⟨fun x M9 H locs ls pc hq hP9 hS9 hdg => ?_, fun x M9 H locs ls pc hq hP9 hS9 hdg => ?_, fun M9 H locs ls pc hq hP9 hS9 hdg => ?_⟩
    · have key : ∃ ty, (mt n).2.2.2 = some ty ∧ narrow ty (.int x) = .int x ∧ Po (some (aI x)) M9 := by
        cases hr : (mt n).2.2.2 with
        | none => rw [hr] at hq; exact hq.elim
        | some ty =>
          rw [hr] at hq
          refine ⟨ty, rfl, ?_⟩
          cases ty <;> first | exact ⟨rfl, hq⟩ | exact ⟨congrArg Value.int hq.1, hq.2⟩ | exact ⟨rfl, hq.2⟩
      obtain ⟨ty, h1, h2, hpo9⟩ := key
      exact W.zret B.exec B.bytes (B.returns.trans h1) h2 (fun t ht _ => ⟨_, M9, hpo9, rfl, by rw [ht]; exact hP9, hS9.F ht⟩) hS9.2.2 hdg B.notSynchronized
    · have key : (mt n).2.2.2 = some .long ∧ Po (some (aL x)) M9 := by
        unfold am_retL at hq
        split at hq
        · rename_i he
          exact ⟨he, hq⟩
        · exact hq.elim
      obtain ⟨h1, hpo9⟩ := key
      exact W.lret B.exec B.bytes (B.returns.trans h1) (fun t ht _ => ⟨_, M9, hpo9, rfl, by rw [ht]; exact hP9, hS9.F ht⟩) hS9.2.2 hdg B.notSynchronized
    · have key : (mt n).2.2.2 = none ∧ Po none M9 := by
        unfold am_retV at hq
        split at hq
        · rename_i he
          exact ⟨he, hq⟩
        · exact hq.elim
      obtain ⟨h1, hpo9⟩ := key
      exact W.vret B.exec B.bytes (B.returns.trans h1) (fun t ht _ => ⟨_, M9, hpo9, rfl, by rw [ht]; exact hP9, hS9.F ht⟩) hS9.2.2 hdg B.notSynchronized
  have hJ := h _ (snd_cl hcl C hRe hpool hchk)
  have hl := lv_entry (as.map (cv ad fv)) (n := (mt n).2.2.1) (by rw [args_len hf]; exact hlen)
  rw [lg_entry_eq]
  refine hJ s.heap [] _ hP va_S.rf ⟨hl.1, ?_, hl.2.1, fun i v hv => ?_⟩ (fun i v hv => ?_) (fun v hv => by cases hv)
  · simp only [am_lv0, List.length_append, List.length_replicate]
    omega
  · have h9 := (args_nth (ad := ad) hf _ as 0 i v hv).1
    rw [Nat.zero_add] at h9
    exact hl.2.2 _ h9
  · exact hval v (args_nth (ad := ad) hf _ as 0 i v hv).2
theorem con_of1 (hcl : am_clok) {d n : Nat} {as : List am_V} {M : am_M} {Po : Option am_V → am_M → Prop} {code : List am_E} (hok : am_mok n code) (lv0 : am_L) (ret : Option FieldType) (h : am_Sem d ret code lv0 M Po) (h0 : am_lv0 (mt n).2.2.1 as = lv0 := by rfl) (hlen : (am_args as).length ≤ (mt n).2.2.1 := by exact Nat.le_of_ble_eq_true rfl) (hret : (mt n).2.2.2 = ret := by rfl) : ConP d n as M Po := con_of0 hcl hok lv0 h0 hlen hret h
end
section
theorem gm_list {ws : List Cond} (ps : List Nat) (hp : ws = ps.filterMap (fun i => lw_tbl[i]?)) (h : ws.all goodWord = true) : ∀ w ∈ ws, w ∈ gtb := by
  intro w hw
  have h1 := List.all_eq_true.mp h w hw
  rw [hp] at hw
  obtain ⟨i, -, hi⟩ := List.mem_filterMap.mp hw
  exact gm i hi h1
theorem uw_0 : ∀ w ∈ u_ws rc_0 tc_0 13, w ∈ gtb := gm_list [381, 383, 385, 387, 389, 391, 393, 395, 397, 399, 401, 403, 405] (by decide +kernel) (by decide +kernel)
theorem uw_1 : ∀ w ∈ u_ws rc_1 tc_1 4, w ∈ gtb := gm_list [78, 80, 82, 84] (by decide +kernel) (by decide +kernel)
theorem uw_2 : ∀ w ∈ u_ws rc_2 tc_2 2, w ∈ gtb := gm_list [99, 101] (by decide +kernel) (by decide +kernel)
theorem uw_3 : ∀ w ∈ u_ws rc_3 tc_3 8, w ∈ gtb := gm_list [198, 200, 202, 204, 206, 208, 210, 212] (by decide +kernel) (by decide +kernel)
theorem uw_4 : ∀ w ∈ u_ws rc_4 tc_4 14, w ∈ gtb := gm_list [158, 160, 162, 164, 166, 168, 170, 172, 174, 176, 178, 180, 182, 184] (by decide +kernel) (by decide +kernel)
theorem uw_5 : ∀ w ∈ u_ws rc_5 tc_5 4, w ∈ gtb := gm_list [233, 235, 237, 239] (by decide +kernel) (by decide +kernel)
theorem uw_6 : ∀ w ∈ u_ws rc_6 tc_6 2, w ∈ gtb := gm_list [256, 258] (by decide +kernel) (by decide +kernel)
theorem uw_7 : ∀ w ∈ u_ws rc_7 tc_7 11, w ∈ gtb := gm_list [288, 290, 292, 294, 296, 298, 300, 302, 304, 306, 308] (by decide +kernel) (by decide +kernel)
theorem uw_8 : ∀ w ∈ u_ws rc_8 tc_8 5, w ∈ gtb := gm_list [323, 325, 327, 329, 331] (by decide +kernel) (by decide +kernel)
theorem uw_9 : ∀ w ∈ u_ws rc_9 tc_9 3, w ∈ gtb := gm_list [346, 348, 350] (by decide +kernel) (by decide +kernel)
theorem uw_10 : ∀ w ∈ u_ws rc_10 tc_10 2, w ∈ gtb := gm_list [363, 365] (by decide +kernel) (by decide +kernel)
theorem uw_11 : ∀ w ∈ u_ws rc_11 tc_11 29, w ∈ gtb := gm_list [1049, 1051, 1053, 1055, 1057, 1059, 1061, 1063, 1065, 1067, 1069, 1071, 1073, 1075, 1077, 1079, 1081, 1083, 1085, 1087, 1089, 1091, 1093, 1095, 1097, 1099, 1101, 1103, 1105] (by decide +kernel) (by decide +kernel)
theorem am_clok_ok : am_clok := by
  intro c r h
  match c, h with
  | 0, h => cases h; exact ⟨uw_0, ⟨yc_0, yo_0⟩, nc_0⟩
  | 1, h => cases h; exact ⟨uw_1, ⟨yc_1, yo_1⟩, nc_1⟩
  | 2, h => cases h; exact ⟨uw_2, ⟨yc_2, yo_2⟩, nc_2⟩
  | 3, h => cases h; exact ⟨uw_3, ⟨yc_3, yo_3⟩, nc_3⟩
  | 4, h => cases h; exact ⟨uw_4, ⟨yc_4, yo_4⟩, nc_4⟩
  | 5, h => cases h; exact ⟨uw_5, ⟨yc_5, yo_5⟩, nc_5⟩
  | 6, h => cases h; exact ⟨uw_6, ⟨yc_6, yo_6⟩, nc_6⟩
  | 7, h => cases h; exact ⟨uw_7, ⟨yc_7, yo_7⟩, nc_7⟩
  | 8, h => cases h; exact ⟨uw_8, ⟨yc_8, yo_8⟩, nc_8⟩
  | 9, h => cases h; exact ⟨uw_9, ⟨yc_9, yo_9⟩, nc_9⟩
  | 10, h => cases h; exact ⟨uw_10, ⟨yc_10, yo_10⟩, nc_10⟩
  | 11, h => cases h; exact ⟨uw_11, ⟨yc_11, yo_11⟩, nc_11⟩
  | n + 12, h => simp [am_cls] at h
end
section
theorem wBodies_askSize : am_cw (mt mBodies_askSize) 2 := ⟨(gm 977 (by decide +kernel) (by decide +kernel)), (gm 51 (by decide +kernel) (by decide +kernel)), by decide +kernel, by decide +kernel, by decide +kernel, by decide +kernel⟩
theorem vBodies_askSize : Cond.instanceMethod (mt mBodies_askSize).1 ∈ gtb ∧ Cond.selects (mt mBodies_askSize).1.cls (mt mBodies_askSize).1 (mt mBodies_askSize).1 ∈ gtb := ⟨(gm 975 (by decide +kernel) (by decide +kernel)), (gm 976 (by decide +kernel) (by decide +kernel))⟩
theorem wBodies_askMark : am_cw (mt mBodies_askMark) 2 := ⟨(gm 997 (by decide +kernel) (by decide +kernel)), (gm 51 (by decide +kernel) (by decide +kernel)), by decide +kernel, by decide +kernel, by decide +kernel, by decide +kernel⟩
theorem vBodies_askMark : Cond.instanceMethod (mt mBodies_askMark).1 ∈ gtb ∧ Cond.selects (mt mBodies_askMark).1.cls (mt mBodies_askMark).1 (mt mBodies_askMark).1 ∈ gtb := ⟨(gm 995 (by decide +kernel) (by decide +kernel)), (gm 996 (by decide +kernel) (by decide +kernel))⟩
theorem wBodies_told : am_cw (mt mBodies_told) 3 := ⟨(gm 982 (by decide +kernel) (by decide +kernel)), (gm 51 (by decide +kernel) (by decide +kernel)), by decide +kernel, by decide +kernel, by decide +kernel, by decide +kernel⟩
theorem sBodies_told : Cond.static (mt mBodies_told).1 ∈ gtb := (gm 981 (by decide +kernel) (by decide +kernel))
theorem wBodies_answer : am_cw (mt mBodies_answer) 4 := ⟨(gm 987 (by decide +kernel) (by decide +kernel)), (gm 51 (by decide +kernel) (by decide +kernel)), by decide +kernel, by decide +kernel, by decide +kernel, by decide +kernel⟩
theorem vBodies_answer : Cond.instanceMethod (mt mBodies_answer).1 ∈ gtb ∧ Cond.selects (mt mBodies_answer).1.cls (mt mBodies_answer).1 (mt mBodies_answer).1 ∈ gtb := ⟨(gm 985 (by decide +kernel) (by decide +kernel)), (gm 986 (by decide +kernel) (by decide +kernel))⟩
theorem wBodies_begin : am_cw (mt mBodies_begin) 1 := ⟨(gm 991 (by decide +kernel) (by decide +kernel)), (gm 51 (by decide +kernel) (by decide +kernel)), by decide +kernel, by decide +kernel, by decide +kernel, by decide +kernel⟩
theorem vBodies_begin : Cond.instanceMethod (mt mBodies_begin).1 ∈ gtb ∧ Cond.selects (mt mBodies_begin).1.cls (mt mBodies_begin).1 (mt mBodies_begin).1 ∈ gtb := ⟨(gm 989 (by decide +kernel) (by decide +kernel)), (gm 990 (by decide +kernel) (by decide +kernel))⟩
theorem wCutter_cut : am_cw (mt mCutter_cut) 3 := ⟨(gm 933 (by decide +kernel) (by decide +kernel)), (gm 50 (by decide +kernel) (by decide +kernel)), by decide +kernel, by decide +kernel, by decide +kernel, by decide +kernel⟩
theorem vCutter_cut : Cond.instanceMethod (mt mCutter_cut).1 ∈ gtb ∧ Cond.selects (mt mCutter_cut).1.cls (mt mCutter_cut).1 (mt mCutter_cut).1 ∈ gtb := ⟨(gm 931 (by decide +kernel) (by decide +kernel)), (gm 932 (by decide +kernel) (by decide +kernel))⟩
theorem wCutter_widthOf : am_cw (mt mCutter_widthOf) 2 := ⟨(gm 938 (by decide +kernel) (by decide +kernel)), (gm 50 (by decide +kernel) (by decide +kernel)), by decide +kernel, by decide +kernel, by decide +kernel, by decide +kernel⟩
theorem vCutter_widthOf : Cond.instanceMethod (mt mCutter_widthOf).1 ∈ gtb ∧ Cond.selects (mt mCutter_widthOf).1.cls (mt mCutter_widthOf).1 (mt mCutter_widthOf).1 ∈ gtb := ⟨(gm 936 (by decide +kernel) (by decide +kernel)), (gm 937 (by decide +kernel) (by decide +kernel))⟩
theorem wCutter_cutWall : am_cw (mt mCutter_cutWall) 3 := ⟨(gm 946 (by decide +kernel) (by decide +kernel)), (gm 50 (by decide +kernel) (by decide +kernel)), by decide +kernel, by decide +kernel, by decide +kernel, by decide +kernel⟩
theorem vCutter_cutWall : Cond.instanceMethod (mt mCutter_cutWall).1 ∈ gtb ∧ Cond.selects (mt mCutter_cutWall).1.cls (mt mCutter_cutWall).1 (mt mCutter_cutWall).1 ∈ gtb := ⟨(gm 944 (by decide +kernel) (by decide +kernel)), (gm 945 (by decide +kernel) (by decide +kernel))⟩
theorem wFacts_hasRing : am_cw (mt mFacts_hasRing) 0 := ⟨(gm 689 (by decide +kernel) (by decide +kernel)), (gm 48 (by decide +kernel) (by decide +kernel)), by decide +kernel, by decide +kernel, by decide +kernel, by decide +kernel⟩
theorem vFacts_hasRing : Cond.instanceMethod (mt mFacts_hasRing).1 ∈ gtb ∧ Cond.selects (mt mFacts_hasRing).1.cls (mt mFacts_hasRing).1 (mt mFacts_hasRing).1 ∈ gtb := ⟨(gm 687 (by decide +kernel) (by decide +kernel)), (gm 688 (by decide +kernel) (by decide +kernel))⟩
theorem wFacts_learn : am_cw (mt mFacts_learn) 0 := ⟨(gm 657 (by decide +kernel) (by decide +kernel)), (gm 48 (by decide +kernel) (by decide +kernel)), by decide +kernel, by decide +kernel, by decide +kernel, by decide +kernel⟩
theorem vFacts_learn : Cond.instanceMethod (mt mFacts_learn).1 ∈ gtb ∧ Cond.selects (mt mFacts_learn).1.cls (mt mFacts_learn).1 (mt mFacts_learn).1 ∈ gtb := ⟨(gm 655 (by decide +kernel) (by decide +kernel)), (gm 656 (by decide +kernel) (by decide +kernel))⟩
theorem wFacts_gather : am_cw (mt mFacts_gather) 0 := ⟨(gm 661 (by decide +kernel) (by decide +kernel)), (gm 48 (by decide +kernel) (by decide +kernel)), by decide +kernel, by decide +kernel, by decide +kernel, by decide +kernel⟩
theorem vFacts_gather : Cond.instanceMethod (mt mFacts_gather).1 ∈ gtb ∧ Cond.selects (mt mFacts_gather).1.cls (mt mFacts_gather).1 (mt mFacts_gather).1 ∈ gtb := ⟨(gm 659 (by decide +kernel) (by decide +kernel)), (gm 660 (by decide +kernel) (by decide +kernel))⟩
theorem wFacts_at : am_cw (mt mFacts_at) 1 := ⟨(gm 668 (by decide +kernel) (by decide +kernel)), (gm 48 (by decide +kernel) (by decide +kernel)), by decide +kernel, by decide +kernel, by decide +kernel, by decide +kernel⟩
theorem vFacts_at : Cond.instanceMethod (mt mFacts_at).1 ∈ gtb ∧ Cond.selects (mt mFacts_at).1.cls (mt mFacts_at).1 (mt mFacts_at).1 ∈ gtb := ⟨(gm 666 (by decide +kernel) (by decide +kernel)), (gm 667 (by decide +kernel) (by decide +kernel))⟩
theorem wFacts_close : am_cw (mt mFacts_close) 0 := ⟨(gm 681 (by decide +kernel) (by decide +kernel)), (gm 48 (by decide +kernel) (by decide +kernel)), by decide +kernel, by decide +kernel, by decide +kernel, by decide +kernel⟩
theorem vFacts_close : Cond.instanceMethod (mt mFacts_close).1 ∈ gtb ∧ Cond.selects (mt mFacts_close).1.cls (mt mFacts_close).1 (mt mFacts_close).1 ∈ gtb := ⟨(gm 679 (by decide +kernel) (by decide +kernel)), (gm 680 (by decide +kernel) (by decide +kernel))⟩
theorem wFacts_canFollow : am_cw (mt mFacts_canFollow) 2 := ⟨(gm 701 (by decide +kernel) (by decide +kernel)), (gm 48 (by decide +kernel) (by decide +kernel)), by decide +kernel, by decide +kernel, by decide +kernel, by decide +kernel⟩
theorem vFacts_canFollow : Cond.instanceMethod (mt mFacts_canFollow).1 ∈ gtb ∧ Cond.selects (mt mFacts_canFollow).1.cls (mt mFacts_canFollow).1 (mt mFacts_canFollow).1 ∈ gtb := ⟨(gm 699 (by decide +kernel) (by decide +kernel)), (gm 700 (by decide +kernel) (by decide +kernel))⟩
theorem wFacts_arrange : am_cw (mt mFacts_arrange) 0 := ⟨(gm 693 (by decide +kernel) (by decide +kernel)), (gm 48 (by decide +kernel) (by decide +kernel)), by decide +kernel, by decide +kernel, by decide +kernel, by decide +kernel⟩
theorem vFacts_arrange : Cond.instanceMethod (mt mFacts_arrange).1 ∈ gtb ∧ Cond.selects (mt mFacts_arrange).1.cls (mt mFacts_arrange).1 (mt mFacts_arrange).1 ∈ gtb := ⟨(gm 691 (by decide +kernel) (by decide +kernel)), (gm 692 (by decide +kernel) (by decide +kernel))⟩
theorem wFacts_leastThatFollows : am_cw (mt mFacts_leastThatFollows) 1 := ⟨(gm 697 (by decide +kernel) (by decide +kernel)), (gm 48 (by decide +kernel) (by decide +kernel)), by decide +kernel, by decide +kernel, by decide +kernel, by decide +kernel⟩
theorem vFacts_leastThatFollows : Cond.instanceMethod (mt mFacts_leastThatFollows).1 ∈ gtb ∧ Cond.selects (mt mFacts_leastThatFollows).1.cls (mt mFacts_leastThatFollows).1 (mt mFacts_leastThatFollows).1 ∈ gtb := ⟨(gm 695 (by decide +kernel) (by decide +kernel)), (gm 696 (by decide +kernel) (by decide +kernel))⟩
theorem wFacts_dateLeast : am_cw (mt mFacts_dateLeast) 1 := ⟨(gm 705 (by decide +kernel) (by decide +kernel)), (gm 48 (by decide +kernel) (by decide +kernel)), by decide +kernel, by decide +kernel, by decide +kernel, by decide +kernel⟩
theorem vFacts_dateLeast : Cond.instanceMethod (mt mFacts_dateLeast).1 ∈ gtb ∧ Cond.selects (mt mFacts_dateLeast).1.cls (mt mFacts_dateLeast).1 (mt mFacts_dateLeast).1 ∈ gtb := ⟨(gm 703 (by decide +kernel) (by decide +kernel)), (gm 704 (by decide +kernel) (by decide +kernel))⟩
theorem wFacts_dateMost : am_cw (mt mFacts_dateMost) 1 := ⟨(gm 712 (by decide +kernel) (by decide +kernel)), (gm 48 (by decide +kernel) (by decide +kernel)), by decide +kernel, by decide +kernel, by decide +kernel, by decide +kernel⟩
theorem vFacts_dateMost : Cond.instanceMethod (mt mFacts_dateMost).1 ∈ gtb ∧ Cond.selects (mt mFacts_dateMost).1.cls (mt mFacts_dateMost).1 (mt mFacts_dateMost).1 ∈ gtb := ⟨(gm 710 (by decide +kernel) (by decide +kernel)), (gm 711 (by decide +kernel) (by decide +kernel))⟩
theorem wFacts_isYounger : am_cw (mt mFacts_isYounger) 2 := ⟨(gm 863 (by decide +kernel) (by decide +kernel)), (gm 48 (by decide +kernel) (by decide +kernel)), by decide +kernel, by decide +kernel, by decide +kernel, by decide +kernel⟩
theorem vFacts_isYounger : Cond.instanceMethod (mt mFacts_isYounger).1 ∈ gtb ∧ Cond.selects (mt mFacts_isYounger).1.cls (mt mFacts_isYounger).1 (mt mFacts_isYounger).1 ∈ gtb := ⟨(gm 861 (by decide +kernel) (by decide +kernel)), (gm 862 (by decide +kernel) (by decide +kernel))⟩
theorem wFacts_scrapedOff : am_cw (mt mFacts_scrapedOff) 1 := ⟨(gm 871 (by decide +kernel) (by decide +kernel)), (gm 48 (by decide +kernel) (by decide +kernel)), by decide +kernel, by decide +kernel, by decide +kernel, by decide +kernel⟩
theorem vFacts_scrapedOff : Cond.instanceMethod (mt mFacts_scrapedOff).1 ∈ gtb ∧ Cond.selects (mt mFacts_scrapedOff).1.cls (mt mFacts_scrapedOff).1 (mt mFacts_scrapedOff).1 ∈ gtb := ⟨(gm 869 (by decide +kernel) (by decide +kernel)), (gm 870 (by decide +kernel) (by decide +kernel))⟩
theorem wFacts_neverThere : am_cw (mt mFacts_neverThere) 1 := ⟨(gm 875 (by decide +kernel) (by decide +kernel)), (gm 48 (by decide +kernel) (by decide +kernel)), by decide +kernel, by decide +kernel, by decide +kernel, by decide +kernel⟩
theorem vFacts_neverThere : Cond.instanceMethod (mt mFacts_neverThere).1 ∈ gtb ∧ Cond.selects (mt mFacts_neverThere).1.cls (mt mFacts_neverThere).1 (mt mFacts_neverThere).1 ∈ gtb := ⟨(gm 873 (by decide +kernel) (by decide +kernel)), (gm 874 (by decide +kernel) (by decide +kernel))⟩
theorem wFacts_whoCan : am_cw (mt mFacts_whoCan) 1 := ⟨(gm 883 (by decide +kernel) (by decide +kernel)), (gm 48 (by decide +kernel) (by decide +kernel)), by decide +kernel, by decide +kernel, by decide +kernel, by decide +kernel⟩
theorem vFacts_whoCan : Cond.instanceMethod (mt mFacts_whoCan).1 ∈ gtb ∧ Cond.selects (mt mFacts_whoCan).1.cls (mt mFacts_whoCan).1 (mt mFacts_whoCan).1 ∈ gtb := ⟨(gm 881 (by decide +kernel) (by decide +kernel)), (gm 882 (by decide +kernel) (by decide +kernel))⟩
theorem wFacts_missingAt : am_cw (mt mFacts_missingAt) 1 := ⟨(gm 891 (by decide +kernel) (by decide +kernel)), (gm 48 (by decide +kernel) (by decide +kernel)), by decide +kernel, by decide +kernel, by decide +kernel, by decide +kernel⟩
theorem vFacts_missingAt : Cond.instanceMethod (mt mFacts_missingAt).1 ∈ gtb ∧ Cond.selects (mt mFacts_missingAt).1.cls (mt mFacts_missingAt).1 (mt mFacts_missingAt).1 ∈ gtb := ⟨(gm 889 (by decide +kernel) (by decide +kernel)), (gm 890 (by decide +kernel) (by decide +kernel))⟩
theorem wFacts_leastOf : am_cw (mt mFacts_leastOf) 1 := ⟨(gm 895 (by decide +kernel) (by decide +kernel)), (gm 48 (by decide +kernel) (by decide +kernel)), by decide +kernel, by decide +kernel, by decide +kernel, by decide +kernel⟩
theorem vFacts_leastOf : Cond.instanceMethod (mt mFacts_leastOf).1 ∈ gtb ∧ Cond.selects (mt mFacts_leastOf).1.cls (mt mFacts_leastOf).1 (mt mFacts_leastOf).1 ∈ gtb := ⟨(gm 893 (by decide +kernel) (by decide +kernel)), (gm 894 (by decide +kernel) (by decide +kernel))⟩
theorem wFacts_mostOf : am_cw (mt mFacts_mostOf) 1 := ⟨(gm 899 (by decide +kernel) (by decide +kernel)), (gm 48 (by decide +kernel) (by decide +kernel)), by decide +kernel, by decide +kernel, by decide +kernel, by decide +kernel⟩
theorem vFacts_mostOf : Cond.instanceMethod (mt mFacts_mostOf).1 ∈ gtb ∧ Cond.selects (mt mFacts_mostOf).1.cls (mt mFacts_mostOf).1 (mt mFacts_mostOf).1 ∈ gtb := ⟨(gm 897 (by decide +kernel) (by decide +kernel)), (gm 898 (by decide +kernel) (by decide +kernel))⟩
theorem wHouse_stands : am_cw (mt mHouse_stands) 0 := ⟨(gm 528 (by decide +kernel) (by decide +kernel)), (gm 45 (by decide +kernel) (by decide +kernel)), by decide +kernel, by decide +kernel, by decide +kernel, by decide +kernel⟩
theorem vHouse_stands : Cond.instanceMethod (mt mHouse_stands).1 ∈ gtb ∧ Cond.selects (mt mHouse_stands).1.cls (mt mHouse_stands).1 (mt mHouse_stands).1 ∈ gtb := ⟨(gm 526 (by decide +kernel) (by decide +kernel)), (gm 527 (by decide +kernel) (by decide +kernel))⟩
theorem wHouse_isWall : am_cw (mt mHouse_isWall) 1 := ⟨(gm 741 (by decide +kernel) (by decide +kernel)), (gm 45 (by decide +kernel) (by decide +kernel)), by decide +kernel, by decide +kernel, by decide +kernel, by decide +kernel⟩
theorem vHouse_isWall : Cond.instanceMethod (mt mHouse_isWall).1 ∈ gtb ∧ Cond.selects (mt mHouse_isWall).1.cls (mt mHouse_isWall).1 (mt mHouse_isWall).1 ∈ gtb := ⟨(gm 739 (by decide +kernel) (by decide +kernel)), (gm 740 (by decide +kernel) (by decide +kernel))⟩
theorem wHouse_isPaper : am_cw (mt mHouse_isPaper) 1 := ⟨(gm 720 (by decide +kernel) (by decide +kernel)), (gm 45 (by decide +kernel) (by decide +kernel)), by decide +kernel, by decide +kernel, by decide +kernel, by decide +kernel⟩
theorem vHouse_isPaper : Cond.instanceMethod (mt mHouse_isPaper).1 ∈ gtb ∧ Cond.selects (mt mHouse_isPaper).1.cls (mt mHouse_isPaper).1 (mt mHouse_isPaper).1 ∈ gtb := ⟨(gm 718 (by decide +kernel) (by decide +kernel)), (gm 719 (by decide +kernel) (by decide +kernel))⟩
theorem wHouse_isKind : am_cw (mt mHouse_isKind) 1 := ⟨(gm 725 (by decide +kernel) (by decide +kernel)), (gm 45 (by decide +kernel) (by decide +kernel)), by decide +kernel, by decide +kernel, by decide +kernel, by decide +kernel⟩
theorem sHouse_isKind : Cond.static (mt mHouse_isKind).1 ∈ gtb := (gm 724 (by decide +kernel) (by decide +kernel))
theorem wHouse_isOf : am_cw (mt mHouse_isOf) 2 := ⟨(gm 716 (by decide +kernel) (by decide +kernel)), (gm 45 (by decide +kernel) (by decide +kernel)), by decide +kernel, by decide +kernel, by decide +kernel, by decide +kernel⟩
theorem vHouse_isOf : Cond.instanceMethod (mt mHouse_isOf).1 ∈ gtb ∧ Cond.selects (mt mHouse_isOf).1.cls (mt mHouse_isOf).1 (mt mHouse_isOf).1 ∈ gtb := ⟨(gm 714 (by decide +kernel) (by decide +kernel)), (gm 715 (by decide +kernel) (by decide +kernel))⟩
theorem wHouse_clear : am_cw (mt mHouse_clear) 0 := ⟨(gm 507 (by decide +kernel) (by decide +kernel)), (gm 45 (by decide +kernel) (by decide +kernel)), by decide +kernel, by decide +kernel, by decide +kernel, by decide +kernel⟩
theorem vHouse_clear : Cond.instanceMethod (mt mHouse_clear).1 ∈ gtb ∧ Cond.selects (mt mHouse_clear).1.cls (mt mHouse_clear).1 (mt mHouse_clear).1 ∈ gtb := ⟨(gm 505 (by decide +kernel) (by decide +kernel)), (gm 506 (by decide +kernel) (by decide +kernel))⟩
theorem wHouse_addWall : am_cw (mt mHouse_addWall) 3 := ⟨(gm 615 (by decide +kernel) (by decide +kernel)), (gm 45 (by decide +kernel) (by decide +kernel)), by decide +kernel, by decide +kernel, by decide +kernel, by decide +kernel⟩
theorem vHouse_addWall : Cond.instanceMethod (mt mHouse_addWall).1 ∈ gtb ∧ Cond.selects (mt mHouse_addWall).1.cls (mt mHouse_addWall).1 (mt mHouse_addWall).1 ∈ gtb := ⟨(gm 613 (by decide +kernel) (by decide +kernel)), (gm 614 (by decide +kernel) (by decide +kernel))⟩
theorem wHouse_addPaper : am_cw (mt mHouse_addPaper) 5 := ⟨(gm 632 (by decide +kernel) (by decide +kernel)), (gm 45 (by decide +kernel) (by decide +kernel)), by decide +kernel, by decide +kernel, by decide +kernel, by decide +kernel⟩
theorem vHouse_addPaper : Cond.instanceMethod (mt mHouse_addPaper).1 ∈ gtb ∧ Cond.selects (mt mHouse_addPaper).1.cls (mt mHouse_addPaper).1 (mt mHouse_addPaper).1 ∈ gtb := ⟨(gm 630 (by decide +kernel) (by decide +kernel)), (gm 631 (by decide +kernel) (by decide +kernel))⟩
theorem wHouse_addTenant : am_cw (mt mHouse_addTenant) 3 := ⟨(gm 640 (by decide +kernel) (by decide +kernel)), (gm 45 (by decide +kernel) (by decide +kernel)), by decide +kernel, by decide +kernel, by decide +kernel, by decide +kernel⟩
theorem vHouse_addTenant : Cond.instanceMethod (mt mHouse_addTenant).1 ∈ gtb ∧ Cond.selects (mt mHouse_addTenant).1.cls (mt mHouse_addTenant).1 (mt mHouse_addTenant).1 ∈ gtb := ⟨(gm 638 (by decide +kernel) (by decide +kernel)), (gm 639 (by decide +kernel) (by decide +kernel))⟩
theorem wHouse_take : am_cw (mt mHouse_take) 1 := ⟨(gm 645 (by decide +kernel) (by decide +kernel)), (gm 45 (by decide +kernel) (by decide +kernel)), by decide +kernel, by decide +kernel, by decide +kernel, by decide +kernel⟩
theorem vHouse_take : Cond.instanceMethod (mt mHouse_take).1 ∈ gtb ∧ Cond.selects (mt mHouse_take).1.cls (mt mHouse_take).1 (mt mHouse_take).1 ∈ gtb := ⟨(gm 643 (by decide +kernel) (by decide +kernel)), (gm 644 (by decide +kernel) (by decide +kernel))⟩
theorem wHouse_printedEvery : am_cw (mt mHouse_printedEvery) 1 := ⟨(gm 910 (by decide +kernel) (by decide +kernel)), (gm 45 (by decide +kernel) (by decide +kernel)), by decide +kernel, by decide +kernel, by decide +kernel, by decide +kernel⟩
theorem vHouse_printedEvery : Cond.instanceMethod (mt mHouse_printedEvery).1 ∈ gtb ∧ Cond.selects (mt mHouse_printedEvery).1.cls (mt mHouse_printedEvery).1 (mt mHouse_printedEvery).1 ∈ gtb := ⟨(gm 908 (by decide +kernel) (by decide +kernel)), (gm 909 (by decide +kernel) (by decide +kernel))⟩
theorem wHouse_isToldBy : am_cw (mt mHouse_isToldBy) 2 := ⟨(gm 924 (by decide +kernel) (by decide +kernel)), (gm 45 (by decide +kernel) (by decide +kernel)), by decide +kernel, by decide +kernel, by decide +kernel, by decide +kernel⟩
theorem vHouse_isToldBy : Cond.instanceMethod (mt mHouse_isToldBy).1 ∈ gtb ∧ Cond.selects (mt mHouse_isToldBy).1.cls (mt mHouse_isToldBy).1 (mt mHouse_isToldBy).1 ∈ gtb := ⟨(gm 922 (by decide +kernel) (by decide +kernel)), (gm 923 (by decide +kernel) (by decide +kernel))⟩
theorem wHouse_leftBy : am_cw (mt mHouse_leftBy) 2 := ⟨(gm 913 (by decide +kernel) (by decide +kernel)), (gm 45 (by decide +kernel) (by decide +kernel)), by decide +kernel, by decide +kernel, by decide +kernel, by decide +kernel⟩
theorem sHouse_leftBy : Cond.static (mt mHouse_leftBy).1 ∈ gtb := (gm 912 (by decide +kernel) (by decide +kernel))
theorem wOrders_all : am_cw (mt mOrders_all) 0 := ⟨(gm 793 (by decide +kernel) (by decide +kernel)), (gm 49 (by decide +kernel) (by decide +kernel)), by decide +kernel, by decide +kernel, by decide +kernel, by decide +kernel⟩
theorem vOrders_all : Cond.instanceMethod (mt mOrders_all).1 ∈ gtb ∧ Cond.selects (mt mOrders_all).1.cls (mt mOrders_all).1 (mt mOrders_all).1 ∈ gtb := ⟨(gm 791 (by decide +kernel) (by decide +kernel)), (gm 792 (by decide +kernel) (by decide +kernel))⟩
theorem wOrders_withAhead : am_cw (mt mOrders_withAhead) 2 := ⟨(gm 832 (by decide +kernel) (by decide +kernel)), (gm 49 (by decide +kernel) (by decide +kernel)), by decide +kernel, by decide +kernel, by decide +kernel, by decide +kernel⟩
theorem vOrders_withAhead : Cond.instanceMethod (mt mOrders_withAhead).1 ∈ gtb ∧ Cond.selects (mt mOrders_withAhead).1.cls (mt mOrders_withAhead).1 (mt mOrders_withAhead).1 ∈ gtb := ⟨(gm 830 (by decide +kernel) (by decide +kernel)), (gm 831 (by decide +kernel) (by decide +kernel))⟩
theorem wOrders_mostEvenPair : am_cw (mt mOrders_mostEvenPair) 0 := ⟨(gm 844 (by decide +kernel) (by decide +kernel)), (gm 49 (by decide +kernel) (by decide +kernel)), by decide +kernel, by decide +kernel, by decide +kernel, by decide +kernel⟩
theorem vOrders_mostEvenPair : Cond.instanceMethod (mt mOrders_mostEvenPair).1 ∈ gtb ∧ Cond.selects (mt mOrders_mostEvenPair).1.cls (mt mOrders_mostEvenPair).1 (mt mOrders_mostEvenPair).1 ∈ gtb := ⟨(gm 842 (by decide +kernel) (by decide +kernel)), (gm 843 (by decide +kernel) (by decide +kernel))⟩
theorem wOrders_isOpen : am_cw (mt mOrders_isOpen) 2 := ⟨(gm 851 (by decide +kernel) (by decide +kernel)), (gm 49 (by decide +kernel) (by decide +kernel)), by decide +kernel, by decide +kernel, by decide +kernel, by decide +kernel⟩
theorem vOrders_isOpen : Cond.instanceMethod (mt mOrders_isOpen).1 ∈ gtb ∧ Cond.selects (mt mOrders_isOpen).1.cls (mt mOrders_isOpen).1 (mt mOrders_isOpen).1 ∈ gtb := ⟨(gm 849 (by decide +kernel) (by decide +kernel)), (gm 850 (by decide +kernel) (by decide +kernel))⟩
theorem wOrders_countOnce : am_cw (mt mOrders_countOnce) 0 := ⟨(gm 797 (by decide +kernel) (by decide +kernel)), (gm 49 (by decide +kernel) (by decide +kernel)), by decide +kernel, by decide +kernel, by decide +kernel, by decide +kernel⟩
theorem vOrders_countOnce : Cond.instanceMethod (mt mOrders_countOnce).1 ∈ gtb ∧ Cond.selects (mt mOrders_countOnce).1.cls (mt mOrders_countOnce).1 (mt mOrders_countOnce).1 ∈ gtb := ⟨(gm 795 (by decide +kernel) (by decide +kernel)), (gm 796 (by decide +kernel) (by decide +kernel))⟩
theorem wOrders_countBegun : am_cw (mt mOrders_countBegun) 1 := ⟨(gm 802 (by decide +kernel) (by decide +kernel)), (gm 49 (by decide +kernel) (by decide +kernel)), by decide +kernel, by decide +kernel, by decide +kernel, by decide +kernel⟩
theorem vOrders_countBegun : Cond.instanceMethod (mt mOrders_countBegun).1 ∈ gtb ∧ Cond.selects (mt mOrders_countBegun).1.cls (mt mOrders_countBegun).1 (mt mOrders_countBegun).1 ∈ gtb := ⟨(gm 800 (by decide +kernel) (by decide +kernel)), (gm 801 (by decide +kernel) (by decide +kernel))⟩
theorem wOrders_countEnded : am_cw (mt mOrders_countEnded) 1 := ⟨(gm 807 (by decide +kernel) (by decide +kernel)), (gm 49 (by decide +kernel) (by decide +kernel)), by decide +kernel, by decide +kernel, by decide +kernel, by decide +kernel⟩
theorem vOrders_countEnded : Cond.instanceMethod (mt mOrders_countEnded).1 ∈ gtb ∧ Cond.selects (mt mOrders_countEnded).1.cls (mt mOrders_countEnded).1 (mt mOrders_countEnded).1 ∈ gtb := ⟨(gm 805 (by decide +kernel) (by decide +kernel)), (gm 806 (by decide +kernel) (by decide +kernel))⟩
theorem wOrders_countPairs : am_cw (mt mOrders_countPairs) 3 := ⟨(gm 811 (by decide +kernel) (by decide +kernel)), (gm 49 (by decide +kernel) (by decide +kernel)), by decide +kernel, by decide +kernel, by decide +kernel, by decide +kernel⟩
theorem vOrders_countPairs : Cond.instanceMethod (mt mOrders_countPairs).1 ∈ gtb ∧ Cond.selects (mt mOrders_countPairs).1.cls (mt mOrders_countPairs).1 (mt mOrders_countPairs).1 ∈ gtb := ⟨(gm 809 (by decide +kernel) (by decide +kernel)), (gm 810 (by decide +kernel) (by decide +kernel))⟩
theorem wReader_read : am_cw (mt mReader_read) 0 := ⟨(gm 503 (by decide +kernel) (by decide +kernel)), (gm 44 (by decide +kernel) (by decide +kernel)), by decide +kernel, by decide +kernel, by decide +kernel, by decide +kernel⟩
theorem vReader_read : Cond.instanceMethod (mt mReader_read).1 ∈ gtb ∧ Cond.selects (mt mReader_read).1.cls (mt mReader_read).1 (mt mReader_read).1 ∈ gtb := ⟨(gm 501 (by decide +kernel) (by decide +kernel)), (gm 502 (by decide +kernel) (by decide +kernel))⟩
theorem wReader_word : am_cw (mt mReader_word) 0 := ⟨(gm 532 (by decide +kernel) (by decide +kernel)), (gm 44 (by decide +kernel) (by decide +kernel)), by decide +kernel, by decide +kernel, by decide +kernel, by decide +kernel⟩
theorem vReader_word : Cond.instanceMethod (mt mReader_word).1 ∈ gtb ∧ Cond.selects (mt mReader_word).1.cls (mt mReader_word).1 (mt mReader_word).1 ∈ gtb := ⟨(gm 530 (by decide +kernel) (by decide +kernel)), (gm 531 (by decide +kernel) (by decide +kernel))⟩
theorem wReader_isFull : am_cw (mt mReader_isFull) 1 := ⟨(gm 595 (by decide +kernel) (by decide +kernel)), (gm 44 (by decide +kernel) (by decide +kernel)), by decide +kernel, by decide +kernel, by decide +kernel, by decide +kernel⟩
theorem vReader_isFull : Cond.instanceMethod (mt mReader_isFull).1 ∈ gtb ∧ Cond.selects (mt mReader_isFull).1.cls (mt mReader_isFull).1 (mt mReader_isFull).1 ∈ gtb := ⟨(gm 593 (by decide +kernel) (by decide +kernel)), (gm 594 (by decide +kernel) (by decide +kernel))⟩
theorem wReader_readOne : am_cw (mt mReader_readOne) 1 := ⟨(gm 599 (by decide +kernel) (by decide +kernel)), (gm 44 (by decide +kernel) (by decide +kernel)), by decide +kernel, by decide +kernel, by decide +kernel, by decide +kernel⟩
theorem vReader_readOne : Cond.instanceMethod (mt mReader_readOne).1 ∈ gtb ∧ Cond.selects (mt mReader_readOne).1.cls (mt mReader_readOne).1 (mt mReader_readOne).1 ∈ gtb := ⟨(gm 597 (by decide +kernel) (by decide +kernel)), (gm 598 (by decide +kernel) (by decide +kernel))⟩
theorem wReader_readWall : am_cw (mt mReader_readWall) 0 := ⟨(gm 603 (by decide +kernel) (by decide +kernel)), (gm 44 (by decide +kernel) (by decide +kernel)), by decide +kernel, by decide +kernel, by decide +kernel, by decide +kernel⟩
theorem vReader_readWall : Cond.instanceMethod (mt mReader_readWall).1 ∈ gtb ∧ Cond.selects (mt mReader_readWall).1.cls (mt mReader_readWall).1 (mt mReader_readWall).1 ∈ gtb := ⟨(gm 601 (by decide +kernel) (by decide +kernel)), (gm 602 (by decide +kernel) (by decide +kernel))⟩
theorem wReader_readPaper : am_cw (mt mReader_readPaper) 0 := ⟨(gm 619 (by decide +kernel) (by decide +kernel)), (gm 44 (by decide +kernel) (by decide +kernel)), by decide +kernel, by decide +kernel, by decide +kernel, by decide +kernel⟩
theorem vReader_readPaper : Cond.instanceMethod (mt mReader_readPaper).1 ∈ gtb ∧ Cond.selects (mt mReader_readPaper).1.cls (mt mReader_readPaper).1 (mt mReader_readPaper).1 ∈ gtb := ⟨(gm 617 (by decide +kernel) (by decide +kernel)), (gm 618 (by decide +kernel) (by decide +kernel))⟩
theorem wReader_readTenant : am_cw (mt mReader_readTenant) 0 := ⟨(gm 636 (by decide +kernel) (by decide +kernel)), (gm 44 (by decide +kernel) (by decide +kernel)), by decide +kernel, by decide +kernel, by decide +kernel, by decide +kernel⟩
theorem vReader_readTenant : Cond.instanceMethod (mt mReader_readTenant).1 ∈ gtb ∧ Cond.selects (mt mReader_readTenant).1.cls (mt mReader_readTenant).1 (mt mReader_readTenant).1 ∈ gtb := ⟨(gm 634 (by decide +kernel) (by decide +kernel)), (gm 635 (by decide +kernel) (by decide +kernel))⟩
theorem wReader_sortOfPaper : am_cw (mt mReader_sortOfPaper) 0 := ⟨(gm 623 (by decide +kernel) (by decide +kernel)), (gm 44 (by decide +kernel) (by decide +kernel)), by decide +kernel, by decide +kernel, by decide +kernel, by decide +kernel⟩
theorem vReader_sortOfPaper : Cond.instanceMethod (mt mReader_sortOfPaper).1 ∈ gtb ∧ Cond.selects (mt mReader_sortOfPaper).1.cls (mt mReader_sortOfPaper).1 (mt mReader_sortOfPaper).1 ∈ gtb := ⟨(gm 621 (by decide +kernel) (by decide +kernel)), (gm 622 (by decide +kernel) (by decide +kernel))⟩
theorem wReader_number : am_cw (mt mReader_number) 2 := ⟨(gm 607 (by decide +kernel) (by decide +kernel)), (gm 44 (by decide +kernel) (by decide +kernel)), by decide +kernel, by decide +kernel, by decide +kernel, by decide +kernel⟩
theorem vReader_number : Cond.instanceMethod (mt mReader_number).1 ∈ gtb ∧ Cond.selects (mt mReader_number).1.cls (mt mReader_number).1 (mt mReader_number).1 ∈ gtb := ⟨(gm 605 (by decide +kernel) (by decide +kernel)), (gm 606 (by decide +kernel) (by decide +kernel))⟩
theorem wReader_semicolon : am_cw (mt mReader_semicolon) 0 := ⟨(gm 611 (by decide +kernel) (by decide +kernel)), (gm 44 (by decide +kernel) (by decide +kernel)), by decide +kernel, by decide +kernel, by decide +kernel, by decide +kernel⟩
theorem vReader_semicolon : Cond.instanceMethod (mt mReader_semicolon).1 ∈ gtb ∧ Cond.selects (mt mReader_semicolon).1.cls (mt mReader_semicolon).1 (mt mReader_semicolon).1 ∈ gtb := ⟨(gm 609 (by decide +kernel) (by decide +kernel)), (gm 610 (by decide +kernel) (by decide +kernel))⟩
theorem wReader_fail : am_cw (mt mReader_fail) 1 := ⟨(gm 591 (by decide +kernel) (by decide +kernel)), (gm 44 (by decide +kernel) (by decide +kernel)), by decide +kernel, by decide +kernel, by decide +kernel, by decide +kernel⟩
theorem vReader_fail : Cond.instanceMethod (mt mReader_fail).1 ∈ gtb ∧ Cond.selects (mt mReader_fail).1.cls (mt mReader_fail).1 (mt mReader_fail).1 ∈ gtb := ⟨(gm 589 (by decide +kernel) (by decide +kernel)), (gm 590 (by decide +kernel) (by decide +kernel))⟩
theorem wReader_step : am_cw (mt mReader_step) 0 := ⟨(gm 511 (by decide +kernel) (by decide +kernel)), (gm 44 (by decide +kernel) (by decide +kernel)), by decide +kernel, by decide +kernel, by decide +kernel, by decide +kernel⟩
theorem vReader_step : Cond.instanceMethod (mt mReader_step).1 ∈ gtb ∧ Cond.selects (mt mReader_step).1.cls (mt mReader_step).1 (mt mReader_step).1 ∈ gtb := ⟨(gm 509 (by decide +kernel) (by decide +kernel)), (gm 510 (by decide +kernel) (by decide +kernel))⟩
theorem wReader_isName : am_cw (mt mReader_isName) 1 := ⟨(gm 537 (by decide +kernel) (by decide +kernel)), (gm 44 (by decide +kernel) (by decide +kernel)), by decide +kernel, by decide +kernel, by decide +kernel, by decide +kernel⟩
theorem vReader_isName : Cond.instanceMethod (mt mReader_isName).1 ∈ gtb ∧ Cond.selects (mt mReader_isName).1.cls (mt mReader_isName).1 (mt mReader_isName).1 ∈ gtb := ⟨(gm 535 (by decide +kernel) (by decide +kernel)), (gm 536 (by decide +kernel) (by decide +kernel))⟩
theorem wReader_isBlank : am_cw (mt mReader_isBlank) 1 := ⟨(gm 518 (by decide +kernel) (by decide +kernel)), (gm 44 (by decide +kernel) (by decide +kernel)), by decide +kernel, by decide +kernel, by decide +kernel, by decide +kernel⟩
theorem sReader_isBlank : Cond.static (mt mReader_isBlank).1 ∈ gtb := (gm 517 (by decide +kernel) (by decide +kernel))
end
section
theorem wReader_isLetter : am_cw (mt mReader_isLetter) 1 := ⟨(gm 521 (by decide +kernel) (by decide +kernel)), (gm 44 (by decide +kernel) (by decide +kernel)), by decide +kernel, by decide +kernel, by decide +kernel, by decide +kernel⟩
theorem sReader_isLetter : Cond.static (mt mReader_isLetter).1 ∈ gtb := (gm 520 (by decide +kernel) (by decide +kernel))
theorem wReader_isFigure : am_cw (mt mReader_isFigure) 1 := ⟨(gm 524 (by decide +kernel) (by decide +kernel)), (gm 44 (by decide +kernel) (by decide +kernel)), by decide +kernel, by decide +kernel, by decide +kernel, by decide +kernel⟩
theorem sReader_isFigure : Cond.static (mt mReader_isFigure).1 ∈ gtb := (gm 523 (by decide +kernel) (by decide +kernel))
theorem wRows_isRow : am_cw (mt mRows_isRow) 1 := ⟨(gm 415 (by decide +kernel) (by decide +kernel)), (gm 42 (by decide +kernel) (by decide +kernel)), by decide +kernel, by decide +kernel, by decide +kernel, by decide +kernel⟩
theorem vRows_isRow : Cond.instanceMethod (mt mRows_isRow).1 ∈ gtb ∧ Cond.selects (mt mRows_isRow).1.cls (mt mRows_isRow).1 (mt mRows_isRow).1 ∈ gtb := ⟨(gm 413 (by decide +kernel) (by decide +kernel)), (gm 414 (by decide +kernel) (by decide +kernel))⟩
theorem wRows_isLane : am_cw (mt mRows_isLane) 1 := ⟨(gm 419 (by decide +kernel) (by decide +kernel)), (gm 42 (by decide +kernel) (by decide +kernel)), by decide +kernel, by decide +kernel, by decide +kernel, by decide +kernel⟩
theorem vRows_isLane : Cond.instanceMethod (mt mRows_isLane).1 ∈ gtb ∧ Cond.selects (mt mRows_isLane).1.cls (mt mRows_isLane).1 (mt mRows_isLane).1 ∈ gtb := ⟨(gm 417 (by decide +kernel) (by decide +kernel)), (gm 418 (by decide +kernel) (by decide +kernel))⟩
theorem wRows_isThere : am_cw (mt mRows_isThere) 1 := ⟨(gm 448 (by decide +kernel) (by decide +kernel)), (gm 42 (by decide +kernel) (by decide +kernel)), by decide +kernel, by decide +kernel, by decide +kernel, by decide +kernel⟩
theorem vRows_isThere : Cond.instanceMethod (mt mRows_isThere).1 ∈ gtb ∧ Cond.selects (mt mRows_isThere).1.cls (mt mRows_isThere).1 (mt mRows_isThere).1 ∈ gtb := ⟨(gm 446 (by decide +kernel) (by decide +kernel)), (gm 447 (by decide +kernel) (by decide +kernel))⟩
theorem wRows_alike : am_cw (mt mRows_alike) 2 := ⟨(gm 466 (by decide +kernel) (by decide +kernel)), (gm 42 (by decide +kernel) (by decide +kernel)), by decide +kernel, by decide +kernel, by decide +kernel, by decide +kernel⟩
theorem vRows_alike : Cond.instanceMethod (mt mRows_alike).1 ∈ gtb ∧ Cond.selects (mt mRows_alike).1.cls (mt mRows_alike).1 (mt mRows_alike).1 ∈ gtb := ⟨(gm 464 (by decide +kernel) (by decide +kernel)), (gm 465 (by decide +kernel) (by decide +kernel))⟩
theorem wRows_holds : am_cw (mt mRows_holds) 3 := ⟨(gm 452 (by decide +kernel) (by decide +kernel)), (gm 42 (by decide +kernel) (by decide +kernel)), by decide +kernel, by decide +kernel, by decide +kernel, by decide +kernel⟩
theorem vRows_holds : Cond.instanceMethod (mt mRows_holds).1 ∈ gtb ∧ Cond.selects (mt mRows_holds).1.cls (mt mRows_holds).1 (mt mRows_holds).1 ∈ gtb := ⟨(gm 450 (by decide +kernel) (by decide +kernel)), (gm 451 (by decide +kernel) (by decide +kernel))⟩
theorem wRows_make : am_cw (mt mRows_make) 3 := ⟨(gm 429 (by decide +kernel) (by decide +kernel)), (gm 42 (by decide +kernel) (by decide +kernel)), by decide +kernel, by decide +kernel, by decide +kernel, by decide +kernel⟩
theorem vRows_make : Cond.instanceMethod (mt mRows_make).1 ∈ gtb ∧ Cond.selects (mt mRows_make).1.cls (mt mRows_make).1 (mt mRows_make).1 ∈ gtb := ⟨(gm 427 (by decide +kernel) (by decide +kernel)), (gm 428 (by decide +kernel) (by decide +kernel))⟩
theorem wRows_item : am_cw (mt mRows_item) 2 := ⟨(gm 753 (by decide +kernel) (by decide +kernel)), (gm 42 (by decide +kernel) (by decide +kernel)), by decide +kernel, by decide +kernel, by decide +kernel, by decide +kernel⟩
theorem vRows_item : Cond.instanceMethod (mt mRows_item).1 ∈ gtb ∧ Cond.selects (mt mRows_item).1.cls (mt mRows_item).1 (mt mRows_item).1 ∈ gtb := ⟨(gm 751 (by decide +kernel) (by decide +kernel)), (gm 752 (by decide +kernel) (by decide +kernel))⟩
theorem wRows_put : am_cw (mt mRows_put) 3 := ⟨(gm 456 (by decide +kernel) (by decide +kernel)), (gm 42 (by decide +kernel) (by decide +kernel)), by decide +kernel, by decide +kernel, by decide +kernel, by decide +kernel⟩
theorem vRows_put : Cond.instanceMethod (mt mRows_put).1 ∈ gtb ∧ Cond.selects (mt mRows_put).1.cls (mt mRows_put).1 (mt mRows_put).1 ∈ gtb := ⟨(gm 454 (by decide +kernel) (by decide +kernel)), (gm 455 (by decide +kernel) (by decide +kernel))⟩
theorem wRows_move : am_cw (mt mRows_move) 5 := ⟨(gm 470 (by decide +kernel) (by decide +kernel)), (gm 42 (by decide +kernel) (by decide +kernel)), by decide +kernel, by decide +kernel, by decide +kernel, by decide +kernel⟩
theorem vRows_move : Cond.instanceMethod (mt mRows_move).1 ∈ gtb ∧ Cond.selects (mt mRows_move).1.cls (mt mRows_move).1 (mt mRows_move).1 ∈ gtb := ⟨(gm 468 (by decide +kernel) (by decide +kernel)), (gm 469 (by decide +kernel) (by decide +kernel))⟩
theorem wRows_remove : am_cw (mt mRows_remove) 1 := ⟨(gm 481 (by decide +kernel) (by decide +kernel)), (gm 42 (by decide +kernel) (by decide +kernel)), by decide +kernel, by decide +kernel, by decide +kernel, by decide +kernel⟩
theorem vRows_remove : Cond.instanceMethod (mt mRows_remove).1 ∈ gtb ∧ Cond.selects (mt mRows_remove).1.cls (mt mRows_remove).1 (mt mRows_remove).1 ∈ gtb := ⟨(gm 479 (by decide +kernel) (by decide +kernel)), (gm 480 (by decide +kernel) (by decide +kernel))⟩
theorem wRows_howMany : am_cw (mt mRows_howMany) 0 := ⟨(gm 1009 (by decide +kernel) (by decide +kernel)), (gm 42 (by decide +kernel) (by decide +kernel)), by decide +kernel, by decide +kernel, by decide +kernel, by decide +kernel⟩
theorem vRows_howMany : Cond.instanceMethod (mt mRows_howMany).1 ∈ gtb ∧ Cond.selects (mt mRows_howMany).1.cls (mt mRows_howMany).1 (mt mRows_howMany).1 ∈ gtb := ⟨(gm 1007 (by decide +kernel) (by decide +kernel)), (gm 1008 (by decide +kernel) (by decide +kernel))⟩
theorem wSpots_isSpot : am_cw (mt mSpots_isSpot) 1 := ⟨(gm 676 (by decide +kernel) (by decide +kernel)), (gm 46 (by decide +kernel) (by decide +kernel)), by decide +kernel, by decide +kernel, by decide +kernel, by decide +kernel⟩
theorem vSpots_isSpot : Cond.instanceMethod (mt mSpots_isSpot).1 ∈ gtb ∧ Cond.selects (mt mSpots_isSpot).1.cls (mt mSpots_isSpot).1 (mt mSpots_isSpot).1 ∈ gtb := ⟨(gm 674 (by decide +kernel) (by decide +kernel)), (gm 675 (by decide +kernel) (by decide +kernel))⟩
theorem wSpots_hasRoom : am_cw (mt mSpots_hasRoom) 0 := ⟨(gm 745 (by decide +kernel) (by decide +kernel)), (gm 46 (by decide +kernel) (by decide +kernel)), by decide +kernel, by decide +kernel, by decide +kernel, by decide +kernel⟩
theorem vSpots_hasRoom : Cond.instanceMethod (mt mSpots_hasRoom).1 ∈ gtb ∧ Cond.selects (mt mSpots_hasRoom).1.cls (mt mSpots_hasRoom).1 (mt mSpots_hasRoom).1 ∈ gtb := ⟨(gm 743 (by decide +kernel) (by decide +kernel)), (gm 744 (by decide +kernel) (by decide +kernel))⟩
theorem wSpots_layer : am_cw (mt mSpots_layer) 2 := ⟨(gm 672 (by decide +kernel) (by decide +kernel)), (gm 46 (by decide +kernel) (by decide +kernel)), by decide +kernel, by decide +kernel, by decide +kernel, by decide +kernel⟩
theorem vSpots_layer : Cond.instanceMethod (mt mSpots_layer).1 ∈ gtb ∧ Cond.selects (mt mSpots_layer).1.cls (mt mSpots_layer).1 (mt mSpots_layer).1 ∈ gtb := ⟨(gm 670 (by decide +kernel) (by decide +kernel)), (gm 671 (by decide +kernel) (by decide +kernel))⟩
theorem wSpots_open : am_cw (mt mSpots_open) 1 := ⟨(gm 759 (by decide +kernel) (by decide +kernel)), (gm 46 (by decide +kernel) (by decide +kernel)), by decide +kernel, by decide +kernel, by decide +kernel, by decide +kernel⟩
theorem vSpots_open : Cond.instanceMethod (mt mSpots_open).1 ∈ gtb ∧ Cond.selects (mt mSpots_open).1.cls (mt mSpots_open).1 (mt mSpots_open).1 ∈ gtb := ⟨(gm 757 (by decide +kernel) (by decide +kernel)), (gm 758 (by decide +kernel) (by decide +kernel))⟩
theorem wSpots_lay : am_cw (mt mSpots_lay) 2 := ⟨(gm 764 (by decide +kernel) (by decide +kernel)), (gm 46 (by decide +kernel) (by decide +kernel)), by decide +kernel, by decide +kernel, by decide +kernel, by decide +kernel⟩
theorem vSpots_lay : Cond.instanceMethod (mt mSpots_lay).1 ∈ gtb ∧ Cond.selects (mt mSpots_lay).1.cls (mt mSpots_lay).1 (mt mSpots_lay).1 ∈ gtb := ⟨(gm 762 (by decide +kernel) (by decide +kernel)), (gm 763 (by decide +kernel) (by decide +kernel))⟩
theorem wSpots_take : am_cw (mt mSpots_take) 1 := ⟨(gm 954 (by decide +kernel) (by decide +kernel)), (gm 46 (by decide +kernel) (by decide +kernel)), by decide +kernel, by decide +kernel, by decide +kernel, by decide +kernel⟩
theorem vSpots_take : Cond.instanceMethod (mt mSpots_take).1 ∈ gtb ∧ Cond.selects (mt mSpots_take).1.cls (mt mSpots_take).1 (mt mSpots_take).1 ∈ gtb := ⟨(gm 952 (by decide +kernel) (by decide +kernel)), (gm 953 (by decide +kernel) (by decide +kernel))⟩
theorem wTape_hasRoom : am_cw (mt mTape_hasRoom) 1 := ⟨(gm 490 (by decide +kernel) (by decide +kernel)), (gm 43 (by decide +kernel) (by decide +kernel)), by decide +kernel, by decide +kernel, by decide +kernel, by decide +kernel⟩
theorem vTape_hasRoom : Cond.instanceMethod (mt mTape_hasRoom).1 ∈ gtb ∧ Cond.selects (mt mTape_hasRoom).1.cls (mt mTape_hasRoom).1 (mt mTape_hasRoom).1 ∈ gtb := ⟨(gm 488 (by decide +kernel) (by decide +kernel)), (gm 489 (by decide +kernel) (by decide +kernel))⟩
theorem wTape_append : am_cw (mt mTape_append) 2 := ⟨(gm 495 (by decide +kernel) (by decide +kernel)), (gm 43 (by decide +kernel) (by decide +kernel)), by decide +kernel, by decide +kernel, by decide +kernel, by decide +kernel⟩
theorem vTape_append : Cond.instanceMethod (mt mTape_append).1 ∈ gtb ∧ Cond.selects (mt mTape_append).1.cls (mt mTape_append).1 (mt mTape_append).1 ∈ gtb := ⟨(gm 493 (by decide +kernel) (by decide +kernel)), (gm 494 (by decide +kernel) (by decide +kernel))⟩
theorem wTape_at : am_cw (mt mTape_at) 1 := ⟨(gm 515 (by decide +kernel) (by decide +kernel)), (gm 43 (by decide +kernel) (by decide +kernel)), by decide +kernel, by decide +kernel, by decide +kernel, by decide +kernel⟩
theorem vTape_at : Cond.instanceMethod (mt mTape_at).1 ∈ gtb ∧ Cond.selects (mt mTape_at).1.cls (mt mTape_at).1 (mt mTape_at).1 ∈ gtb := ⟨(gm 513 (by decide +kernel) (by decide +kernel)), (gm 514 (by decide +kernel) (by decide +kernel))⟩
theorem wMain_row : am_cw (mt mMain_row) 3 := ⟨(gm 411 (by decide +kernel) (by decide +kernel)), (gm 41 (by decide +kernel) (by decide +kernel)), by decide +kernel, by decide +kernel, by decide +kernel, by decide +kernel⟩
theorem vMain_row : Cond.instanceMethod (mt mMain_row).1 ∈ gtb ∧ Cond.selects (mt mMain_row).1.cls (mt mMain_row).1 (mt mMain_row).1 ∈ gtb := ⟨(gm 409 (by decide +kernel) (by decide +kernel)), (gm 410 (by decide +kernel) (by decide +kernel))⟩
theorem wMain_set : am_cw (mt mMain_set) 3 := ⟨(gm 444 (by decide +kernel) (by decide +kernel)), (gm 41 (by decide +kernel) (by decide +kernel)), by decide +kernel, by decide +kernel, by decide +kernel, by decide +kernel⟩
theorem vMain_set : Cond.instanceMethod (mt mMain_set).1 ∈ gtb ∧ Cond.selects (mt mMain_set).1.cls (mt mMain_set).1 (mt mMain_set).1 ∈ gtb := ⟨(gm 442 (by decide +kernel) (by decide +kernel)), (gm 443 (by decide +kernel) (by decide +kernel))⟩
theorem wMain_copy : am_cw (mt mMain_copy) 5 := ⟨(gm 462 (by decide +kernel) (by decide +kernel)), (gm 41 (by decide +kernel) (by decide +kernel)), by decide +kernel, by decide +kernel, by decide +kernel, by decide +kernel⟩
theorem vMain_copy : Cond.instanceMethod (mt mMain_copy).1 ∈ gtb ∧ Cond.selects (mt mMain_copy).1.cls (mt mMain_copy).1 (mt mMain_copy).1 ∈ gtb := ⟨(gm 460 (by decide +kernel) (by decide +kernel)), (gm 461 (by decide +kernel) (by decide +kernel))⟩
theorem wMain_drop : am_cw (mt mMain_drop) 1 := ⟨(gm 477 (by decide +kernel) (by decide +kernel)), (gm 41 (by decide +kernel) (by decide +kernel)), by decide +kernel, by decide +kernel, by decide +kernel, by decide +kernel⟩
theorem vMain_drop : Cond.instanceMethod (mt mMain_drop).1 ∈ gtb ∧ Cond.selects (mt mMain_drop).1.cls (mt mMain_drop).1 (mt mMain_drop).1 ∈ gtb := ⟨(gm 475 (by decide +kernel) (by decide +kernel)), (gm 476 (by decide +kernel) (by decide +kernel))⟩
theorem wMain_feed : am_cw (mt mMain_feed) 2 := ⟨(gm 486 (by decide +kernel) (by decide +kernel)), (gm 41 (by decide +kernel) (by decide +kernel)), by decide +kernel, by decide +kernel, by decide +kernel, by decide +kernel⟩
theorem vMain_feed : Cond.instanceMethod (mt mMain_feed).1 ∈ gtb ∧ Cond.selects (mt mMain_feed).1.cls (mt mMain_feed).1 (mt mMain_feed).1 ∈ gtb := ⟨(gm 484 (by decide +kernel) (by decide +kernel)), (gm 485 (by decide +kernel) (by decide +kernel))⟩
theorem wMain_house : am_cw (mt mMain_house) 0 := ⟨(gm 499 (by decide +kernel) (by decide +kernel)), (gm 41 (by decide +kernel) (by decide +kernel)), by decide +kernel, by decide +kernel, by decide +kernel, by decide +kernel⟩
theorem vMain_house : Cond.instanceMethod (mt mMain_house).1 ∈ gtb ∧ Cond.selects (mt mMain_house).1.cls (mt mMain_house).1 (mt mMain_house).1 ∈ gtb := ⟨(gm 497 (by decide +kernel) (by decide +kernel)), (gm 498 (by decide +kernel) (by decide +kernel))⟩
theorem wMain_fault : am_cw (mt mMain_fault) 0 := ⟨(gm 733 (by decide +kernel) (by decide +kernel)), (gm 41 (by decide +kernel) (by decide +kernel)), by decide +kernel, by decide +kernel, by decide +kernel, by decide +kernel⟩
theorem vMain_fault : Cond.instanceMethod (mt mMain_fault).1 ∈ gtb ∧ Cond.selects (mt mMain_fault).1.cls (mt mMain_fault).1 (mt mMain_fault).1 ∈ gtb := ⟨(gm 731 (by decide +kernel) (by decide +kernel)), (gm 732 (by decide +kernel) (by decide +kernel))⟩
theorem wMain_lift : am_cw (mt mMain_lift) 4 := ⟨(gm 737 (by decide +kernel) (by decide +kernel)), (gm 41 (by decide +kernel) (by decide +kernel)), by decide +kernel, by decide +kernel, by decide +kernel, by decide +kernel⟩
theorem vMain_lift : Cond.instanceMethod (mt mMain_lift).1 ∈ gtb ∧ Cond.selects (mt mMain_lift).1.cls (mt mMain_lift).1 (mt mMain_lift).1 ∈ gtb := ⟨(gm 735 (by decide +kernel) (by decide +kernel)), (gm 736 (by decide +kernel) (by decide +kernel))⟩
theorem wMain_forget : am_cw (mt mMain_forget) 0 := ⟨(gm 768 (by decide +kernel) (by decide +kernel)), (gm 41 (by decide +kernel) (by decide +kernel)), by decide +kernel, by decide +kernel, by decide +kernel, by decide +kernel⟩
theorem vMain_forget : Cond.instanceMethod (mt mMain_forget).1 ∈ gtb ∧ Cond.selects (mt mMain_forget).1.cls (mt mMain_forget).1 (mt mMain_forget).1 ∈ gtb := ⟨(gm 766 (by decide +kernel) (by decide +kernel)), (gm 767 (by decide +kernel) (by decide +kernel))⟩
theorem wMain_spot : am_cw (mt mMain_spot) 2 := ⟨(gm 773 (by decide +kernel) (by decide +kernel)), (gm 41 (by decide +kernel) (by decide +kernel)), by decide +kernel, by decide +kernel, by decide +kernel, by decide +kernel⟩
theorem vMain_spot : Cond.instanceMethod (mt mMain_spot).1 ∈ gtb ∧ Cond.selects (mt mMain_spot).1.cls (mt mMain_spot).1 (mt mMain_spot).1 ∈ gtb := ⟨(gm 771 (by decide +kernel) (by decide +kernel)), (gm 772 (by decide +kernel) (by decide +kernel))⟩
theorem wMain_papers : am_cw (mt mMain_papers) 1 := ⟨(gm 780 (by decide +kernel) (by decide +kernel)), (gm 41 (by decide +kernel) (by decide +kernel)), by decide +kernel, by decide +kernel, by decide +kernel, by decide +kernel⟩
theorem vMain_papers : Cond.instanceMethod (mt mMain_papers).1 ∈ gtb ∧ Cond.selects (mt mMain_papers).1.cls (mt mMain_papers).1 (mt mMain_papers).1 ∈ gtb := ⟨(gm 778 (by decide +kernel) (by decide +kernel)), (gm 779 (by decide +kernel) (by decide +kernel))⟩
theorem wMain_paper : am_cw (mt mMain_paper) 2 := ⟨(gm 785 (by decide +kernel) (by decide +kernel)), (gm 41 (by decide +kernel) (by decide +kernel)), by decide +kernel, by decide +kernel, by decide +kernel, by decide +kernel⟩
theorem vMain_paper : Cond.instanceMethod (mt mMain_paper).1 ∈ gtb ∧ Cond.selects (mt mMain_paper).1.cls (mt mMain_paper).1 (mt mMain_paper).1 ∈ gtb := ⟨(gm 783 (by decide +kernel) (by decide +kernel)), (gm 784 (by decide +kernel) (by decide +kernel))⟩
theorem wMain_orders : am_cw (mt mMain_orders) 0 := ⟨(gm 789 (by decide +kernel) (by decide +kernel)), (gm 41 (by decide +kernel) (by decide +kernel)), by decide +kernel, by decide +kernel, by decide +kernel, by decide +kernel⟩
theorem vMain_orders : Cond.instanceMethod (mt mMain_orders).1 ∈ gtb ∧ Cond.selects (mt mMain_orders).1.cls (mt mMain_orders).1 (mt mMain_orders).1 ∈ gtb := ⟨(gm 787 (by decide +kernel) (by decide +kernel)), (gm 788 (by decide +kernel) (by decide +kernel))⟩
theorem wMain_first : am_cw (mt mMain_first) 1 := ⟨(gm 816 (by decide +kernel) (by decide +kernel)), (gm 41 (by decide +kernel) (by decide +kernel)), by decide +kernel, by decide +kernel, by decide +kernel, by decide +kernel⟩
theorem vMain_first : Cond.instanceMethod (mt mMain_first).1 ∈ gtb ∧ Cond.selects (mt mMain_first).1.cls (mt mMain_first).1 (mt mMain_first).1 ∈ gtb := ⟨(gm 814 (by decide +kernel) (by decide +kernel)), (gm 815 (by decide +kernel) (by decide +kernel))⟩
theorem wMain_odds : am_cw (mt mMain_odds) 3 := ⟨(gm 820 (by decide +kernel) (by decide +kernel)), (gm 41 (by decide +kernel) (by decide +kernel)), by decide +kernel, by decide +kernel, by decide +kernel, by decide +kernel⟩
theorem vMain_odds : Cond.instanceMethod (mt mMain_odds).1 ∈ gtb ∧ Cond.selects (mt mMain_odds).1.cls (mt mMain_odds).1 (mt mMain_odds).1 ∈ gtb := ⟨(gm 818 (by decide +kernel) (by decide +kernel)), (gm 819 (by decide +kernel) (by decide +kernel))⟩
theorem wMain_next : am_cw (mt mMain_next) 0 := ⟨(gm 840 (by decide +kernel) (by decide +kernel)), (gm 41 (by decide +kernel) (by decide +kernel)), by decide +kernel, by decide +kernel, by decide +kernel, by decide +kernel⟩
theorem vMain_next : Cond.instanceMethod (mt mMain_next).1 ∈ gtb ∧ Cond.selects (mt mMain_next).1.cls (mt mMain_next).1 (mt mMain_next).1 ∈ gtb := ⟨(gm 838 (by decide +kernel) (by decide +kernel)), (gm 839 (by decide +kernel) (by decide +kernel))⟩
theorem wMain_years : am_cw (mt mMain_years) 2 := ⟨(gm 855 (by decide +kernel) (by decide +kernel)), (gm 41 (by decide +kernel) (by decide +kernel)), by decide +kernel, by decide +kernel, by decide +kernel, by decide +kernel⟩
theorem vMain_years : Cond.instanceMethod (mt mMain_years).1 ∈ gtb ∧ Cond.selects (mt mMain_years).1.cls (mt mMain_years).1 (mt mMain_years).1 ∈ gtb := ⟨(gm 853 (by decide +kernel) (by decide +kernel)), (gm 854 (by decide +kernel) (by decide +kernel))⟩
theorem wMain_younger : am_cw (mt mMain_younger) 2 := ⟨(gm 859 (by decide +kernel) (by decide +kernel)), (gm 41 (by decide +kernel) (by decide +kernel)), by decide +kernel, by decide +kernel, by decide +kernel, by decide +kernel⟩
theorem vMain_younger : Cond.instanceMethod (mt mMain_younger).1 ∈ gtb ∧ Cond.selects (mt mMain_younger).1.cls (mt mMain_younger).1 (mt mMain_younger).1 ∈ gtb := ⟨(gm 857 (by decide +kernel) (by decide +kernel)), (gm 858 (by decide +kernel) (by decide +kernel))⟩
theorem wMain_lacks : am_cw (mt mMain_lacks) 2 := ⟨(gm 867 (by decide +kernel) (by decide +kernel)), (gm 41 (by decide +kernel) (by decide +kernel)), by decide +kernel, by decide +kernel, by decide +kernel, by decide +kernel⟩
theorem vMain_lacks : Cond.instanceMethod (mt mMain_lacks).1 ∈ gtb ∧ Cond.selects (mt mMain_lacks).1.cls (mt mMain_lacks).1 (mt mMain_lacks).1 ∈ gtb := ⟨(gm 865 (by decide +kernel) (by decide +kernel)), (gm 866 (by decide +kernel) (by decide +kernel))⟩
theorem wMain_tenants : am_cw (mt mMain_tenants) 1 := ⟨(gm 879 (by decide +kernel) (by decide +kernel)), (gm 41 (by decide +kernel) (by decide +kernel)), by decide +kernel, by decide +kernel, by decide +kernel, by decide +kernel⟩
theorem vMain_tenants : Cond.instanceMethod (mt mMain_tenants).1 ∈ gtb ∧ Cond.selects (mt mMain_tenants).1.cls (mt mMain_tenants).1 (mt mMain_tenants).1 ∈ gtb := ⟨(gm 877 (by decide +kernel) (by decide +kernel)), (gm 878 (by decide +kernel) (by decide +kernel))⟩
theorem wMain_cupboard : am_cw (mt mMain_cupboard) 2 := ⟨(gm 887 (by decide +kernel) (by decide +kernel)), (gm 41 (by decide +kernel) (by decide +kernel)), by decide +kernel, by decide +kernel, by decide +kernel, by decide +kernel⟩
theorem vMain_cupboard : Cond.instanceMethod (mt mMain_cupboard).1 ∈ gtb ∧ Cond.selects (mt mMain_cupboard).1.cls (mt mMain_cupboard).1 (mt mMain_cupboard).1 ∈ gtb := ⟨(gm 885 (by decide +kernel) (by decide +kernel)), (gm 886 (by decide +kernel) (by decide +kernel))⟩
theorem wMain_scrap : am_cw (mt mMain_scrap) 2 := ⟨(gm 903 (by decide +kernel) (by decide +kernel)), (gm 41 (by decide +kernel) (by decide +kernel)), by decide +kernel, by decide +kernel, by decide +kernel, by decide +kernel⟩
theorem vMain_scrap : Cond.instanceMethod (mt mMain_scrap).1 ∈ gtb ∧ Cond.selects (mt mMain_scrap).1.cls (mt mMain_scrap).1 (mt mMain_scrap).1 ∈ gtb := ⟨(gm 901 (by decide +kernel) (by decide +kernel)), (gm 902 (by decide +kernel) (by decide +kernel))⟩
theorem wMain_tells : am_cw (mt mMain_tells) 1 := ⟨(gm 917 (by decide +kernel) (by decide +kernel)), (gm 41 (by decide +kernel) (by decide +kernel)), by decide +kernel, by decide +kernel, by decide +kernel, by decide +kernel⟩
theorem vMain_tells : Cond.instanceMethod (mt mMain_tells).1 ∈ gtb ∧ Cond.selects (mt mMain_tells).1.cls (mt mMain_tells).1 (mt mMain_tells).1 ∈ gtb := ⟨(gm 915 (by decide +kernel) (by decide +kernel)), (gm 916 (by decide +kernel) (by decide +kernel))⟩
theorem wMain_rolls : am_cw (mt mMain_rolls) 3 := ⟨(gm 929 (by decide +kernel) (by decide +kernel)), (gm 41 (by decide +kernel) (by decide +kernel)), by decide +kernel, by decide +kernel, by decide +kernel, by decide +kernel⟩
theorem vMain_rolls : Cond.instanceMethod (mt mMain_rolls).1 ∈ gtb ∧ Cond.selects (mt mMain_rolls).1.cls (mt mMain_rolls).1 (mt mMain_rolls).1 ∈ gtb := ⟨(gm 927 (by decide +kernel) (by decide +kernel)), (gm 928 (by decide +kernel) (by decide +kernel))⟩
theorem wMain_image : am_cw (mt mMain_image) 1 := ⟨(gm 950 (by decide +kernel) (by decide +kernel)), (gm 41 (by decide +kernel) (by decide +kernel)), by decide +kernel, by decide +kernel, by decide +kernel, by decide +kernel⟩
theorem vMain_image : Cond.instanceMethod (mt mMain_image).1 ∈ gtb ∧ Cond.selects (mt mMain_image).1.cls (mt mMain_image).1 (mt mMain_image).1 ∈ gtb := ⟨(gm 948 (by decide +kernel) (by decide +kernel)), (gm 949 (by decide +kernel) (by decide +kernel))⟩
theorem wMain_restore : am_cw (mt mMain_restore) 1 := ⟨(gm 959 (by decide +kernel) (by decide +kernel)), (gm 41 (by decide +kernel) (by decide +kernel)), by decide +kernel, by decide +kernel, by decide +kernel, by decide +kernel⟩
theorem vMain_restore : Cond.instanceMethod (mt mMain_restore).1 ∈ gtb ∧ Cond.selects (mt mMain_restore).1.cls (mt mMain_restore).1 (mt mMain_restore).1 ∈ gtb := ⟨(gm 957 (by decide +kernel) (by decide +kernel)), (gm 958 (by decide +kernel) (by decide +kernel))⟩
theorem wMain_kind : am_cw (mt mMain_kind) 1 := ⟨(gm 963 (by decide +kernel) (by decide +kernel)), (gm 41 (by decide +kernel) (by decide +kernel)), by decide +kernel, by decide +kernel, by decide +kernel, by decide +kernel⟩
theorem vMain_kind : Cond.instanceMethod (mt mMain_kind).1 ∈ gtb ∧ Cond.selects (mt mMain_kind).1.cls (mt mMain_kind).1 (mt mMain_kind).1 ∈ gtb := ⟨(gm 961 (by decide +kernel) (by decide +kernel)), (gm 962 (by decide +kernel) (by decide +kernel))⟩
theorem wMain_as : am_cw (mt mMain_as) 2 := ⟨(gm 967 (by decide +kernel) (by decide +kernel)), (gm 41 (by decide +kernel) (by decide +kernel)), by decide +kernel, by decide +kernel, by decide +kernel, by decide +kernel⟩
theorem vMain_as : Cond.instanceMethod (mt mMain_as).1 ∈ gtb ∧ Cond.selects (mt mMain_as).1.cls (mt mMain_as).1 (mt mMain_as).1 ∈ gtb := ⟨(gm 965 (by decide +kernel) (by decide +kernel)), (gm 966 (by decide +kernel) (by decide +kernel))⟩
theorem wMain_ask : am_cw (mt mMain_ask) 2 := ⟨(gm 973 (by decide +kernel) (by decide +kernel)), (gm 41 (by decide +kernel) (by decide +kernel)), by decide +kernel, by decide +kernel, by decide +kernel, by decide +kernel⟩
theorem vMain_ask : Cond.instanceMethod (mt mMain_ask).1 ∈ gtb ∧ Cond.selects (mt mMain_ask).1.cls (mt mMain_ask).1 (mt mMain_ask).1 ∈ gtb := ⟨(gm 971 (by decide +kernel) (by decide +kernel)), (gm 972 (by decide +kernel) (by decide +kernel))⟩
theorem wMain_trace : am_cw (mt mMain_trace) 1 := ⟨(gm 1001 (by decide +kernel) (by decide +kernel)), (gm 41 (by decide +kernel) (by decide +kernel)), by decide +kernel, by decide +kernel, by decide +kernel, by decide +kernel⟩
theorem vMain_trace : Cond.instanceMethod (mt mMain_trace).1 ∈ gtb ∧ Cond.selects (mt mMain_trace).1.cls (mt mMain_trace).1 (mt mMain_trace).1 ∈ gtb := ⟨(gm 999 (by decide +kernel) (by decide +kernel)), (gm 1000 (by decide +kernel) (by decide +kernel))⟩
theorem wMain_count : am_cw (mt mMain_count) 1 := ⟨(gm 1005 (by decide +kernel) (by decide +kernel)), (gm 41 (by decide +kernel) (by decide +kernel)), by decide +kernel, by decide +kernel, by decide +kernel, by decide +kernel⟩
theorem vMain_count : Cond.instanceMethod (mt mMain_count).1 ∈ gtb ∧ Cond.selects (mt mMain_count).1.cls (mt mMain_count).1 (mt mMain_count).1 ∈ gtb := ⟨(gm 1003 (by decide +kernel) (by decide +kernel)), (gm 1004 (by decide +kernel) (by decide +kernel))⟩
theorem wMain_status : am_cw (mt mMain_status) 0 := ⟨(gm 1013 (by decide +kernel) (by decide +kernel)), (gm 41 (by decide +kernel) (by decide +kernel)), by decide +kernel, by decide +kernel, by decide +kernel, by decide +kernel⟩
theorem vMain_status : Cond.instanceMethod (mt mMain_status).1 ∈ gtb ∧ Cond.selects (mt mMain_status).1.cls (mt mMain_status).1 (mt mMain_status).1 ∈ gtb := ⟨(gm 1011 (by decide +kernel) (by decide +kernel)), (gm 1012 (by decide +kernel) (by decide +kernel))⟩
theorem wMain_found : am_cw (mt mMain_found) 1 := ⟨(gm 424 (by decide +kernel) (by decide +kernel)), (gm 41 (by decide +kernel) (by decide +kernel)), by decide +kernel, by decide +kernel, by decide +kernel, by decide +kernel⟩
theorem vMain_found : Cond.instanceMethod (mt mMain_found).1 ∈ gtb ∧ Cond.selects (mt mMain_found).1.cls (mt mMain_found).1 (mt mMain_found).1 ∈ gtb := ⟨(gm 423 (by decide +kernel) (by decide +kernel)), (gm 0 (by decide +kernel) (by decide +kernel))⟩
theorem wMain_clean : am_cw (mt mMain_clean) 1 := ⟨(gm 440 (by decide +kernel) (by decide +kernel)), (gm 41 (by decide +kernel) (by decide +kernel)), by decide +kernel, by decide +kernel, by decide +kernel, by decide +kernel⟩
theorem vMain_clean : Cond.instanceMethod (mt mMain_clean).1 ∈ gtb ∧ Cond.selects (mt mMain_clean).1.cls (mt mMain_clean).1 (mt mMain_clean).1 ∈ gtb := ⟨(gm 439 (by decide +kernel) (by decide +kernel)), (gm 1 (by decide +kernel) (by decide +kernel))⟩
theorem wMain_learnAnew : am_cw (mt mMain_learnAnew) 0 := ⟨(gm 653 (by decide +kernel) (by decide +kernel)), (gm 41 (by decide +kernel) (by decide +kernel)), by decide +kernel, by decide +kernel, by decide +kernel, by decide +kernel⟩
theorem vMain_learnAnew : Cond.instanceMethod (mt mMain_learnAnew).1 ∈ gtb ∧ Cond.selects (mt mMain_learnAnew).1.cls (mt mMain_learnAnew).1 (mt mMain_learnAnew).1 ∈ gtb := ⟨(gm 652 (by decide +kernel) (by decide +kernel)), (gm 2 (by decide +kernel) (by decide +kernel))⟩
theorem wMain_isSeen : am_cw (mt mMain_isSeen) 1 := ⟨(gm 824 (by decide +kernel) (by decide +kernel)), (gm 41 (by decide +kernel) (by decide +kernel)), by decide +kernel, by decide +kernel, by decide +kernel, by decide +kernel⟩
theorem vMain_isSeen : Cond.instanceMethod (mt mMain_isSeen).1 ∈ gtb ∧ Cond.selects (mt mMain_isSeen).1.cls (mt mMain_isSeen).1 (mt mMain_isSeen).1 ∈ gtb := ⟨(gm 823 (by decide +kernel) (by decide +kernel)), (gm 4 (by decide +kernel) (by decide +kernel))⟩
theorem wMain_areUnlikePapers : am_cw (mt mMain_areUnlikePapers) 3 := ⟨(gm 749 (by decide +kernel) (by decide +kernel)), (gm 41 (by decide +kernel) (by decide +kernel)), by decide +kernel, by decide +kernel, by decide +kernel, by decide +kernel⟩
theorem vMain_areUnlikePapers : Cond.instanceMethod (mt mMain_areUnlikePapers).1 ∈ gtb ∧ Cond.selects (mt mMain_areUnlikePapers).1.cls (mt mMain_areUnlikePapers).1 (mt mMain_areUnlikePapers).1 ∈ gtb := ⟨(gm 748 (by decide +kernel) (by decide +kernel)), (gm 3 (by decide +kernel) (by decide +kernel))⟩
theorem wMain_isSwitch : am_cw (mt mMain_isSwitch) 1 := ⟨(gm 827 (by decide +kernel) (by decide +kernel)), (gm 41 (by decide +kernel) (by decide +kernel)), by decide +kernel, by decide +kernel, by decide +kernel, by decide +kernel⟩
theorem sMain_isSwitch : Cond.static (mt mMain_isSwitch).1 ∈ gtb := (gm 826 (by decide +kernel) (by decide +kernel))
end
section
theorem wMain_isSetOf : am_cw (mt mMain_isSetOf) 2 := ⟨(gm 920 (by decide +kernel) (by decide +kernel)), (gm 41 (by decide +kernel) (by decide +kernel)), by decide +kernel, by decide +kernel, by decide +kernel, by decide +kernel⟩
theorem sMain_isSetOf : Cond.static (mt mMain_isSetOf).1 ∈ gtb := (gm 919 (by decide +kernel) (by decide +kernel))
theorem wMain_has : am_cw (mt mMain_has) 2 := ⟨(gm 685 (by decide +kernel) (by decide +kernel)), (gm 41 (by decide +kernel) (by decide +kernel)), by decide +kernel, by decide +kernel, by decide +kernel, by decide +kernel⟩
theorem sMain_has : Cond.static (mt mMain_has).1 ∈ gtb := (gm 684 (by decide +kernel) (by decide +kernel))
theorem wMain_greatestShared : am_cw (mt mMain_greatestShared) 2 := ⟨(gm 835 (by decide +kernel) (by decide +kernel)), (gm 41 (by decide +kernel) (by decide +kernel)), by decide +kernel, by decide +kernel, by decide +kernel, by decide +kernel⟩
theorem sMain_greatestShared : Cond.static (mt mMain_greatestShared).1 ∈ gtb := (gm 834 (by decide +kernel) (by decide +kernel))
theorem wMain_partsUp : am_cw (mt mMain_partsUp) 2 := ⟨(gm 942 (by decide +kernel) (by decide +kernel)), (gm 41 (by decide +kernel) (by decide +kernel)), by decide +kernel, by decide +kernel, by decide +kernel, by decide +kernel⟩
theorem sMain_partsUp : Cond.static (mt mMain_partsUp).1 ∈ gtb := (gm 941 (by decide +kernel) (by decide +kernel))
theorem wRef_in : am_cw (mt mRef_in) 3 := ⟨(gm 1118 (by decide +kernel) (by decide +kernel)), (gm 52 (by decide +kernel) (by decide +kernel)), by decide +kernel, by decide +kernel, by decide +kernel, by decide +kernel⟩
theorem sRef_in : Cond.static (mt mRef_in).1 ∈ gtb := (gm 1117 (by decide +kernel) (by decide +kernel))
theorem wRef_finding : am_cw (mt mRef_finding) 1 := ⟨(gm 1124 (by decide +kernel) (by decide +kernel)), (gm 52 (by decide +kernel) (by decide +kernel)), by decide +kernel, by decide +kernel, by decide +kernel, by decide +kernel⟩
theorem vRef_finding : Cond.instanceMethod (mt mRef_finding).1 ∈ gtb ∧ Cond.selects (mt mRef_finding).1.cls (mt mRef_finding).1 (mt mRef_finding).1 ∈ gtb := ⟨(gm 1123 (by decide +kernel) (by decide +kernel)), (gm 5 (by decide +kernel) (by decide +kernel))⟩
theorem wRef_isRow : am_cw (mt mRef_isRow) 1 := ⟨(gm 1114 (by decide +kernel) (by decide +kernel)), (gm 52 (by decide +kernel) (by decide +kernel)), by decide +kernel, by decide +kernel, by decide +kernel, by decide +kernel⟩
theorem sRef_isRow : Cond.static (mt mRef_isRow).1 ∈ gtb := (gm 1113 (by decide +kernel) (by decide +kernel))
theorem wRef_row : am_cw (mt mRef_row) 3 := ⟨(gm 1111 (by decide +kernel) (by decide +kernel)), (gm 52 (by decide +kernel) (by decide +kernel)), by decide +kernel, by decide +kernel, by decide +kernel, by decide +kernel⟩
theorem vRef_row : Cond.instanceMethod (mt mRef_row).1 ∈ gtb ∧ Cond.selects (mt mRef_row).1.cls (mt mRef_row).1 (mt mRef_row).1 ∈ gtb := ⟨(gm 1109 (by decide +kernel) (by decide +kernel)), (gm 1110 (by decide +kernel) (by decide +kernel))⟩
theorem wRef_set : am_cw (mt mRef_set) 3 := ⟨(gm 1129 (by decide +kernel) (by decide +kernel)), (gm 52 (by decide +kernel) (by decide +kernel)), by decide +kernel, by decide +kernel, by decide +kernel, by decide +kernel⟩
theorem vRef_set : Cond.instanceMethod (mt mRef_set).1 ∈ gtb ∧ Cond.selects (mt mRef_set).1.cls (mt mRef_set).1 (mt mRef_set).1 ∈ gtb := ⟨(gm 1127 (by decide +kernel) (by decide +kernel)), (gm 1128 (by decide +kernel) (by decide +kernel))⟩
theorem wRef_copy : am_cw (mt mRef_copy) 5 := ⟨(gm 1133 (by decide +kernel) (by decide +kernel)), (gm 52 (by decide +kernel) (by decide +kernel)), by decide +kernel, by decide +kernel, by decide +kernel, by decide +kernel⟩
theorem vRef_copy : Cond.instanceMethod (mt mRef_copy).1 ∈ gtb ∧ Cond.selects (mt mRef_copy).1.cls (mt mRef_copy).1 (mt mRef_copy).1 ∈ gtb := ⟨(gm 1131 (by decide +kernel) (by decide +kernel)), (gm 1132 (by decide +kernel) (by decide +kernel))⟩
theorem wRef_drop : am_cw (mt mRef_drop) 1 := ⟨(gm 1137 (by decide +kernel) (by decide +kernel)), (gm 52 (by decide +kernel) (by decide +kernel)), by decide +kernel, by decide +kernel, by decide +kernel, by decide +kernel⟩
theorem vRef_drop : Cond.instanceMethod (mt mRef_drop).1 ∈ gtb ∧ Cond.selects (mt mRef_drop).1.cls (mt mRef_drop).1 (mt mRef_drop).1 ∈ gtb := ⟨(gm 1135 (by decide +kernel) (by decide +kernel)), (gm 1136 (by decide +kernel) (by decide +kernel))⟩
theorem wRef_feed : am_cw (mt mRef_feed) 2 := ⟨(gm 1141 (by decide +kernel) (by decide +kernel)), (gm 52 (by decide +kernel) (by decide +kernel)), by decide +kernel, by decide +kernel, by decide +kernel, by decide +kernel⟩
theorem vRef_feed : Cond.instanceMethod (mt mRef_feed).1 ∈ gtb ∧ Cond.selects (mt mRef_feed).1.cls (mt mRef_feed).1 (mt mRef_feed).1 ∈ gtb := ⟨(gm 1139 (by decide +kernel) (by decide +kernel)), (gm 1140 (by decide +kernel) (by decide +kernel))⟩
theorem wRef_byteAt : am_cw (mt mRef_byteAt) 1 := ⟨(gm 1160 (by decide +kernel) (by decide +kernel)), (gm 52 (by decide +kernel) (by decide +kernel)), by decide +kernel, by decide +kernel, by decide +kernel, by decide +kernel⟩
theorem vRef_byteAt : Cond.instanceMethod (mt mRef_byteAt).1 ∈ gtb ∧ Cond.selects (mt mRef_byteAt).1.cls (mt mRef_byteAt).1 (mt mRef_byteAt).1 ∈ gtb := ⟨(gm 1159 (by decide +kernel) (by decide +kernel)), (gm 8 (by decide +kernel) (by decide +kernel))⟩
theorem wRef_isLetter : am_cw (mt mRef_isLetter) 1 := ⟨(gm 1164 (by decide +kernel) (by decide +kernel)), (gm 52 (by decide +kernel) (by decide +kernel)), by decide +kernel, by decide +kernel, by decide +kernel, by decide +kernel⟩
theorem sRef_isLetter : Cond.static (mt mRef_isLetter).1 ∈ gtb := (gm 1163 (by decide +kernel) (by decide +kernel))
theorem wRef_isFigure : am_cw (mt mRef_isFigure) 1 := ⟨(gm 1167 (by decide +kernel) (by decide +kernel)), (gm 52 (by decide +kernel) (by decide +kernel)), by decide +kernel, by decide +kernel, by decide +kernel, by decide +kernel⟩
theorem sRef_isFigure : Cond.static (mt mRef_isFigure).1 ∈ gtb := (gm 1166 (by decide +kernel) (by decide +kernel))
theorem wRef_nextToken : am_cw (mt mRef_nextToken) 0 := ⟨(gm 1156 (by decide +kernel) (by decide +kernel)), (gm 52 (by decide +kernel) (by decide +kernel)), by decide +kernel, by decide +kernel, by decide +kernel, by decide +kernel⟩
theorem vRef_nextToken : Cond.instanceMethod (mt mRef_nextToken).1 ∈ gtb ∧ Cond.selects (mt mRef_nextToken).1.cls (mt mRef_nextToken).1 (mt mRef_nextToken).1 ∈ gtb := ⟨(gm 1155 (by decide +kernel) (by decide +kernel)), (gm 7 (by decide +kernel) (by decide +kernel))⟩
theorem wRef_begin : am_cw (mt mRef_begin) 0 := ⟨(gm 1152 (by decide +kernel) (by decide +kernel)), (gm 52 (by decide +kernel) (by decide +kernel)), by decide +kernel, by decide +kernel, by decide +kernel, by decide +kernel⟩
theorem vRef_begin : Cond.instanceMethod (mt mRef_begin).1 ∈ gtb ∧ Cond.selects (mt mRef_begin).1.cls (mt mRef_begin).1 (mt mRef_begin).1 ∈ gtb := ⟨(gm 1151 (by decide +kernel) (by decide +kernel)), (gm 6 (by decide +kernel) (by decide +kernel))⟩
theorem wRef_bad : am_cw (mt mRef_bad) 1 := ⟨(gm 1176 (by decide +kernel) (by decide +kernel)), (gm 52 (by decide +kernel) (by decide +kernel)), by decide +kernel, by decide +kernel, by decide +kernel, by decide +kernel⟩
theorem vRef_bad : Cond.instanceMethod (mt mRef_bad).1 ∈ gtb ∧ Cond.selects (mt mRef_bad).1.cls (mt mRef_bad).1 (mt mRef_bad).1 ∈ gtb := ⟨(gm 1175 (by decide +kernel) (by decide +kernel)), (gm 10 (by decide +kernel) (by decide +kernel))⟩
theorem wRef_must : am_cw (mt mRef_must) 1 := ⟨(gm 1188 (by decide +kernel) (by decide +kernel)), (gm 52 (by decide +kernel) (by decide +kernel)), by decide +kernel, by decide +kernel, by decide +kernel, by decide +kernel⟩
theorem vRef_must : Cond.instanceMethod (mt mRef_must).1 ∈ gtb ∧ Cond.selects (mt mRef_must).1.cls (mt mRef_must).1 (mt mRef_must).1 ∈ gtb := ⟨(gm 1187 (by decide +kernel) (by decide +kernel)), (gm 13 (by decide +kernel) (by decide +kernel))⟩
theorem wRef_name : am_cw (mt mRef_name) 0 := ⟨(gm 1171 (by decide +kernel) (by decide +kernel)), (gm 52 (by decide +kernel) (by decide +kernel)), by decide +kernel, by decide +kernel, by decide +kernel, by decide +kernel⟩
theorem vRef_name : Cond.instanceMethod (mt mRef_name).1 ∈ gtb ∧ Cond.selects (mt mRef_name).1.cls (mt mRef_name).1 (mt mRef_name).1 ∈ gtb := ⟨(gm 1170 (by decide +kernel) (by decide +kernel)), (gm 9 (by decide +kernel) (by decide +kernel))⟩
theorem wRef_figures : am_cw (mt mRef_figures) 0 := ⟨(gm 1196 (by decide +kernel) (by decide +kernel)), (gm 52 (by decide +kernel) (by decide +kernel)), by decide +kernel, by decide +kernel, by decide +kernel, by decide +kernel⟩
theorem vRef_figures : Cond.instanceMethod (mt mRef_figures).1 ∈ gtb ∧ Cond.selects (mt mRef_figures).1.cls (mt mRef_figures).1 (mt mRef_figures).1 ∈ gtb := ⟨(gm 1195 (by decide +kernel) (by decide +kernel)), (gm 15 (by decide +kernel) (by decide +kernel))⟩
theorem wRef_number : am_cw (mt mRef_number) 2 := ⟨(gm 1192 (by decide +kernel) (by decide +kernel)), (gm 52 (by decide +kernel) (by decide +kernel)), by decide +kernel, by decide +kernel, by decide +kernel, by decide +kernel⟩
theorem vRef_number : Cond.instanceMethod (mt mRef_number).1 ∈ gtb ∧ Cond.selects (mt mRef_number).1.cls (mt mRef_number).1 (mt mRef_number).1 ∈ gtb := ⟨(gm 1191 (by decide +kernel) (by decide +kernel)), (gm 14 (by decide +kernel) (by decide +kernel))⟩
theorem wRef_sortOf : am_cw (mt mRef_sortOf) 1 := ⟨(gm 1208 (by decide +kernel) (by decide +kernel)), (gm 52 (by decide +kernel) (by decide +kernel)), by decide +kernel, by decide +kernel, by decide +kernel, by decide +kernel⟩
theorem sRef_sortOf : Cond.static (mt mRef_sortOf).1 ∈ gtb := (gm 1207 (by decide +kernel) (by decide +kernel))
theorem wRef_mustEnd : am_cw (mt mRef_mustEnd) 0 := ⟨(gm 1200 (by decide +kernel) (by decide +kernel)), (gm 52 (by decide +kernel) (by decide +kernel)), by decide +kernel, by decide +kernel, by decide +kernel, by decide +kernel⟩
theorem vRef_mustEnd : Cond.instanceMethod (mt mRef_mustEnd).1 ∈ gtb ∧ Cond.selects (mt mRef_mustEnd).1.cls (mt mRef_mustEnd).1 (mt mRef_mustEnd).1 ∈ gtb := ⟨(gm 1199 (by decide +kernel) (by decide +kernel)), (gm 16 (by decide +kernel) (by decide +kernel))⟩
theorem wRef_begins : am_cw (mt mRef_begins) 2 := ⟨(gm 1184 (by decide +kernel) (by decide +kernel)), (gm 52 (by decide +kernel) (by decide +kernel)), by decide +kernel, by decide +kernel, by decide +kernel, by decide +kernel⟩
theorem vRef_begins : Cond.instanceMethod (mt mRef_begins).1 ∈ gtb ∧ Cond.selects (mt mRef_begins).1.cls (mt mRef_begins).1 (mt mRef_begins).1 ∈ gtb := ⟨(gm 1183 (by decide +kernel) (by decide +kernel)), (gm 12 (by decide +kernel) (by decide +kernel))⟩
theorem wRef_readWall : am_cw (mt mRef_readWall) 0 := ⟨(gm 1180 (by decide +kernel) (by decide +kernel)), (gm 52 (by decide +kernel) (by decide +kernel)), by decide +kernel, by decide +kernel, by decide +kernel, by decide +kernel⟩
theorem vRef_readWall : Cond.instanceMethod (mt mRef_readWall).1 ∈ gtb ∧ Cond.selects (mt mRef_readWall).1.cls (mt mRef_readWall).1 (mt mRef_readWall).1 ∈ gtb := ⟨(gm 1179 (by decide +kernel) (by decide +kernel)), (gm 11 (by decide +kernel) (by decide +kernel))⟩
theorem wRef_readPaper : am_cw (mt mRef_readPaper) 0 := ⟨(gm 1205 (by decide +kernel) (by decide +kernel)), (gm 52 (by decide +kernel) (by decide +kernel)), by decide +kernel, by decide +kernel, by decide +kernel, by decide +kernel⟩
theorem vRef_readPaper : Cond.instanceMethod (mt mRef_readPaper).1 ∈ gtb ∧ Cond.selects (mt mRef_readPaper).1.cls (mt mRef_readPaper).1 (mt mRef_readPaper).1 ∈ gtb := ⟨(gm 1204 (by decide +kernel) (by decide +kernel)), (gm 17 (by decide +kernel) (by decide +kernel))⟩
theorem wRef_readTenant : am_cw (mt mRef_readTenant) 0 := ⟨(gm 1218 (by decide +kernel) (by decide +kernel)), (gm 52 (by decide +kernel) (by decide +kernel)), by decide +kernel, by decide +kernel, by decide +kernel, by decide +kernel⟩
theorem vRef_readTenant : Cond.instanceMethod (mt mRef_readTenant).1 ∈ gtb ∧ Cond.selects (mt mRef_readTenant).1.cls (mt mRef_readTenant).1 (mt mRef_readTenant).1 ∈ gtb := ⟨(gm 1217 (by decide +kernel) (by decide +kernel)), (gm 18 (by decide +kernel) (by decide +kernel))⟩
theorem wRef_house : am_cw (mt mRef_house) 0 := ⟨(gm 1148 (by decide +kernel) (by decide +kernel)), (gm 52 (by decide +kernel) (by decide +kernel)), by decide +kernel, by decide +kernel, by decide +kernel, by decide +kernel⟩
theorem vRef_house : Cond.instanceMethod (mt mRef_house).1 ∈ gtb ∧ Cond.selects (mt mRef_house).1.cls (mt mRef_house).1 (mt mRef_house).1 ∈ gtb := ⟨(gm 1146 (by decide +kernel) (by decide +kernel)), (gm 1147 (by decide +kernel) (by decide +kernel))⟩
theorem wRef_fault : am_cw (mt mRef_fault) 0 := ⟨(gm 1243 (by decide +kernel) (by decide +kernel)), (gm 52 (by decide +kernel) (by decide +kernel)), by decide +kernel, by decide +kernel, by decide +kernel, by decide +kernel⟩
theorem vRef_fault : Cond.instanceMethod (mt mRef_fault).1 ∈ gtb ∧ Cond.selects (mt mRef_fault).1.cls (mt mRef_fault).1 (mt mRef_fault).1 ∈ gtb := ⟨(gm 1241 (by decide +kernel) (by decide +kernel)), (gm 1242 (by decide +kernel) (by decide +kernel))⟩
theorem wRef_isWall : am_cw (mt mRef_isWall) 1 := ⟨(gm 1251 (by decide +kernel) (by decide +kernel)), (gm 52 (by decide +kernel) (by decide +kernel)), by decide +kernel, by decide +kernel, by decide +kernel, by decide +kernel⟩
theorem vRef_isWall : Cond.instanceMethod (mt mRef_isWall).1 ∈ gtb ∧ Cond.selects (mt mRef_isWall).1.cls (mt mRef_isWall).1 (mt mRef_isWall).1 ∈ gtb := ⟨(gm 1250 (by decide +kernel) (by decide +kernel)), (gm 24 (by decide +kernel) (by decide +kernel))⟩
theorem wRef_isPaper : am_cw (mt mRef_isPaper) 1 := ⟨(gm 1259 (by decide +kernel) (by decide +kernel)), (gm 52 (by decide +kernel) (by decide +kernel)), by decide +kernel, by decide +kernel, by decide +kernel, by decide +kernel⟩
theorem vRef_isPaper : Cond.instanceMethod (mt mRef_isPaper).1 ∈ gtb ∧ Cond.selects (mt mRef_isPaper).1.cls (mt mRef_isPaper).1 (mt mRef_isPaper).1 ∈ gtb := ⟨(gm 1258 (by decide +kernel) (by decide +kernel)), (gm 26 (by decide +kernel) (by decide +kernel))⟩
theorem wRef_isSpot : am_cw (mt mRef_isSpot) 1 := ⟨(gm 1275 (by decide +kernel) (by decide +kernel)), (gm 52 (by decide +kernel) (by decide +kernel)), by decide +kernel, by decide +kernel, by decide +kernel, by decide +kernel⟩
theorem vRef_isSpot : Cond.instanceMethod (mt mRef_isSpot).1 ∈ gtb ∧ Cond.selects (mt mRef_isSpot).1.cls (mt mRef_isSpot).1 (mt mRef_isSpot).1 ∈ gtb := ⟨(gm 1274 (by decide +kernel) (by decide +kernel)), (gm 27 (by decide +kernel) (by decide +kernel))⟩
theorem wRef_wall : am_cw (mt mRef_wall) 2 := ⟨(gm 1331 (by decide +kernel) (by decide +kernel)), (gm 52 (by decide +kernel) (by decide +kernel)), by decide +kernel, by decide +kernel, by decide +kernel, by decide +kernel⟩
theorem vRef_wall : Cond.instanceMethod (mt mRef_wall).1 ∈ gtb ∧ Cond.selects (mt mRef_wall).1.cls (mt mRef_wall).1 (mt mRef_wall).1 ∈ gtb := ⟨(gm 1330 (by decide +kernel) (by decide +kernel)), (gm 33 (by decide +kernel) (by decide +kernel))⟩
theorem wRef_of : am_cw (mt mRef_of) 2 := ⟨(gm 1292 (by decide +kernel) (by decide +kernel)), (gm 52 (by decide +kernel) (by decide +kernel)), by decide +kernel, by decide +kernel, by decide +kernel, by decide +kernel⟩
theorem vRef_of : Cond.instanceMethod (mt mRef_of).1 ∈ gtb ∧ Cond.selects (mt mRef_of).1.cls (mt mRef_of).1 (mt mRef_of).1 ∈ gtb := ⟨(gm 1291 (by decide +kernel) (by decide +kernel)), (gm 29 (by decide +kernel) (by decide +kernel))⟩
theorem wRef_lies : am_cw (mt mRef_lies) 2 := ⟨(gm 1231 (by decide +kernel) (by decide +kernel)), (gm 52 (by decide +kernel) (by decide +kernel)), by decide +kernel, by decide +kernel, by decide +kernel, by decide +kernel⟩
theorem vRef_lies : Cond.instanceMethod (mt mRef_lies).1 ∈ gtb ∧ Cond.selects (mt mRef_lies).1.cls (mt mRef_lies).1 (mt mRef_lies).1 ∈ gtb := ⟨(gm 1230 (by decide +kernel) (by decide +kernel)), (gm 21 (by decide +kernel) (by decide +kernel))⟩
theorem wRef_wallOf : am_cw (mt mRef_wallOf) 1 := ⟨(gm 1235 (by decide +kernel) (by decide +kernel)), (gm 52 (by decide +kernel) (by decide +kernel)), by decide +kernel, by decide +kernel, by decide +kernel, by decide +kernel⟩
theorem vRef_wallOf : Cond.instanceMethod (mt mRef_wallOf).1 ∈ gtb ∧ Cond.selects (mt mRef_wallOf).1.cls (mt mRef_wallOf).1 (mt mRef_wallOf).1 ∈ gtb := ⟨(gm 1234 (by decide +kernel) (by decide +kernel)), (gm 22 (by decide +kernel) (by decide +kernel))⟩
theorem wRef_manyAt : am_cw (mt mRef_manyAt) 1 := ⟨(gm 1227 (by decide +kernel) (by decide +kernel)), (gm 52 (by decide +kernel) (by decide +kernel)), by decide +kernel, by decide +kernel, by decide +kernel, by decide +kernel⟩
theorem vRef_manyAt : Cond.instanceMethod (mt mRef_manyAt).1 ∈ gtb ∧ Cond.selects (mt mRef_manyAt).1.cls (mt mRef_manyAt).1 (mt mRef_manyAt).1 ∈ gtb := ⟨(gm 1226 (by decide +kernel) (by decide +kernel)), (gm 20 (by decide +kernel) (by decide +kernel))⟩
theorem wRef_laySpots : am_cw (mt mRef_laySpots) 0 := ⟨(gm 1223 (by decide +kernel) (by decide +kernel)), (gm 52 (by decide +kernel) (by decide +kernel)), by decide +kernel, by decide +kernel, by decide +kernel, by decide +kernel⟩
theorem vRef_laySpots : Cond.instanceMethod (mt mRef_laySpots).1 ∈ gtb ∧ Cond.selects (mt mRef_laySpots).1.cls (mt mRef_laySpots).1 (mt mRef_laySpots).1 ∈ gtb := ⟨(gm 1222 (by decide +kernel) (by decide +kernel)), (gm 19 (by decide +kernel) (by decide +kernel))⟩
theorem wRef_laySure : am_cw (mt mRef_laySure) 0 := ⟨(gm 1239 (by decide +kernel) (by decide +kernel)), (gm 52 (by decide +kernel) (by decide +kernel)), by decide +kernel, by decide +kernel, by decide +kernel, by decide +kernel⟩
theorem vRef_laySure : Cond.instanceMethod (mt mRef_laySure).1 ∈ gtb ∧ Cond.selects (mt mRef_laySure).1.cls (mt mRef_laySure).1 (mt mRef_laySure).1 ∈ gtb := ⟨(gm 1238 (by decide +kernel) (by decide +kernel)), (gm 23 (by decide +kernel) (by decide +kernel))⟩
theorem wRef_inRings : am_cw (mt mRef_inRings) 0 := ⟨(gm 1283 (by decide +kernel) (by decide +kernel)), (gm 52 (by decide +kernel) (by decide +kernel)), by decide +kernel, by decide +kernel, by decide +kernel, by decide +kernel⟩
theorem vRef_inRings : Cond.instanceMethod (mt mRef_inRings).1 ∈ gtb ∧ Cond.selects (mt mRef_inRings).1.cls (mt mRef_inRings).1 (mt mRef_inRings).1 ∈ gtb := ⟨(gm 1282 (by decide +kernel) (by decide +kernel)), (gm 28 (by decide +kernel) (by decide +kernel))⟩
theorem wRef_isIn : am_cw (mt mRef_isIn) 2 := ⟨(gm 1262 (by decide +kernel) (by decide +kernel)), (gm 52 (by decide +kernel) (by decide +kernel)), by decide +kernel, by decide +kernel, by decide +kernel, by decide +kernel⟩
theorem sRef_isIn : Cond.static (mt mRef_isIn).1 ∈ gtb := (gm 1261 (by decide +kernel) (by decide +kernel))
theorem wRef_isSeen : am_cw (mt mRef_isSeen) 1 := ⟨(gm 1312 (by decide +kernel) (by decide +kernel)), (gm 52 (by decide +kernel) (by decide +kernel)), by decide +kernel, by decide +kernel, by decide +kernel, by decide +kernel⟩
theorem vRef_isSeen : Cond.instanceMethod (mt mRef_isSeen).1 ∈ gtb ∧ Cond.selects (mt mRef_isSeen).1.cls (mt mRef_isSeen).1 (mt mRef_isSeen).1 ∈ gtb := ⟨(gm 1311 (by decide +kernel) (by decide +kernel)), (gm 31 (by decide +kernel) (by decide +kernel))⟩
theorem wRef_lack : am_cw (mt mRef_lack) 3 := ⟨(gm 1255 (by decide +kernel) (by decide +kernel)), (gm 52 (by decide +kernel) (by decide +kernel)), by decide +kernel, by decide +kernel, by decide +kernel, by decide +kernel⟩
theorem vRef_lack : Cond.instanceMethod (mt mRef_lack).1 ∈ gtb ∧ Cond.selects (mt mRef_lack).1.cls (mt mRef_lack).1 (mt mRef_lack).1 ∈ gtb := ⟨(gm 1254 (by decide +kernel) (by decide +kernel)), (gm 25 (by decide +kernel) (by decide +kernel))⟩
theorem wRef_lift : am_cw (mt mRef_lift) 4 := ⟨(gm 1247 (by decide +kernel) (by decide +kernel)), (gm 52 (by decide +kernel) (by decide +kernel)), by decide +kernel, by decide +kernel, by decide +kernel, by decide +kernel⟩
theorem vRef_lift : Cond.instanceMethod (mt mRef_lift).1 ∈ gtb ∧ Cond.selects (mt mRef_lift).1.cls (mt mRef_lift).1 (mt mRef_lift).1 ∈ gtb := ⟨(gm 1245 (by decide +kernel) (by decide +kernel)), (gm 1246 (by decide +kernel) (by decide +kernel))⟩
theorem wRef_forget : am_cw (mt mRef_forget) 0 := ⟨(gm 1266 (by decide +kernel) (by decide +kernel)), (gm 52 (by decide +kernel) (by decide +kernel)), by decide +kernel, by decide +kernel, by decide +kernel, by decide +kernel⟩
theorem vRef_forget : Cond.instanceMethod (mt mRef_forget).1 ∈ gtb ∧ Cond.selects (mt mRef_forget).1.cls (mt mRef_forget).1 (mt mRef_forget).1 ∈ gtb := ⟨(gm 1264 (by decide +kernel) (by decide +kernel)), (gm 1265 (by decide +kernel) (by decide +kernel))⟩
theorem wRef_spot : am_cw (mt mRef_spot) 2 := ⟨(gm 1271 (by decide +kernel) (by decide +kernel)), (gm 52 (by decide +kernel) (by decide +kernel)), by decide +kernel, by decide +kernel, by decide +kernel, by decide +kernel⟩
theorem vRef_spot : Cond.instanceMethod (mt mRef_spot).1 ∈ gtb ∧ Cond.selects (mt mRef_spot).1.cls (mt mRef_spot).1 (mt mRef_spot).1 ∈ gtb := ⟨(gm 1269 (by decide +kernel) (by decide +kernel)), (gm 1270 (by decide +kernel) (by decide +kernel))⟩
theorem wRef_papers : am_cw (mt mRef_papers) 1 := ⟨(gm 1279 (by decide +kernel) (by decide +kernel)), (gm 52 (by decide +kernel) (by decide +kernel)), by decide +kernel, by decide +kernel, by decide +kernel, by decide +kernel⟩
theorem vRef_papers : Cond.instanceMethod (mt mRef_papers).1 ∈ gtb ∧ Cond.selects (mt mRef_papers).1.cls (mt mRef_papers).1 (mt mRef_papers).1 ∈ gtb := ⟨(gm 1277 (by decide +kernel) (by decide +kernel)), (gm 1278 (by decide +kernel) (by decide +kernel))⟩
theorem wRef_paper : am_cw (mt mRef_paper) 2 := ⟨(gm 1287 (by decide +kernel) (by decide +kernel)), (gm 52 (by decide +kernel) (by decide +kernel)), by decide +kernel, by decide +kernel, by decide +kernel, by decide +kernel⟩
theorem vRef_paper : Cond.instanceMethod (mt mRef_paper).1 ∈ gtb ∧ Cond.selects (mt mRef_paper).1.cls (mt mRef_paper).1 (mt mRef_paper).1 ∈ gtb := ⟨(gm 1285 (by decide +kernel) (by decide +kernel)), (gm 1286 (by decide +kernel) (by decide +kernel))⟩
theorem wRef_ordersWith : am_cw (mt mRef_ordersWith) 2 := ⟨(gm 1300 (by decide +kernel) (by decide +kernel)), (gm 52 (by decide +kernel) (by decide +kernel)), by decide +kernel, by decide +kernel, by decide +kernel, by decide +kernel⟩
theorem vRef_ordersWith : Cond.instanceMethod (mt mRef_ordersWith).1 ∈ gtb ∧ Cond.selects (mt mRef_ordersWith).1.cls (mt mRef_ordersWith).1 (mt mRef_ordersWith).1 ∈ gtb := ⟨(gm 1299 (by decide +kernel) (by decide +kernel)), (gm 30 (by decide +kernel) (by decide +kernel))⟩
theorem wRef_orders : am_cw (mt mRef_orders) 0 := ⟨(gm 1296 (by decide +kernel) (by decide +kernel)), (gm 52 (by decide +kernel) (by decide +kernel)), by decide +kernel, by decide +kernel, by decide +kernel, by decide +kernel⟩
theorem vRef_orders : Cond.instanceMethod (mt mRef_orders).1 ∈ gtb ∧ Cond.selects (mt mRef_orders).1.cls (mt mRef_orders).1 (mt mRef_orders).1 ∈ gtb := ⟨(gm 1294 (by decide +kernel) (by decide +kernel)), (gm 1295 (by decide +kernel) (by decide +kernel))⟩
theorem wRef_first : am_cw (mt mRef_first) 1 := ⟨(gm 1304 (by decide +kernel) (by decide +kernel)), (gm 52 (by decide +kernel) (by decide +kernel)), by decide +kernel, by decide +kernel, by decide +kernel, by decide +kernel⟩
theorem vRef_first : Cond.instanceMethod (mt mRef_first).1 ∈ gtb ∧ Cond.selects (mt mRef_first).1.cls (mt mRef_first).1 (mt mRef_first).1 ∈ gtb := ⟨(gm 1302 (by decide +kernel) (by decide +kernel)), (gm 1303 (by decide +kernel) (by decide +kernel))⟩
theorem wRef_divisor : am_cw (mt mRef_divisor) 2 := ⟨(gm 1315 (by decide +kernel) (by decide +kernel)), (gm 52 (by decide +kernel) (by decide +kernel)), by decide +kernel, by decide +kernel, by decide +kernel, by decide +kernel⟩
theorem sRef_divisor : Cond.static (mt mRef_divisor).1 ∈ gtb := (gm 1314 (by decide +kernel) (by decide +kernel))
theorem wRef_odds : am_cw (mt mRef_odds) 3 := ⟨(gm 1308 (by decide +kernel) (by decide +kernel)), (gm 52 (by decide +kernel) (by decide +kernel)), by decide +kernel, by decide +kernel, by decide +kernel, by decide +kernel⟩
theorem vRef_odds : Cond.instanceMethod (mt mRef_odds).1 ∈ gtb ∧ Cond.selects (mt mRef_odds).1.cls (mt mRef_odds).1 (mt mRef_odds).1 ∈ gtb := ⟨(gm 1306 (by decide +kernel) (by decide +kernel)), (gm 1307 (by decide +kernel) (by decide +kernel))⟩
theorem wRef_next : am_cw (mt mRef_next) 0 := ⟨(gm 1319 (by decide +kernel) (by decide +kernel)), (gm 52 (by decide +kernel) (by decide +kernel)), by decide +kernel, by decide +kernel, by decide +kernel, by decide +kernel⟩
theorem vRef_next : Cond.instanceMethod (mt mRef_next).1 ∈ gtb ∧ Cond.selects (mt mRef_next).1.cls (mt mRef_next).1 (mt mRef_next).1 ∈ gtb := ⟨(gm 1317 (by decide +kernel) (by decide +kernel)), (gm 1318 (by decide +kernel) (by decide +kernel))⟩
theorem wRef_layYears : am_cw (mt mRef_layYears) 0 := ⟨(gm 1327 (by decide +kernel) (by decide +kernel)), (gm 52 (by decide +kernel) (by decide +kernel)), by decide +kernel, by decide +kernel, by decide +kernel, by decide +kernel⟩
theorem vRef_layYears : Cond.instanceMethod (mt mRef_layYears).1 ∈ gtb ∧ Cond.selects (mt mRef_layYears).1.cls (mt mRef_layYears).1 (mt mRef_layYears).1 ∈ gtb := ⟨(gm 1326 (by decide +kernel) (by decide +kernel)), (gm 32 (by decide +kernel) (by decide +kernel))⟩
theorem wRef_years : am_cw (mt mRef_years) 2 := ⟨(gm 1323 (by decide +kernel) (by decide +kernel)), (gm 52 (by decide +kernel) (by decide +kernel)), by decide +kernel, by decide +kernel, by decide +kernel, by decide +kernel⟩
theorem vRef_years : Cond.instanceMethod (mt mRef_years).1 ∈ gtb ∧ Cond.selects (mt mRef_years).1.cls (mt mRef_years).1 (mt mRef_years).1 ∈ gtb := ⟨(gm 1321 (by decide +kernel) (by decide +kernel)), (gm 1322 (by decide +kernel) (by decide +kernel))⟩
theorem wRef_younger : am_cw (mt mRef_younger) 2 := ⟨(gm 1335 (by decide +kernel) (by decide +kernel)), (gm 52 (by decide +kernel) (by decide +kernel)), by decide +kernel, by decide +kernel, by decide +kernel, by decide +kernel⟩
theorem vRef_younger : Cond.instanceMethod (mt mRef_younger).1 ∈ gtb ∧ Cond.selects (mt mRef_younger).1.cls (mt mRef_younger).1 (mt mRef_younger).1 ∈ gtb := ⟨(gm 1333 (by decide +kernel) (by decide +kernel)), (gm 1334 (by decide +kernel) (by decide +kernel))⟩
theorem wRef_lacks : am_cw (mt mRef_lacks) 2 := ⟨(gm 1339 (by decide +kernel) (by decide +kernel)), (gm 52 (by decide +kernel) (by decide +kernel)), by decide +kernel, by decide +kernel, by decide +kernel, by decide +kernel⟩
theorem vRef_lacks : Cond.instanceMethod (mt mRef_lacks).1 ∈ gtb ∧ Cond.selects (mt mRef_lacks).1.cls (mt mRef_lacks).1 (mt mRef_lacks).1 ∈ gtb := ⟨(gm 1337 (by decide +kernel) (by decide +kernel)), (gm 1338 (by decide +kernel) (by decide +kernel))⟩
theorem wRef_tenants : am_cw (mt mRef_tenants) 1 := ⟨(gm 1343 (by decide +kernel) (by decide +kernel)), (gm 52 (by decide +kernel) (by decide +kernel)), by decide +kernel, by decide +kernel, by decide +kernel, by decide +kernel⟩
theorem vRef_tenants : Cond.instanceMethod (mt mRef_tenants).1 ∈ gtb ∧ Cond.selects (mt mRef_tenants).1.cls (mt mRef_tenants).1 (mt mRef_tenants).1 ∈ gtb := ⟨(gm 1341 (by decide +kernel) (by decide +kernel)), (gm 1342 (by decide +kernel) (by decide +kernel))⟩
end
section
theorem wRef_cupboard : am_cw (mt mRef_cupboard) 2 := ⟨(gm 1347 (by decide +kernel) (by decide +kernel)), (gm 52 (by decide +kernel) (by decide +kernel)), by decide +kernel, by decide +kernel, by decide +kernel, by decide +kernel⟩
theorem vRef_cupboard : Cond.instanceMethod (mt mRef_cupboard).1 ∈ gtb ∧ Cond.selects (mt mRef_cupboard).1.cls (mt mRef_cupboard).1 (mt mRef_cupboard).1 ∈ gtb := ⟨(gm 1345 (by decide +kernel) (by decide +kernel)), (gm 1346 (by decide +kernel) (by decide +kernel))⟩
theorem wRef_scrap : am_cw (mt mRef_scrap) 2 := ⟨(gm 1351 (by decide +kernel) (by decide +kernel)), (gm 52 (by decide +kernel) (by decide +kernel)), by decide +kernel, by decide +kernel, by decide +kernel, by decide +kernel⟩
theorem vRef_scrap : Cond.instanceMethod (mt mRef_scrap).1 ∈ gtb ∧ Cond.selects (mt mRef_scrap).1.cls (mt mRef_scrap).1 (mt mRef_scrap).1 ∈ gtb := ⟨(gm 1349 (by decide +kernel) (by decide +kernel)), (gm 1350 (by decide +kernel) (by decide +kernel))⟩
theorem wRef_tellsBy : am_cw (mt mRef_tellsBy) 2 := ⟨(gm 1360 (by decide +kernel) (by decide +kernel)), (gm 52 (by decide +kernel) (by decide +kernel)), by decide +kernel, by decide +kernel, by decide +kernel, by decide +kernel⟩
theorem vRef_tellsBy : Cond.instanceMethod (mt mRef_tellsBy).1 ∈ gtb ∧ Cond.selects (mt mRef_tellsBy).1.cls (mt mRef_tellsBy).1 (mt mRef_tellsBy).1 ∈ gtb := ⟨(gm 1359 (by decide +kernel) (by decide +kernel)), (gm 34 (by decide +kernel) (by decide +kernel))⟩
theorem wRef_tells : am_cw (mt mRef_tells) 1 := ⟨(gm 1356 (by decide +kernel) (by decide +kernel)), (gm 52 (by decide +kernel) (by decide +kernel)), by decide +kernel, by decide +kernel, by decide +kernel, by decide +kernel⟩
theorem vRef_tells : Cond.instanceMethod (mt mRef_tells).1 ∈ gtb ∧ Cond.selects (mt mRef_tells).1.cls (mt mRef_tells).1 (mt mRef_tells).1 ∈ gtb := ⟨(gm 1354 (by decide +kernel) (by decide +kernel)), (gm 1355 (by decide +kernel) (by decide +kernel))⟩
theorem wRef_painted : am_cw (mt mRef_painted) 2 := ⟨(gm 1368 (by decide +kernel) (by decide +kernel)), (gm 52 (by decide +kernel) (by decide +kernel)), by decide +kernel, by decide +kernel, by decide +kernel, by decide +kernel⟩
theorem vRef_painted : Cond.instanceMethod (mt mRef_painted).1 ∈ gtb ∧ Cond.selects (mt mRef_painted).1.cls (mt mRef_painted).1 (mt mRef_painted).1 ∈ gtb := ⟨(gm 1367 (by decide +kernel) (by decide +kernel)), (gm 35 (by decide +kernel) (by decide +kernel))⟩
theorem wRef_rolls : am_cw (mt mRef_rolls) 3 := ⟨(gm 1364 (by decide +kernel) (by decide +kernel)), (gm 52 (by decide +kernel) (by decide +kernel)), by decide +kernel, by decide +kernel, by decide +kernel, by decide +kernel⟩
theorem vRef_rolls : Cond.instanceMethod (mt mRef_rolls).1 ∈ gtb ∧ Cond.selects (mt mRef_rolls).1.cls (mt mRef_rolls).1 (mt mRef_rolls).1 ∈ gtb := ⟨(gm 1362 (by decide +kernel) (by decide +kernel)), (gm 1363 (by decide +kernel) (by decide +kernel))⟩
theorem wRef_image : am_cw (mt mRef_image) 1 := ⟨(gm 1372 (by decide +kernel) (by decide +kernel)), (gm 52 (by decide +kernel) (by decide +kernel)), by decide +kernel, by decide +kernel, by decide +kernel, by decide +kernel⟩
theorem vRef_image : Cond.instanceMethod (mt mRef_image).1 ∈ gtb ∧ Cond.selects (mt mRef_image).1.cls (mt mRef_image).1 (mt mRef_image).1 ∈ gtb := ⟨(gm 1370 (by decide +kernel) (by decide +kernel)), (gm 1371 (by decide +kernel) (by decide +kernel))⟩
theorem wRef_restore : am_cw (mt mRef_restore) 1 := ⟨(gm 1376 (by decide +kernel) (by decide +kernel)), (gm 52 (by decide +kernel) (by decide +kernel)), by decide +kernel, by decide +kernel, by decide +kernel, by decide +kernel⟩
theorem vRef_restore : Cond.instanceMethod (mt mRef_restore).1 ∈ gtb ∧ Cond.selects (mt mRef_restore).1.cls (mt mRef_restore).1 (mt mRef_restore).1 ∈ gtb := ⟨(gm 1374 (by decide +kernel) (by decide +kernel)), (gm 1375 (by decide +kernel) (by decide +kernel))⟩
theorem wRef_isOf : am_cw (mt mRef_isOf) 2 := ⟨(gm 1388 (by decide +kernel) (by decide +kernel)), (gm 52 (by decide +kernel) (by decide +kernel)), by decide +kernel, by decide +kernel, by decide +kernel, by decide +kernel⟩
theorem sRef_isOf : Cond.static (mt mRef_isOf).1 ∈ gtb := (gm 1387 (by decide +kernel) (by decide +kernel))
theorem wRef_kind : am_cw (mt mRef_kind) 1 := ⟨(gm 1380 (by decide +kernel) (by decide +kernel)), (gm 52 (by decide +kernel) (by decide +kernel)), by decide +kernel, by decide +kernel, by decide +kernel, by decide +kernel⟩
theorem vRef_kind : Cond.instanceMethod (mt mRef_kind).1 ∈ gtb ∧ Cond.selects (mt mRef_kind).1.cls (mt mRef_kind).1 (mt mRef_kind).1 ∈ gtb := ⟨(gm 1378 (by decide +kernel) (by decide +kernel)), (gm 1379 (by decide +kernel) (by decide +kernel))⟩
theorem wRef_as : am_cw (mt mRef_as) 2 := ⟨(gm 1384 (by decide +kernel) (by decide +kernel)), (gm 52 (by decide +kernel) (by decide +kernel)), by decide +kernel, by decide +kernel, by decide +kernel, by decide +kernel⟩
theorem vRef_as : Cond.instanceMethod (mt mRef_as).1 ∈ gtb ∧ Cond.selects (mt mRef_as).1.cls (mt mRef_as).1 (mt mRef_as).1 ∈ gtb := ⟨(gm 1382 (by decide +kernel) (by decide +kernel)), (gm 1383 (by decide +kernel) (by decide +kernel))⟩
theorem wRef_began : am_cw (mt mRef_began) 1 := ⟨(gm 1404 (by decide +kernel) (by decide +kernel)), (gm 52 (by decide +kernel) (by decide +kernel)), by decide +kernel, by decide +kernel, by decide +kernel, by decide +kernel⟩
theorem vRef_began : Cond.instanceMethod (mt mRef_began).1 ∈ gtb ∧ Cond.selects (mt mRef_began).1.cls (mt mRef_began).1 (mt mRef_began).1 ∈ gtb := ⟨(gm 1403 (by decide +kernel) (by decide +kernel)), (gm 38 (by decide +kernel) (by decide +kernel))⟩
theorem wRef_plainSize : am_cw (mt mRef_plainSize) 1 := ⟨(gm 1400 (by decide +kernel) (by decide +kernel)), (gm 52 (by decide +kernel) (by decide +kernel)), by decide +kernel, by decide +kernel, by decide +kernel, by decide +kernel⟩
theorem vRef_plainSize : Cond.instanceMethod (mt mRef_plainSize).1 ∈ gtb ∧ Cond.selects (mt mRef_plainSize).1.cls (mt mRef_plainSize).1 (mt mRef_plainSize).1 ∈ gtb := ⟨(gm 1399 (by decide +kernel) (by decide +kernel)), (gm 37 (by decide +kernel) (by decide +kernel))⟩
theorem wRef_markOf : am_cw (mt mRef_markOf) 1 := ⟨(gm 1408 (by decide +kernel) (by decide +kernel)), (gm 52 (by decide +kernel) (by decide +kernel)), by decide +kernel, by decide +kernel, by decide +kernel, by decide +kernel⟩
theorem vRef_markOf : Cond.instanceMethod (mt mRef_markOf).1 ∈ gtb ∧ Cond.selects (mt mRef_markOf).1.cls (mt mRef_markOf).1 (mt mRef_markOf).1 ∈ gtb := ⟨(gm 1407 (by decide +kernel) (by decide +kernel)), (gm 39 (by decide +kernel) (by decide +kernel))⟩
theorem wRef_sizeOf : am_cw (mt mRef_sizeOf) 1 := ⟨(gm 1396 (by decide +kernel) (by decide +kernel)), (gm 52 (by decide +kernel) (by decide +kernel)), by decide +kernel, by decide +kernel, by decide +kernel, by decide +kernel⟩
theorem vRef_sizeOf : Cond.instanceMethod (mt mRef_sizeOf).1 ∈ gtb ∧ Cond.selects (mt mRef_sizeOf).1.cls (mt mRef_sizeOf).1 (mt mRef_sizeOf).1 ∈ gtb := ⟨(gm 1395 (by decide +kernel) (by decide +kernel)), (gm 36 (by decide +kernel) (by decide +kernel))⟩
theorem wRef_ask : am_cw (mt mRef_ask) 2 := ⟨(gm 1392 (by decide +kernel) (by decide +kernel)), (gm 52 (by decide +kernel) (by decide +kernel)), by decide +kernel, by decide +kernel, by decide +kernel, by decide +kernel⟩
theorem vRef_ask : Cond.instanceMethod (mt mRef_ask).1 ∈ gtb ∧ Cond.selects (mt mRef_ask).1.cls (mt mRef_ask).1 (mt mRef_ask).1 ∈ gtb := ⟨(gm 1390 (by decide +kernel) (by decide +kernel)), (gm 1391 (by decide +kernel) (by decide +kernel))⟩
theorem wRef_trace : am_cw (mt mRef_trace) 1 := ⟨(gm 1412 (by decide +kernel) (by decide +kernel)), (gm 52 (by decide +kernel) (by decide +kernel)), by decide +kernel, by decide +kernel, by decide +kernel, by decide +kernel⟩
theorem vRef_trace : Cond.instanceMethod (mt mRef_trace).1 ∈ gtb ∧ Cond.selects (mt mRef_trace).1.cls (mt mRef_trace).1 (mt mRef_trace).1 ∈ gtb := ⟨(gm 1410 (by decide +kernel) (by decide +kernel)), (gm 1411 (by decide +kernel) (by decide +kernel))⟩
theorem wRef_count : am_cw (mt mRef_count) 1 := ⟨(gm 1416 (by decide +kernel) (by decide +kernel)), (gm 52 (by decide +kernel) (by decide +kernel)), by decide +kernel, by decide +kernel, by decide +kernel, by decide +kernel⟩
theorem vRef_count : Cond.instanceMethod (mt mRef_count).1 ∈ gtb ∧ Cond.selects (mt mRef_count).1.cls (mt mRef_count).1 (mt mRef_count).1 ∈ gtb := ⟨(gm 1414 (by decide +kernel) (by decide +kernel)), (gm 1415 (by decide +kernel) (by decide +kernel))⟩
theorem wRef_status : am_cw (mt mRef_status) 0 := ⟨(gm 1420 (by decide +kernel) (by decide +kernel)), (gm 52 (by decide +kernel) (by decide +kernel)), by decide +kernel, by decide +kernel, by decide +kernel, by decide +kernel⟩
theorem vRef_status : Cond.instanceMethod (mt mRef_status).1 ∈ gtb ∧ Cond.selects (mt mRef_status).1.cls (mt mRef_status).1 (mt mRef_status).1 ∈ gtb := ⟨(gm 1418 (by decide +kernel) (by decide +kernel)), (gm 1419 (by decide +kernel) (by decide +kernel))⟩
theorem wMath_abs : am_cw (mt mMath_abs) 1 := ⟨(gm 906 (by decide +kernel) (by decide +kernel)), (gm 59 (by decide +kernel) (by decide +kernel)), by decide +kernel, by decide +kernel, by decide +kernel, by decide +kernel⟩
theorem sMath_abs : Cond.static (mt mMath_abs).1 ∈ gtb := (gm 905 (by decide +kernel) (by decide +kernel))
theorem wMath_max : am_cw (mt mMath_max) 2 := ⟨(gm 708 (by decide +kernel) (by decide +kernel)), (gm 59 (by decide +kernel) (by decide +kernel)), by decide +kernel, by decide +kernel, by decide +kernel, by decide +kernel⟩
theorem sMath_max : Cond.static (mt mMath_max).1 ∈ gtb := (gm 707 (by decide +kernel) (by decide +kernel))
theorem wMath_min : am_cw (mt mMath_min) 2 := ⟨(gm 728 (by decide +kernel) (by decide +kernel)), (gm 59 (by decide +kernel) (by decide +kernel)), by decide +kernel, by decide +kernel, by decide +kernel, by decide +kernel⟩
theorem sMath_min : Cond.static (mt mMath_min).1 ∈ gtb := (gm 727 (by decide +kernel) (by decide +kernel))
theorem wStr_length : am_cw (mt mStr_length) 0 := ⟨(gm 541 (by decide +kernel) (by decide +kernel)), (gm 55 (by decide +kernel) (by decide +kernel)), by decide +kernel, by decide +kernel, by decide +kernel, by decide +kernel⟩
theorem vStr_length : Cond.instanceMethod (mt mStr_length).1 ∈ gtb ∧ Cond.selects (mt mStr_length).1.cls (mt mStr_length).1 (mt mStr_length).1 ∈ gtb := ⟨(gm 539 (by decide +kernel) (by decide +kernel)), (gm 540 (by decide +kernel) (by decide +kernel))⟩
theorem wStr_charAt : am_cw (mt mStr_charAt) 1 := ⟨(gm 551 (by decide +kernel) (by decide +kernel)), (gm 55 (by decide +kernel) (by decide +kernel)), by decide +kernel, by decide +kernel, by decide +kernel, by decide +kernel⟩
theorem vStr_charAt : Cond.instanceMethod (mt mStr_charAt).1 ∈ gtb ∧ Cond.selects (mt mStr_charAt).1.cls (mt mStr_charAt).1 (mt mStr_charAt).1 ∈ gtb := ⟨(gm 549 (by decide +kernel) (by decide +kernel)), (gm 550 (by decide +kernel) (by decide +kernel))⟩
theorem wStr_coder : am_cw (mt mStr_coder) 0 := ⟨(gm 545 (by decide +kernel) (by decide +kernel)), (gm 55 (by decide +kernel) (by decide +kernel)), by decide +kernel, by decide +kernel, by decide +kernel, by decide +kernel⟩
theorem vStr_coder : Cond.instanceMethod (mt mStr_coder).1 ∈ gtb ∧ Cond.selects (mt mStr_coder).1.cls (mt mStr_coder).1 (mt mStr_coder).1 ∈ gtb := ⟨(gm 543 (by decide +kernel) (by decide +kernel)), (gm 544 (by decide +kernel) (by decide +kernel))⟩
theorem wStr_isLatin1 : am_cw (mt mStr_isLatin1) 0 := ⟨(gm 555 (by decide +kernel) (by decide +kernel)), (gm 55 (by decide +kernel) (by decide +kernel)), by decide +kernel, by decide +kernel, by decide +kernel, by decide +kernel⟩
theorem vStr_isLatin1 : Cond.instanceMethod (mt mStr_isLatin1).1 ∈ gtb ∧ Cond.selects (mt mStr_isLatin1).1.cls (mt mStr_isLatin1).1 (mt mStr_isLatin1).1 ∈ gtb := ⟨(gm 553 (by decide +kernel) (by decide +kernel)), (gm 554 (by decide +kernel) (by decide +kernel))⟩
theorem wStr_checkIndex : am_cw (mt mStr_checkIndex) 2 := ⟨(gm 561 (by decide +kernel) (by decide +kernel)), (gm 55 (by decide +kernel) (by decide +kernel)), by decide +kernel, by decide +kernel, by decide +kernel, by decide +kernel⟩
theorem sStr_checkIndex : Cond.static (mt mStr_checkIndex).1 ∈ gtb := (gm 560 (by decide +kernel) (by decide +kernel))
theorem wLat_charAt : am_cw (mt mLat_charAt) 2 := ⟨(gm 558 (by decide +kernel) (by decide +kernel)), (gm 56 (by decide +kernel) (by decide +kernel)), by decide +kernel, by decide +kernel, by decide +kernel, by decide +kernel⟩
theorem sLat_charAt : Cond.static (mt mLat_charAt).1 ∈ gtb := (gm 557 (by decide +kernel) (by decide +kernel))
theorem wArr_rangeCheck : am_cw (mt mArr_rangeCheck) 3 := ⟨(gm 436 (by decide +kernel) (by decide +kernel)), (gm 53 (by decide +kernel) (by decide +kernel)), by decide +kernel, by decide +kernel, by decide +kernel, by decide +kernel⟩
theorem sArr_rangeCheck : Cond.static (mt mArr_rangeCheck).1 ∈ gtb := (gm 435 (by decide +kernel) (by decide +kernel))
theorem wArr_fill2 : am_cw (mt mArr_fill2) 2 := ⟨(gm 664 (by decide +kernel) (by decide +kernel)), (gm 53 (by decide +kernel) (by decide +kernel)), by decide +kernel, by decide +kernel, by decide +kernel, by decide +kernel⟩
theorem sArr_fill2 : Cond.static (mt mArr_fill2).1 ∈ gtb := (gm 663 (by decide +kernel) (by decide +kernel))
theorem wArr_fill4 : am_cw (mt mArr_fill4) 4 := ⟨(gm 433 (by decide +kernel) (by decide +kernel)), (gm 53 (by decide +kernel) (by decide +kernel)), by decide +kernel, by decide +kernel, by decide +kernel, by decide +kernel⟩
theorem sArr_fill4 : Cond.static (mt mArr_fill4).1 ∈ gtb := (gm 432 (by decide +kernel) (by decide +kernel))
theorem wPre_checkIndex : am_cw (mt mPre_checkIndex) 3 := ⟨(gm 566 (by decide +kernel) (by decide +kernel)), (gm 57 (by decide +kernel) (by decide +kernel)), by decide +kernel, by decide +kernel, by decide +kernel, by decide +kernel⟩
theorem sPre_checkIndex : Cond.static (mt mPre_checkIndex).1 ∈ gtb := (gm 565 (by decide +kernel) (by decide +kernel))
end
section
theorem peArr_5_13 : am_pk "java/util/Arrays" 5 13 (eC 208 3 0) := ⟨wArr_rangeCheck, sArr_rangeCheck, Or.inl (gm 434 (by decide +kernel) (by decide +kernel))⟩
def plArr : List (Nat × Nat × am_N) := [(5, 13, eC 208 3 0)]
theorem poArr : ∀ q ∈ plArr, am_pk "java/util/Arrays" q.1 q.2.1 q.2.2 := List.forall_mem_cons.mpr ⟨peArr_5_13, fun _ h => absurd h List.not_mem_nil⟩
def kArr_rangeCheck : List am_E := [(0, .iload_n 1, [1], none),
  (1, .iload_n 2, [2], none),
  (2, .if_icmp .le 44, [46], none),
  (5, .new 43, [], none),
  (8, .dup, [], none),
  (9, .new 45, [], none),
  (12, .dup, [], none),
  (13, .invokespecial 47, [], none),
  (16, .ldc 48, [], none),
  (18, .invokevirtual 50, [], none),
  (21, .iload_n 1, [1], none),
  (22, .invokevirtual 54, [], none),
  (25, .ldc 57, [], none),
  (27, .invokevirtual 50, [], none),
  (30, .iload_n 2, [2], none),
  (31, .invokevirtual 54, [], none),
  (34, .ldc 59, [], none),
  (36, .invokevirtual 50, [], none),
  (39, .invokevirtual 61, [], none),
  (42, .invokespecial 65, [], none),
  (45, .athrow, [], none),
  (46, .iload_n 1, [1], none),
  (47, .ifCond .ge 12, [59], none),
  (50, .new 68, [], none),
  (53, .dup, [], none),
  (54, .iload_n 1, [1], none),
  (55, .invokespecial 70, [], none),
  (58, .athrow, [], none),
  (59, .iload_n 2, [2], none),
  (60, .iload_n 0, [0], none),
  (61, .if_icmp .le 12, [73], none),
  (64, .new 68, [], none),
  (67, .dup, [], none),
  (68, .iload_n 2, [2], none),
  (69, .invokespecial 70, [], none),
  (72, .athrow, [], none),
  (73, .return_, [], none)]
theorem okArr_rangeCheck : am_mok mArr_rangeCheck kArr_rangeCheck := ⟨by decide +kernel, plArr, by decide +kernel, poArr⟩
def kArr_fill2 : List am_E := [(0, .iconst 0, [], some (eI 0)),
  (1, .istore_n 2, [2], none),
  (2, .aload_n 0, [0], none),
  (3, .arraylength, [], none),
  (4, .istore_n 3, [3], none),
  (5, .iload_n 2, [2], none),
  (6, .iload_n 3, [3], none),
  (7, .if_icmp .ge 13, [20], none),
  (10, .aload_n 0, [0], none),
  (11, .iload_n 2, [2], none),
  (12, .iload_n 1, [1], none),
  (13, .iastore, [], none),
  (14, .iinc 2 1, [2], some (eI 1)),
  (17, .goto (-12), [5], none),
  (20, .return_, [], none)]
theorem okArr_fill2 : am_mok mArr_fill2 kArr_fill2 := ⟨by decide +kernel, plArr, by decide +kernel, poArr⟩
def kArr_fill4 : List am_E := [(0, .aload_n 0, [0], none),
  (1, .arraylength, [], none),
  (2, .iload_n 1, [1], none),
  (3, .iload_n 2, [2], none),
  (4, .invokestatic 13, [], some (eC 208 3 0)),
  (7, .iload_n 1, [1], none),
  (8, .istore 4, [4], none),
  (10, .iload 4, [4], none),
  (12, .iload_n 2, [2], none),
  (13, .if_icmp .ge 14, [27], none),
  (16, .aload_n 0, [0], none),
  (17, .iload 4, [4], none),
  (19, .iload_n 3, [3], none),
  (20, .iastore, [], none),
  (21, .iinc 4 1, [4], some (eI 1)),
  (24, .goto (-14), [10], none),
  (27, .return_, [], none)]
theorem okArr_fill4 : am_mok mArr_fill4 kArr_fill4 := ⟨by decide +kernel, plArr, by decide +kernel, poArr⟩
end
section
theorem peBodies_0_9 : am_pk "PaperedOver$Bodies" 0 9 (eF 10 0) := ⟨(rc_10, tc_10, 2), rfl, by decide, (gm 359 (by decide +kernel) (by decide +kernel))⟩
theorem peBodies_0_13 : am_pk "PaperedOver$Bodies" 0 13 (eF 10 1) := ⟨(rc_10, tc_10, 2), rfl, by decide, (gm 361 (by decide +kernel) (by decide +kernel))⟩
theorem peBodies_0_37 : am_pk "PaperedOver$Bodies" 0 37 (eF 4 5) := ⟨(rc_4, tc_4, 14), rfl, by decide, (gm 131 (by decide +kernel) (by decide +kernel))⟩
theorem peBodies_0_44 : am_pk "PaperedOver$Bodies" 0 44 (eF 4 9) := ⟨(rc_4, tc_4, 14), rfl, by decide, (gm 146 (by decide +kernel) (by decide +kernel))⟩
theorem peBodies_0_47 : am_pk "PaperedOver$Bodies" 0 47 (eF 4 8) := ⟨(rc_4, tc_4, 14), rfl, by decide, (gm 141 (by decide +kernel) (by decide +kernel))⟩
theorem peBodies_0_50 : am_pk "PaperedOver$Bodies" 0 50 (eF 4 6) := ⟨(rc_4, tc_4, 14), rfl, by decide, (gm 134 (by decide +kernel) (by decide +kernel))⟩
theorem peBodies_3_17 : am_pk "PaperedOver$Bodies" 3 17 (eR (aR 12 0 1)) := Or.inl ⟨1, by decide, rfl, (gm 978 (by decide +kernel) (by decide +kernel))⟩
theorem peBodies_3_28 : am_pk "PaperedOver$Bodies" 3 28 (eR (aR 12 0 2)) := Or.inl ⟨2, by decide, rfl, (gm 992 (by decide +kernel) (by decide +kernel))⟩
theorem peBodies_4_24 : am_pk "PaperedOver$Bodies" 4 24 (eC 3 5 10) := ⟨4, rfl, wBodies_answer, (gm 984 (by decide +kernel) (by decide +kernel)), vBodies_answer.1, vBodies_answer.2, Or.inl ⟨_, rfl, rfl⟩⟩
theorem peBodies_4_31 : am_pk "PaperedOver$Bodies" 4 31 (eC 27 2 4) := ⟨1, rfl, wHouse_isPaper, (gm 983 (by decide +kernel) (by decide +kernel)), vHouse_isPaper.1, vHouse_isPaper.2, Or.inl ⟨_, rfl, rfl⟩⟩
theorem peBodies_4_40 : am_pk "PaperedOver$Bodies" 4 40 (eC 4 2 10) := ⟨1, rfl, wBodies_begin, (gm 988 (by decide +kernel) (by decide +kernel)), vBodies_begin.1, vBodies_begin.2, Or.inl ⟨_, rfl, rfl⟩⟩
theorem peBodies_5_20 : am_pk "PaperedOver$Bodies" 5 20 (eC 2 3 0) := ⟨wBodies_told, sBodies_told, Or.inl (gm 980 (by decide +kernel) (by decide +kernel))⟩
def plBodies : List (Nat × Nat × am_N) := [(0, 9, eF 10 0), (0, 13, eF 10 1), (0, 37, eF 4 5), (0, 44, eF 4 9), (0, 47, eF 4 8), (0, 50, eF 4 6), (3, 17, eR (aR 12 0 1)), (3, 28, eR (aR 12 0 2)), (4, 24, eC 3 5 10), (4, 31, eC 27 2 4), (4, 40, eC 4 2 10), (5, 20, eC 2 3 0)]
theorem poBodies : ∀ q ∈ plBodies, am_pk "PaperedOver$Bodies" q.1 q.2.1 q.2.2 := List.forall_mem_cons.mpr ⟨peBodies_0_9, List.forall_mem_cons.mpr ⟨peBodies_0_13, List.forall_mem_cons.mpr ⟨peBodies_0_37, List.forall_mem_cons.mpr ⟨peBodies_0_44, List.forall_mem_cons.mpr ⟨peBodies_0_47, List.forall_mem_cons.mpr ⟨peBodies_0_50, List.forall_mem_cons.mpr ⟨peBodies_3_17, List.forall_mem_cons.mpr ⟨peBodies_3_28, List.forall_mem_cons.mpr ⟨peBodies_4_24, List.forall_mem_cons.mpr ⟨peBodies_4_31, List.forall_mem_cons.mpr ⟨peBodies_4_40, List.forall_mem_cons.mpr ⟨peBodies_5_20, fun _ h => absurd h List.not_mem_nil⟩⟩⟩⟩⟩⟩⟩⟩⟩⟩⟩⟩
def kBodies_askSize : List am_E := [(0, .aload_n 0, [0], none),
  (1, .iconst 0, [], some (eI 0)),
  (2, .putfield 13, [], some (eF 10 1)),
  (5, .aload_n 0, [0], none),
  (6, .aload_n 1, [1], none),
  (7, .iload_n 2, [2], none),
  (8, .getstatic 17, [], some (eR (aR 12 0 1))),
  (11, .aload_n 1, [1], none),
  (12, .iload_n 2, [2], none),
  (13, .invokestatic 20, [], some (eC 2 3 0)),
  (16, .iconst 0, [], some (eI 0)),
  (17, .invokevirtual 24, [], some (eC 3 5 10)),
  (20, .ireturn, [], none)]
theorem okBodies_askSize : am_mok mBodies_askSize kBodies_askSize := ⟨by decide +kernel, plBodies, by decide +kernel, poBodies⟩
def kBodies_askMark : List am_E := [(0, .aload_n 0, [0], none),
  (1, .iconst 0, [], some (eI 0)),
  (2, .putfield 13, [], some (eF 10 1)),
  (5, .aload_n 0, [0], none),
  (6, .aload_n 1, [1], none),
  (7, .iload_n 2, [2], none),
  (8, .getstatic 28, [], some (eR (aR 12 0 2))),
  (11, .aload_n 1, [1], none),
  (12, .iload_n 2, [2], none),
  (13, .invokestatic 20, [], some (eC 2 3 0)),
  (16, .iconst 0, [], some (eI 0)),
  (17, .invokevirtual 24, [], some (eC 3 5 10)),
  (20, .ireturn, [], none)]
theorem okBodies_askMark : am_mok mBodies_askMark kBodies_askMark := ⟨by decide +kernel, plBodies, by decide +kernel, poBodies⟩
def kBodies_told : List am_E := [(0, .aload_n 1, [1], none),
  (1, .iload_n 2, [2], none),
  (2, .invokevirtual 31, [], some (eC 27 2 4)),
  (5, .ifCond .eq 12, [17], none),
  (8, .aload_n 1, [1], none),
  (9, .getfield 37, [], some (eF 4 5)),
  (12, .iload_n 2, [2], none),
  (13, .iaload, [], none),
  (14, .goto 4, [18], none),
  (17, .iconst 0, [], some (eI 0)),
  (18, .istore_n 3, [3], none),
  (19, .iload_n 3, [3], none),
  (20, .ifCond .lt 15, [35], none),
  (23, .iload_n 3, [3], none),
  (24, .aload_n 0, [0], none),
  (25, .arraylength, [], none),
  (26, .if_icmp .ge 9, [35], none),
  (29, .aload_n 0, [0], none),
  (30, .iload_n 3, [3], none),
  (31, .iaload, [], none),
  (32, .goto 4, [36], none),
  (35, .iconst 0, [], some (eI 0)),
  (36, .ireturn, [], none)]
theorem okBodies_told : am_mok mBodies_told kBodies_told := ⟨by decide +kernel, plBodies, by decide +kernel, poBodies⟩
def kBodies_answer : List am_E := [(0, .iload 4, [4], none),
  (2, .bipush 16, [], some (eI 16)),
  (4, .if_icmp .gt 11, [15], none),
  (7, .aload_n 1, [1], none),
  (8, .iload_n 2, [2], none),
  (9, .invokevirtual 31, [], some (eC 27 2 4)),
  (12, .ifCond .ne 5, [17], none),
  (15, .iconst 0, [], some (eI 0)),
  (16, .ireturn, [], none),
  (17, .aload_n 0, [0], none),
  (18, .iload_n 3, [3], none),
  (19, .invokevirtual 40, [], some (eC 4 2 10)),
  (22, .iload 4, [4], none),
  (24, .iconst 1, [], some (eI 1)),
  (25, .iadd, [], none),
  (26, .istore 5, [5], none),
  (28, .iload_n 3, [3], none),
  (29, .tableswitch 235 10 24 #[75, 82, 110, 123, 141, 235, 235, 235, 235, 235, 154, 156, 174, 192, 220], [264, 104, 10, 111, 11, 139, 12, 152, 13, 170, 14, 264, 15, 264, 16, 264, 17, 264, 18, 264, 19, 183, 20, 185, 21, 203, 22, 221, 23, 249, 24], none),
  (104, .aload_n 1, [1], none),
  (105, .getfield 44, [], some (eF 4 9)),
  (108, .iload_n 2, [2], none),
  (109, .iaload, [], none),
  (110, .ireturn, [], none),
  (111, .aload_n 0, [0], none),
  (112, .aload_n 1, [1], none),
  (113, .iload_n 2, [2], none),
  (114, .bipush 10, [], some (eI 10)),
  (116, .iload 5, [5], none),
  (118, .invokevirtual 24, [], some (eC 3 5 10)),
  (121, .aload_n 0, [0], none),
  (122, .aload_n 1, [1], none),
  (123, .iload_n 2, [2], none),
  (124, .getstatic 28, [], some (eR (aR 12 0 2))),
  (127, .aload_n 1, [1], none),
  (128, .iload_n 2, [2], none),
  (129, .invokestatic 20, [], some (eC 2 3 0)),
  (132, .iload 5, [5], none),
  (134, .invokevirtual 24, [], some (eC 3 5 10)),
  (137, .iadd, [], none),
  (138, .ireturn, [], none),
  (139, .iconst 0, [], some (eI 0)),
  (140, .aload_n 0, [0], none),
  (141, .aload_n 1, [1], none),
  (142, .iload_n 2, [2], none),
  (143, .bipush 11, [], some (eI 11)),
  (145, .iload 5, [5], none),
  (147, .invokevirtual 24, [], some (eC 3 5 10)),
  (150, .isub, [], none),
  (151, .ireturn, [], none),
  (152, .aload_n 0, [0], none),
  (153, .aload_n 1, [1], none),
  (154, .iload_n 2, [2], none),
  (155, .bipush 10, [], some (eI 10)),
  (157, .iload 5, [5], none),
  (159, .invokevirtual 24, [], some (eC 3 5 10)),
  (162, .aload_n 1, [1], none),
  (163, .getfield 47, [], some (eF 4 8)),
  (166, .iload_n 2, [2], none),
  (167, .iaload, [], none),
  (168, .isub, [], none),
  (169, .ireturn, [], none),
  (170, .iconst 2, [], some (eI 2)),
  (171, .aload_n 0, [0], none),
  (172, .aload_n 1, [1], none),
  (173, .iload_n 2, [2], none),
  (174, .bipush 13, [], some (eI 13)),
  (176, .iload 5, [5], none),
  (178, .invokevirtual 24, [], some (eC 3 5 10)),
  (181, .imul, [], none),
  (182, .ireturn, [], none),
  (183, .iload_n 2, [2], none),
  (184, .ireturn, [], none),
  (185, .aload_n 0, [0], none),
  (186, .aload_n 1, [1], none),
  (187, .iload_n 2, [2], none),
  (188, .bipush 20, [], some (eI 20)),
  (190, .iload 5, [5], none),
  (192, .invokevirtual 24, [], some (eC 3 5 10)),
  (195, .aload_n 1, [1], none),
  (196, .getfield 47, [], some (eF 4 8)),
  (199, .iload_n 2, [2], none),
  (200, .iaload, [], none),
  (201, .iadd, [], none),
  (202, .ireturn, [], none),
  (203, .aload_n 0, [0], none),
  (204, .aload_n 1, [1], none),
  (205, .iload_n 2, [2], none),
  (206, .bipush 20, [], some (eI 20)),
  (208, .iload 5, [5], none),
  (210, .invokevirtual 24, [], some (eC 3 5 10)),
  (213, .aload_n 1, [1], none),
  (214, .getfield 50, [], some (eF 4 6)),
  (217, .iload_n 2, [2], none),
  (218, .iaload, [], none),
  (219, .iadd, [], none),
  (220, .ireturn, [], none),
  (221, .aload_n 0, [0], none),
  (222, .aload_n 1, [1], none),
  (223, .iload_n 2, [2], none),
  (224, .bipush 20, [], some (eI 20)),
  (226, .iload 5, [5], none),
  (228, .invokevirtual 24, [], some (eC 3 5 10)),
  (231, .aload_n 0, [0], none),
  (232, .aload_n 1, [1], none),
  (233, .iload_n 2, [2], none),
  (234, .getstatic 17, [], some (eR (aR 12 0 1))),
  (237, .aload_n 1, [1], none),
  (238, .iload_n 2, [2], none),
  (239, .invokestatic 20, [], some (eC 2 3 0)),
  (242, .iload 5, [5], none),
  (244, .invokevirtual 24, [], some (eC 3 5 10)),
  (247, .isub, [], none),
  (248, .ireturn, [], none),
  (249, .aload_n 0, [0], none),
  (250, .aload_n 1, [1], none),
  (251, .iload_n 2, [2], none),
  (252, .bipush 21, [], some (eI 21)),
  (254, .iload 5, [5], none),
  (256, .invokevirtual 24, [], some (eC 3 5 10)),
  (259, .sipush 1000, [], some (eI 1000)),
  (262, .isub, [], none),
  (263, .ireturn, [], none),
  (264, .iconst 0, [], some (eI 0)),
  (265, .ireturn, [], none)]
theorem okBodies_answer : am_mok mBodies_answer kBodies_answer := ⟨by decide +kernel, plBodies, by decide +kernel, poBodies⟩
def kBodies_begin : List am_E := [(0, .aload_n 0, [0], none),
  (1, .getfield 13, [], some (eF 10 1)),
  (4, .bipush 16, [], some (eI 16)),
  (6, .if_icmp .lt 4, [10], none),
  (9, .return_, [], none),
  (10, .aload_n 0, [0], none),
  (11, .getfield 9, [], some (eF 10 0)),
  (14, .aload_n 0, [0], none),
  (15, .getfield 13, [], some (eF 10 1)),
  (18, .iload_n 1, [1], none),
  (19, .iastore, [], none),
  (20, .aload_n 0, [0], none),
  (21, .dup, [], none),
  (22, .getfield 13, [], some (eF 10 1)),
  (25, .iconst 1, [], some (eI 1)),
  (26, .iadd, [], none),
  (27, .putfield 13, [], some (eF 10 1)),
  (30, .return_, [], none)]
theorem okBodies_begin : am_mok mBodies_begin kBodies_begin := ⟨by decide +kernel, plBodies, by decide +kernel, poBodies⟩
end
section
theorem peCutter_0_7 : am_pk "PaperedOver$Cutter" 0 7 (eF 9 0) := ⟨(rc_9, tc_9, 3), rfl, by decide, (gm 340 (by decide +kernel) (by decide +kernel))⟩
theorem peCutter_0_13 : am_pk "PaperedOver$Cutter" 0 13 (eF 9 1) := ⟨(rc_9, tc_9, 3), rfl, by decide, (gm 342 (by decide +kernel) (by decide +kernel))⟩
theorem peCutter_0_16 : am_pk "PaperedOver$Cutter" 0 16 (eF 9 2) := ⟨(rc_9, tc_9, 3), rfl, by decide, (gm 344 (by decide +kernel) (by decide +kernel))⟩
theorem peCutter_0_35 : am_pk "PaperedOver$Cutter" 0 35 (eF 4 0) := ⟨(rc_4, tc_4, 14), rfl, by decide, (gm 117 (by decide +kernel) (by decide +kernel))⟩
theorem peCutter_0_45 : am_pk "PaperedOver$Cutter" 0 45 (eF 4 2) := ⟨(rc_4, tc_4, 14), rfl, by decide, (gm 124 (by decide +kernel) (by decide +kernel))⟩
theorem peCutter_0_49 : am_pk "PaperedOver$Cutter" 0 49 (eF 4 9) := ⟨(rc_4, tc_4, 14), rfl, by decide, (gm 145 (by decide +kernel) (by decide +kernel))⟩
theorem peCutter_0_52 : am_pk "PaperedOver$Cutter" 0 52 (eF 4 3) := ⟨(rc_4, tc_4, 14), rfl, by decide, (gm 126 (by decide +kernel) (by decide +kernel))⟩
theorem peCutter_4_21 : am_pk "PaperedOver$Cutter" 4 21 (eC 29 3 4) := ⟨2, rfl, wHouse_isOf, (gm 934 (by decide +kernel) (by decide +kernel)), vHouse_isOf.1, vHouse_isOf.2, Or.inl ⟨_, rfl, rfl⟩⟩
theorem peCutter_4_25 : am_pk "PaperedOver$Cutter" 4 25 (eC 6 3 9) := ⟨2, rfl, wCutter_widthOf, (gm 935 (by decide +kernel) (by decide +kernel)), vCutter_widthOf.1, vCutter_widthOf.2, Or.inl ⟨_, rfl, rfl⟩⟩
theorem peCutter_4_41 : am_pk "PaperedOver$Cutter" 4 41 (eC 7 4 9) := ⟨3, rfl, wCutter_cutWall, (gm 943 (by decide +kernel) (by decide +kernel)), vCutter_cutWall.1, vCutter_cutWall.2, Or.inl ⟨_, rfl, rfl⟩⟩
theorem peCutter_5_29 : am_pk "PaperedOver$Cutter" 5 29 (eC 123 2 0) := ⟨wMain_partsUp, sMain_partsUp, Or.inr (by decide +kernel)⟩
theorem peCutter_5_38 : am_pk "PaperedOver$Cutter" 5 38 (eC 121 2 0) := ⟨wMain_has, sMain_has, Or.inr (by decide +kernel)⟩
def plCutter : List (Nat × Nat × am_N) := [(0, 7, eF 9 0), (0, 13, eF 9 1), (0, 16, eF 9 2), (0, 35, eF 4 0), (0, 45, eF 4 2), (0, 49, eF 4 9), (0, 52, eF 4 3), (4, 21, eC 29 3 4), (4, 25, eC 6 3 9), (4, 41, eC 7 4 9), (5, 29, eC 123 2 0), (5, 38, eC 121 2 0)]
theorem poCutter : ∀ q ∈ plCutter, am_pk "PaperedOver$Cutter" q.1 q.2.1 q.2.2 := List.forall_mem_cons.mpr ⟨peCutter_0_7, List.forall_mem_cons.mpr ⟨peCutter_0_13, List.forall_mem_cons.mpr ⟨peCutter_0_16, List.forall_mem_cons.mpr ⟨peCutter_0_35, List.forall_mem_cons.mpr ⟨peCutter_0_45, List.forall_mem_cons.mpr ⟨peCutter_0_49, List.forall_mem_cons.mpr ⟨peCutter_0_52, List.forall_mem_cons.mpr ⟨peCutter_4_21, List.forall_mem_cons.mpr ⟨peCutter_4_25, List.forall_mem_cons.mpr ⟨peCutter_4_41, List.forall_mem_cons.mpr ⟨peCutter_5_29, List.forall_mem_cons.mpr ⟨peCutter_5_38, fun _ h => absurd h List.not_mem_nil⟩⟩⟩⟩⟩⟩⟩⟩⟩⟩⟩⟩
def kCutter_cut : List am_E := [(0, .aload_n 0, [0], none),
  (1, .iconst 0, [], some (eI 0)),
  (2, .putfield 7, [], some (eF 9 0)),
  (5, .aload_n 0, [0], none),
  (6, .iconst 0, [], some (eI 0)),
  (7, .putfield 13, [], some (eF 9 1)),
  (10, .aload_n 0, [0], none),
  (11, .iconst 0, [], some (eI 0)),
  (12, .putfield 16, [], some (eF 9 2)),
  (15, .aload_n 1, [1], none),
  (16, .iload_n 2, [2], none),
  (17, .iconst 5, [], some (eI 5)),
  (18, .invokevirtual 21, [], some (eC 29 3 4)),
  (21, .ifCond .eq 20, [41], none),
  (24, .aload_n 0, [0], none),
  (25, .aload_n 0, [0], none),
  (26, .aload_n 1, [1], none),
  (27, .iload_n 3, [3], none),
  (28, .invokevirtual 25, [], some (eC 6 3 9)),
  (31, .sipush 500, [], some (eI 500)),
  (34, .invokestatic 29, [], some (eC 123 2 0)),
  (37, .putfield 13, [], some (eF 9 1)),
  (40, .return_, [], none),
  (41, .iconst 0, [], some (eI 0)),
  (42, .istore 4, [4], none),
  (44, .iload 4, [4], none),
  (46, .aload_n 1, [1], none),
  (47, .getfield 35, [], some (eF 4 0)),
  (50, .if_icmp .ge 26, [76], none),
  (53, .iload_n 3, [3], none),
  (54, .iload 4, [4], none),
  (56, .invokestatic 38, [], some (eC 121 2 0)),
  (59, .ifCond .eq 11, [70], none),
  (62, .aload_n 0, [0], none),
  (63, .aload_n 1, [1], none),
  (64, .iload_n 2, [2], none),
  (65, .iload 4, [4], none),
  (67, .invokevirtual 41, [], some (eC 7 4 9)),
  (70, .iinc 4 1, [4], some (eI 1)),
  (73, .goto (-29), [44], none),
  (76, .return_, [], none)]
theorem okCutter_cut : am_mok mCutter_cut kCutter_cut := ⟨by decide +kernel, plCutter, by decide +kernel, poCutter⟩
def kCutter_widthOf : List am_E := [(0, .iconst 0, [], some (eI 0)),
  (1, .istore_n 3, [3], none),
  (2, .iconst 0, [], some (eI 0)),
  (3, .istore 4, [4], none),
  (5, .iload 4, [4], none),
  (7, .aload_n 1, [1], none),
  (8, .getfield 35, [], some (eF 4 0)),
  (11, .if_icmp .ge 28, [39], none),
  (14, .iload_n 2, [2], none),
  (15, .iload 4, [4], none),
  (17, .invokestatic 38, [], some (eC 121 2 0)),
  (20, .ifCond .eq 13, [33], none),
  (23, .iload_n 3, [3], none),
  (24, .aload_n 1, [1], none),
  (25, .getfield 45, [], some (eF 4 2)),
  (28, .iload 4, [4], none),
  (30, .iaload, [], none),
  (31, .iadd, [], none),
  (32, .istore_n 3, [3], none),
  (33, .iinc 4 1, [4], some (eI 1)),
  (36, .goto (-31), [5], none),
  (39, .iload_n 3, [3], none),
  (40, .ireturn, [], none)]
theorem okCutter_widthOf : am_mok mCutter_widthOf kCutter_widthOf := ⟨by decide +kernel, plCutter, by decide +kernel, poCutter⟩
def kCutter_cutWall : List am_E := [(0, .aload_n 1, [1], none),
  (1, .getfield 49, [], some (eF 4 9)),
  (4, .iload_n 2, [2], none),
  (5, .iaload, [], none),
  (6, .istore 4, [4], none),
  (8, .aload_n 1, [1], none),
  (9, .getfield 52, [], some (eF 4 3)),
  (12, .iload_n 3, [3], none),
  (13, .iaload, [], none),
  (14, .iload 4, [4], none),
  (16, .invokestatic 29, [], some (eC 123 2 0)),
  (19, .iload 4, [4], none),
  (21, .imul, [], none),
  (22, .istore 5, [5], none),
  (24, .aload_n 1, [1], none),
  (25, .getfield 45, [], some (eF 4 2)),
  (28, .iload_n 3, [3], none),
  (29, .iaload, [], none),
  (30, .bipush 50, [], some (eI 50)),
  (32, .invokestatic 29, [], some (eC 123 2 0)),
  (35, .istore 6, [6], none),
  (37, .iconst 0, [], some (eI 0)),
  (38, .istore 7, [7], none),
  (40, .iload 7, [7], none),
  (42, .iload 6, [6], none),
  (44, .if_icmp .ge 56, [100], none),
  (47, .aload_n 0, [0], none),
  (48, .getfield 16, [], some (eF 9 2)),
  (51, .iload 5, [5], none),
  (53, .if_icmp .ge 20, [73], none),
  (56, .aload_n 0, [0], none),
  (57, .dup, [], none),
  (58, .getfield 13, [], some (eF 9 1)),
  (61, .iconst 1, [], some (eI 1)),
  (62, .iadd, [], none),
  (63, .putfield 13, [], some (eF 9 1)),
  (66, .aload_n 0, [0], none),
  (67, .sipush 1000, [], some (eI 1000)),
  (70, .putfield 16, [], some (eF 9 2)),
  (73, .aload_n 0, [0], none),
  (74, .dup, [], none),
  (75, .getfield 16, [], some (eF 9 2)),
  (78, .iload 5, [5], none),
  (80, .isub, [], none),
  (81, .putfield 16, [], some (eF 9 2)),
  (84, .aload_n 0, [0], none),
  (85, .dup, [], none),
  (86, .getfield 7, [], some (eF 9 0)),
  (89, .iconst 1, [], some (eI 1)),
  (90, .iadd, [], none),
  (91, .putfield 7, [], some (eF 9 0)),
  (94, .iinc 7 1, [7], some (eI 1)),
  (97, .goto (-57), [40], none),
  (100, .return_, [], none)]
theorem okCutter_cutWall : am_mok mCutter_cutWall kCutter_cutWall := ⟨by decide +kernel, plCutter, by decide +kernel, poCutter⟩
end
section
theorem peFacts_0_9 : am_pk "PaperedOver$Facts" 0 9 (eF 7 4) := ⟨(rc_7, tc_7, 11), rfl, by decide, (gm 274 (by decide +kernel) (by decide +kernel))⟩
theorem peFacts_0_15 : am_pk "PaperedOver$Facts" 0 15 (eF 7 5) := ⟨(rc_7, tc_7, 11), rfl, by decide, (gm 276 (by decide +kernel) (by decide +kernel))⟩
theorem peFacts_0_18 : am_pk "PaperedOver$Facts" 0 18 (eF 7 6) := ⟨(rc_7, tc_7, 11), rfl, by decide, (gm 277 (by decide +kernel) (by decide +kernel))⟩
theorem peFacts_0_21 : am_pk "PaperedOver$Facts" 0 21 (eF 7 7) := ⟨(rc_7, tc_7, 11), rfl, by decide, (gm 280 (by decide +kernel) (by decide +kernel))⟩
theorem peFacts_0_24 : am_pk "PaperedOver$Facts" 0 24 (eF 7 9) := ⟨(rc_7, tc_7, 11), rfl, by decide, (gm 284 (by decide +kernel) (by decide +kernel))⟩
theorem peFacts_0_27 : am_pk "PaperedOver$Facts" 0 27 (eF 7 10) := ⟨(rc_7, tc_7, 11), rfl, by decide, (gm 286 (by decide +kernel) (by decide +kernel))⟩
theorem peFacts_0_30 : am_pk "PaperedOver$Facts" 0 30 (eF 7 0) := ⟨(rc_7, tc_7, 11), rfl, by decide, (gm 267 (by decide +kernel) (by decide +kernel))⟩
theorem peFacts_0_34 : am_pk "PaperedOver$Facts" 0 34 (eF 7 1) := ⟨(rc_7, tc_7, 11), rfl, by decide, (gm 268 (by decide +kernel) (by decide +kernel))⟩
theorem peFacts_0_38 : am_pk "PaperedOver$Facts" 0 38 (eF 7 3) := ⟨(rc_7, tc_7, 11), rfl, by decide, (gm 272 (by decide +kernel) (by decide +kernel))⟩
theorem peFacts_0_48 : am_pk "PaperedOver$Facts" 0 48 (eF 7 8) := ⟨(rc_7, tc_7, 11), rfl, by decide, (gm 282 (by decide +kernel) (by decide +kernel))⟩
theorem peFacts_0_65 : am_pk "PaperedOver$Facts" 0 65 (eF 7 2) := ⟨(rc_7, tc_7, 11), rfl, by decide, (gm 270 (by decide +kernel) (by decide +kernel))⟩
theorem peFacts_0_74 : am_pk "PaperedOver$Facts" 0 74 (eF 5 0) := ⟨(rc_5, tc_5, 4), rfl, by decide, (gm 224 (by decide +kernel) (by decide +kernel))⟩
theorem peFacts_0_83 : am_pk "PaperedOver$Facts" 0 83 (eF 5 1) := ⟨(rc_5, tc_5, 4), rfl, by decide, (gm 227 (by decide +kernel) (by decide +kernel))⟩
theorem peFacts_0_86 : am_pk "PaperedOver$Facts" 0 86 (eF 5 2) := ⟨(rc_5, tc_5, 4), rfl, by decide, (gm 230 (by decide +kernel) (by decide +kernel))⟩
theorem peFacts_0_111 : am_pk "PaperedOver$Facts" 0 111 (eF 4 6) := ⟨(rc_4, tc_4, 14), rfl, by decide, (gm 135 (by decide +kernel) (by decide +kernel))⟩
theorem peFacts_0_114 : am_pk "PaperedOver$Facts" 0 114 (eF 4 0) := ⟨(rc_4, tc_4, 14), rfl, by decide, (gm 120 (by decide +kernel) (by decide +kernel))⟩
theorem peFacts_0_116 : am_pk "PaperedOver$Facts" 0 116 (eF 4 1) := ⟨(rc_4, tc_4, 14), rfl, by decide, (gm 122 (by decide +kernel) (by decide +kernel))⟩
theorem peFacts_0_127 : am_pk "PaperedOver$Facts" 0 127 (eF 4 7) := ⟨(rc_4, tc_4, 14), rfl, by decide, (gm 138 (by decide +kernel) (by decide +kernel))⟩
theorem peFacts_0_133 : am_pk "PaperedOver$Facts" 0 133 (eF 4 10) := ⟨(rc_4, tc_4, 14), rfl, by decide, (gm 150 (by decide +kernel) (by decide +kernel))⟩
theorem peFacts_0_136 : am_pk "PaperedOver$Facts" 0 136 (eF 4 11) := ⟨(rc_4, tc_4, 14), rfl, by decide, (gm 153 (by decide +kernel) (by decide +kernel))⟩
theorem peFacts_0_139 : am_pk "PaperedOver$Facts" 0 139 (eF 4 12) := ⟨(rc_4, tc_4, 14), rfl, by decide, (gm 155 (by decide +kernel) (by decide +kernel))⟩
theorem peFacts_0_142 : am_pk "PaperedOver$Facts" 0 142 (eF 4 13) := ⟨(rc_4, tc_4, 14), rfl, by decide, (gm 157 (by decide +kernel) (by decide +kernel))⟩
theorem peFacts_0_145 : am_pk "PaperedOver$Facts" 0 145 (eF 4 8) := ⟨(rc_4, tc_4, 14), rfl, by decide, (gm 143 (by decide +kernel) (by decide +kernel))⟩
theorem peFacts_4_42 : am_pk "PaperedOver$Facts" 4 42 (eC 10 1 7) := ⟨0, rfl, wFacts_gather, (gm 658 (by decide +kernel) (by decide +kernel)), vFacts_gather.1, vFacts_gather.2, Or.inl ⟨_, rfl, rfl⟩⟩
theorem peFacts_4_45 : am_pk "PaperedOver$Facts" 4 45 (eC 12 1 7) := ⟨0, rfl, wFacts_close, (gm 678 (by decide +kernel) (by decide +kernel)), vFacts_close.1, vFacts_close.2, Or.inl ⟨_, rfl, rfl⟩⟩
theorem peFacts_4_51 : am_pk "PaperedOver$Facts" 4 51 (eC 8 1 7) := ⟨0, rfl, wFacts_hasRing, (gm 686 (by decide +kernel) (by decide +kernel)), vFacts_hasRing.1, vFacts_hasRing.2, Or.inl ⟨_, rfl, rfl⟩⟩
theorem peFacts_4_55 : am_pk "PaperedOver$Facts" 4 55 (eC 14 1 7) := ⟨0, rfl, wFacts_arrange, (gm 690 (by decide +kernel) (by decide +kernel)), vFacts_arrange.1, vFacts_arrange.2, Or.inl ⟨_, rfl, rfl⟩⟩
theorem peFacts_4_58 : am_pk "PaperedOver$Facts" 4 58 (eC 16 2 7) := ⟨1, rfl, wFacts_dateLeast, (gm 702 (by decide +kernel) (by decide +kernel)), vFacts_dateLeast.1, vFacts_dateLeast.2, Or.inl ⟨_, rfl, rfl⟩⟩
theorem peFacts_4_62 : am_pk "PaperedOver$Facts" 4 62 (eC 17 2 7) := ⟨1, rfl, wFacts_dateMost, (gm 709 (by decide +kernel) (by decide +kernel)), vFacts_dateMost.1, vFacts_dateMost.2, Or.inl ⟨_, rfl, rfl⟩⟩
theorem peFacts_4_79 : am_pk "PaperedOver$Facts" 4 79 (eC 11 2 7) := ⟨1, rfl, wFacts_at, (gm 665 (by decide +kernel) (by decide +kernel)), vFacts_at.1, vFacts_at.2, Or.inl ⟨_, rfl, rfl⟩⟩
theorem peFacts_4_89 : am_pk "PaperedOver$Facts" 4 89 (eC 75 3 5) := ⟨2, rfl, wSpots_layer, (gm 669 (by decide +kernel) (by decide +kernel)), vSpots_layer.1, vSpots_layer.2, Or.inl ⟨_, rfl, rfl⟩⟩
theorem peFacts_4_105 : am_pk "PaperedOver$Facts" 4 105 (eC 15 2 7) := ⟨1, rfl, wFacts_leastThatFollows, (gm 694 (by decide +kernel) (by decide +kernel)), vFacts_leastThatFollows.1, vFacts_leastThatFollows.2, Or.inl ⟨_, rfl, rfl⟩⟩
theorem peFacts_4_108 : am_pk "PaperedOver$Facts" 4 108 (eC 13 3 7) := ⟨2, rfl, wFacts_canFollow, (gm 698 (by decide +kernel) (by decide +kernel)), vFacts_canFollow.1, vFacts_canFollow.2, Or.inl ⟨_, rfl, rfl⟩⟩
theorem peFacts_4_124 : am_pk "PaperedOver$Facts" 4 124 (eC 29 3 4) := ⟨2, rfl, wHouse_isOf, (gm 713 (by decide +kernel) (by decide +kernel)), vHouse_isOf.1, vHouse_isOf.2, Or.inl ⟨_, rfl, rfl⟩⟩
theorem peFacts_5_68 : am_pk "PaperedOver$Facts" 5 68 (eC 209 2 0) := ⟨wArr_fill2, sArr_fill2, Or.inl (gm 662 (by decide +kernel) (by decide +kernel))⟩
theorem peFacts_5_93 : am_pk "PaperedOver$Facts" 5 93 (eX) := ⟨(gm 682 (by decide +kernel) (by decide +kernel)), (gm 473 (by decide +kernel) (by decide +kernel)), (gm 472 (by decide +kernel) (by decide +kernel)), (gm 54 (by decide +kernel) (by decide +kernel))⟩
theorem peFacts_5_99 : am_pk "PaperedOver$Facts" 5 99 (eC 121 2 0) := ⟨wMain_has, sMain_has, Or.inr (by decide +kernel)⟩
theorem peFacts_5_119 : am_pk "PaperedOver$Facts" 5 119 (eC 200 2 0) := ⟨wMath_max, sMath_max, Or.inl (gm 706 (by decide +kernel) (by decide +kernel))⟩
theorem peFacts_5_130 : am_pk "PaperedOver$Facts" 5 130 (eC 201 2 0) := ⟨wMath_min, sMath_min, Or.inl (gm 726 (by decide +kernel) (by decide +kernel))⟩
def plFacts : List (Nat × Nat × am_N) := [(0, 9, eF 7 4), (0, 15, eF 7 5), (0, 18, eF 7 6), (0, 21, eF 7 7), (0, 24, eF 7 9), (0, 27, eF 7 10), (0, 30, eF 7 0), (0, 34, eF 7 1), (0, 38, eF 7 3), (0, 48, eF 7 8), (0, 65, eF 7 2), (0, 74, eF 5 0), (0, 83, eF 5 1), (0, 86, eF 5 2), (0, 111, eF 4 6), (0, 114, eF 4 0), (0, 116, eF 4 1), (0, 127, eF 4 7), (0, 133, eF 4 10), (0, 136, eF 4 11), (0, 139, eF 4 12), (0, 142, eF 4 13), (0, 145, eF 4 8), (4, 42, eC 10 1 7), (4, 45, eC 12 1 7), (4, 51, eC 8 1 7), (4, 55, eC 14 1 7), (4, 58, eC 16 2 7), (4, 62, eC 17 2 7), (4, 79, eC 11 2 7), (4, 89, eC 75 3 5), (4, 105, eC 15 2 7), (4, 108, eC 13 3 7), (4, 124, eC 29 3 4), (5, 68, eC 209 2 0), (5, 93, eX), (5, 99, eC 121 2 0), (5, 119, eC 200 2 0), (5, 130, eC 201 2 0)]
theorem poFacts : ∀ q ∈ plFacts, am_pk "PaperedOver$Facts" q.1 q.2.1 q.2.2 := List.forall_mem_cons.mpr ⟨peFacts_0_9, List.forall_mem_cons.mpr ⟨peFacts_0_15, List.forall_mem_cons.mpr ⟨peFacts_0_18, List.forall_mem_cons.mpr ⟨peFacts_0_21, List.forall_mem_cons.mpr ⟨peFacts_0_24, List.forall_mem_cons.mpr ⟨peFacts_0_27, List.forall_mem_cons.mpr ⟨peFacts_0_30, List.forall_mem_cons.mpr ⟨peFacts_0_34, List.forall_mem_cons.mpr ⟨peFacts_0_38, List.forall_mem_cons.mpr ⟨peFacts_0_48, List.forall_mem_cons.mpr ⟨peFacts_0_65, List.forall_mem_cons.mpr ⟨peFacts_0_74, List.forall_mem_cons.mpr ⟨peFacts_0_83, List.forall_mem_cons.mpr ⟨peFacts_0_86, List.forall_mem_cons.mpr ⟨peFacts_0_111, List.forall_mem_cons.mpr ⟨peFacts_0_114, List.forall_mem_cons.mpr ⟨peFacts_0_116, List.forall_mem_cons.mpr ⟨peFacts_0_127, List.forall_mem_cons.mpr ⟨peFacts_0_133, List.forall_mem_cons.mpr ⟨peFacts_0_136, List.forall_mem_cons.mpr ⟨peFacts_0_139, List.forall_mem_cons.mpr ⟨peFacts_0_142, List.forall_mem_cons.mpr ⟨peFacts_0_145, List.forall_mem_cons.mpr ⟨peFacts_4_42, List.forall_mem_cons.mpr ⟨peFacts_4_45, List.forall_mem_cons.mpr ⟨peFacts_4_51, List.forall_mem_cons.mpr ⟨peFacts_4_55, List.forall_mem_cons.mpr ⟨peFacts_4_58, List.forall_mem_cons.mpr ⟨peFacts_4_62, List.forall_mem_cons.mpr ⟨peFacts_4_79, List.forall_mem_cons.mpr ⟨peFacts_4_89, List.forall_mem_cons.mpr ⟨peFacts_4_105, List.forall_mem_cons.mpr ⟨peFacts_4_108, List.forall_mem_cons.mpr ⟨peFacts_4_124, List.forall_mem_cons.mpr ⟨peFacts_5_68, List.forall_mem_cons.mpr ⟨peFacts_5_93, List.forall_mem_cons.mpr ⟨peFacts_5_99, List.forall_mem_cons.mpr ⟨peFacts_5_119, List.forall_mem_cons.mpr ⟨peFacts_5_130, fun _ h => absurd h List.not_mem_nil⟩⟩⟩⟩⟩⟩⟩⟩⟩⟩⟩⟩⟩⟩⟩⟩⟩⟩⟩⟩⟩⟩⟩⟩⟩⟩⟩⟩⟩⟩⟩⟩⟩⟩⟩⟩⟩⟩⟩
def kFacts_hasRing : List am_E := [(0, .aload_n 0, [0], none),
  (1, .getfield 38, [], some (eF 7 3)),
  (4, .ifCond .eq 7, [11], none),
  (7, .iconst 1, [], some (eI 1)),
  (8, .goto 4, [12], none),
  (11, .iconst 0, [], some (eI 0)),
  (12, .ireturn, [], none)]
theorem okFacts_hasRing : am_mok mFacts_hasRing kFacts_hasRing := ⟨by decide +kernel, plFacts, by decide +kernel, poFacts⟩
def kFacts_learn : List am_E := [(0, .aload_n 0, [0], none),
  (1, .invokevirtual 42, [], some (eC 10 1 7)),
  (4, .aload_n 0, [0], none),
  (5, .invokevirtual 45, [], some (eC 12 1 7)),
  (8, .aload_n 0, [0], none),
  (9, .iconst 0, [], some (eI 0)),
  (10, .putfield 48, [], some (eF 7 8)),
  (13, .aload_n 0, [0], none),
  (14, .invokevirtual 51, [], some (eC 8 1 7)),
  (17, .ifCond .eq 4, [21], none),
  (20, .return_, [], none),
  (21, .aload_n 0, [0], none),
  (22, .invokevirtual 55, [], some (eC 14 1 7)),
  (25, .iconst 0, [], some (eI 0)),
  (26, .istore_n 1, [1], none),
  (27, .iload_n 1, [1], none),
  (28, .aload_n 0, [0], none),
  (29, .getfield 48, [], some (eF 7 8)),
  (32, .if_icmp .ge 19, [51], none),
  (35, .aload_n 0, [0], none),
  (36, .aload_n 0, [0], none),
  (37, .getfield 21, [], some (eF 7 7)),
  (40, .iload_n 1, [1], none),
  (41, .iaload, [], none),
  (42, .invokevirtual 58, [], some (eC 16 2 7)),
  (45, .iinc 1 1, [1], some (eI 1)),
  (48, .goto (-21), [27], none),
  (51, .aload_n 0, [0], none),
  (52, .getfield 48, [], some (eF 7 8)),
  (55, .iconst 1, [], some (eI 1)),
  (56, .isub, [], none),
  (57, .istore_n 1, [1], none),
  (58, .iload_n 1, [1], none),
  (59, .ifCond .lt 19, [78], none),
  (62, .aload_n 0, [0], none),
  (63, .aload_n 0, [0], none),
  (64, .getfield 21, [], some (eF 7 7)),
  (67, .iload_n 1, [1], none),
  (68, .iaload, [], none),
  (69, .invokevirtual 62, [], some (eC 17 2 7)),
  (72, .iinc 1 (-1), [1], some (eI (-1))),
  (75, .goto (-17), [58], none),
  (78, .return_, [], none)]
theorem okFacts_learn : am_mok mFacts_learn kFacts_learn := ⟨by decide +kernel, plFacts, by decide +kernel, poFacts⟩
def kFacts_gather : List am_E := [(0, .aload_n 0, [0], none),
  (1, .iconst 0, [], some (eI 0)),
  (2, .putfield 65, [], some (eF 7 2)),
  (5, .aload_n 0, [0], none),
  (6, .getfield 9, [], some (eF 7 4)),
  (9, .iconst 0, [], some (eI 0)),
  (10, .invokestatic 68, [], some (eC 209 2 0)),
  (13, .aload_n 0, [0], none),
  (14, .getfield 15, [], some (eF 7 5)),
  (17, .iconst 0, [], some (eI 0)),
  (18, .invokestatic 68, [], some (eC 209 2 0)),
  (21, .iconst 0, [], some (eI 0)),
  (22, .istore_n 1, [1], none),
  (23, .iload_n 1, [1], none),
  (24, .aload_n 0, [0], none),
  (25, .getfield 34, [], some (eF 7 1)),
  (28, .getfield 74, [], some (eF 5 0)),
  (31, .if_icmp .ge 94, [125], none),
  (34, .aload_n 0, [0], none),
  (35, .iload_n 1, [1], none),
  (36, .invokevirtual 79, [], some (eC 11 2 7)),
  (39, .istore_n 2, [2], none),
  (40, .aload_n 0, [0], none),
  (41, .dup, [], none),
  (42, .getfield 65, [], some (eF 7 2)),
  (45, .iload_n 2, [2], none),
  (46, .ior, [], none),
  (47, .putfield 65, [], some (eF 7 2)),
  (50, .aload_n 0, [0], none),
  (51, .getfield 9, [], some (eF 7 4)),
  (54, .aload_n 0, [0], none),
  (55, .getfield 34, [], some (eF 7 1)),
  (58, .getfield 83, [], some (eF 5 1)),
  (61, .iload_n 1, [1], none),
  (62, .iaload, [], none),
  (63, .dup2, [], none),
  (64, .iaload, [], none),
  (65, .iload_n 2, [2], none),
  (66, .ior, [], none),
  (67, .iastore, [], none),
  (68, .iconst 1, [], some (eI 1)),
  (69, .istore_n 3, [3], none),
  (70, .iload_n 3, [3], none),
  (71, .aload_n 0, [0], none),
  (72, .getfield 34, [], some (eF 7 1)),
  (75, .getfield 86, [], some (eF 5 2)),
  (78, .iload_n 1, [1], none),
  (79, .iaload, [], none),
  (80, .if_icmp .ge 39, [119], none),
  (83, .aload_n 0, [0], none),
  (84, .getfield 15, [], some (eF 7 5)),
  (87, .aload_n 0, [0], none),
  (88, .getfield 34, [], some (eF 7 1)),
  (91, .iload_n 1, [1], none),
  (92, .iload_n 3, [3], none),
  (93, .invokevirtual 89, [], some (eC 75 3 5)),
  (96, .dup2, [], none),
  (97, .iaload, [], none),
  (98, .iconst 1, [], some (eI 1)),
  (99, .aload_n 0, [0], none),
  (100, .getfield 34, [], some (eF 7 1)),
  (103, .iload_n 1, [1], none),
  (104, .iload_n 3, [3], none),
  (105, .iconst 1, [], some (eI 1)),
  (106, .isub, [], none),
  (107, .invokevirtual 89, [], some (eC 75 3 5)),
  (110, .ishl, [], none),
  (111, .ior, [], none),
  (112, .iastore, [], none),
  (113, .iinc 3 1, [3], some (eI 1)),
  (116, .goto (-46), [70], none),
  (119, .iinc 1 1, [1], some (eI 1)),
  (122, .goto (-99), [23], none),
  (125, .return_, [], none)]
theorem okFacts_gather : am_mok mFacts_gather kFacts_gather := ⟨by decide +kernel, plFacts, by decide +kernel, poFacts⟩
def kFacts_at : List am_E := [(0, .iconst 0, [], some (eI 0)),
  (1, .istore_n 2, [2], none),
  (2, .iconst 0, [], some (eI 0)),
  (3, .istore_n 3, [3], none),
  (4, .iload_n 3, [3], none),
  (5, .aload_n 0, [0], none),
  (6, .getfield 34, [], some (eF 7 1)),
  (9, .getfield 86, [], some (eF 5 2)),
  (12, .iload_n 1, [1], none),
  (13, .iaload, [], none),
  (14, .if_icmp .ge 23, [37], none),
  (17, .iload_n 2, [2], none),
  (18, .iconst 1, [], some (eI 1)),
  (19, .aload_n 0, [0], none),
  (20, .getfield 34, [], some (eF 7 1)),
  (23, .iload_n 1, [1], none),
  (24, .iload_n 3, [3], none),
  (25, .invokevirtual 89, [], some (eC 75 3 5)),
  (28, .ishl, [], none),
  (29, .ior, [], none),
  (30, .istore_n 2, [2], none),
  (31, .iinc 3 1, [3], some (eI 1)),
  (34, .goto (-30), [4], none),
  (37, .iload_n 2, [2], none),
  (38, .ireturn, [], none)]
theorem okFacts_at : am_mok mFacts_at kFacts_at := ⟨by decide +kernel, plFacts, by decide +kernel, poFacts⟩
def kFacts_close : List am_E := [(0, .aload_n 0, [0], none),
  (1, .getfield 15, [], some (eF 7 5)),
  (4, .iconst 0, [], some (eI 0)),
  (5, .aload_n 0, [0], none),
  (6, .getfield 18, [], some (eF 7 6)),
  (9, .iconst 0, [], some (eI 0)),
  (10, .bipush 10, [], some (eI 10)),
  (12, .invokestatic 93, [], some (eX)),
  (15, .iconst 0, [], some (eI 0)),
  (16, .istore_n 1, [1], none),
  (17, .iload_n 1, [1], none),
  (18, .bipush 10, [], some (eI 10)),
  (20, .if_icmp .ge 51, [71], none),
  (23, .iconst 0, [], some (eI 0)),
  (24, .istore_n 2, [2], none),
  (25, .iload_n 2, [2], none),
  (26, .bipush 10, [], some (eI 10)),
  (28, .if_icmp .ge 37, [65], none),
  (31, .aload_n 0, [0], none),
  (32, .getfield 18, [], some (eF 7 6)),
  (35, .iload_n 2, [2], none),
  (36, .iaload, [], none),
  (37, .iload_n 1, [1], none),
  (38, .invokestatic 99, [], some (eC 121 2 0)),
  (41, .ifCond .eq 18, [59], none),
  (44, .aload_n 0, [0], none),
  (45, .getfield 18, [], some (eF 7 6)),
  (48, .iload_n 2, [2], none),
  (49, .dup2, [], none),
  (50, .iaload, [], none),
  (51, .aload_n 0, [0], none),
  (52, .getfield 18, [], some (eF 7 6)),
  (55, .iload_n 1, [1], none),
  (56, .iaload, [], none),
  (57, .ior, [], none),
  (58, .iastore, [], none),
  (59, .iinc 2 1, [2], some (eI 1)),
  (62, .goto (-37), [25], none),
  (65, .iinc 1 1, [1], some (eI 1)),
  (68, .goto (-51), [17], none),
  (71, .aload_n 0, [0], none),
  (72, .iconst 0, [], some (eI 0)),
  (73, .putfield 38, [], some (eF 7 3)),
  (76, .iconst 0, [], some (eI 0)),
  (77, .istore_n 1, [1], none),
  (78, .iload_n 1, [1], none),
  (79, .bipush 10, [], some (eI 10)),
  (81, .if_icmp .ge 34, [115], none),
  (84, .aload_n 0, [0], none),
  (85, .getfield 18, [], some (eF 7 6)),
  (88, .iload_n 1, [1], none),
  (89, .iaload, [], none),
  (90, .iload_n 1, [1], none),
  (91, .invokestatic 99, [], some (eC 121 2 0)),
  (94, .ifCond .eq 15, [109], none),
  (97, .aload_n 0, [0], none),
  (98, .dup, [], none),
  (99, .getfield 38, [], some (eF 7 3)),
  (102, .iconst 1, [], some (eI 1)),
  (103, .iload_n 1, [1], none),
  (104, .ishl, [], none),
  (105, .ior, [], none),
  (106, .putfield 38, [], some (eF 7 3)),
  (109, .iinc 1 1, [1], some (eI 1)),
  (112, .goto (-34), [78], none),
  (115, .return_, [], none)]
theorem okFacts_close : am_mok mFacts_close kFacts_close := ⟨by decide +kernel, plFacts, by decide +kernel, poFacts⟩
def kFacts_canFollow : List am_E := [(0, .aload_n 0, [0], none),
  (1, .getfield 65, [], some (eF 7 2)),
  (4, .iload_n 1, [1], none),
  (5, .iconst (-1), [], some (eI (-1))),
  (6, .ixor, [], none),
  (7, .iand, [], none),
  (8, .iload_n 2, [2], none),
  (9, .invokestatic 99, [], some (eC 121 2 0)),
  (12, .ifCond .eq 20, [32], none),
  (15, .aload_n 0, [0], none),
  (16, .getfield 15, [], some (eF 7 5)),
  (19, .iload_n 2, [2], none),
  (20, .iaload, [], none),
  (21, .iload_n 1, [1], none),
  (22, .iconst (-1), [], some (eI (-1))),
  (23, .ixor, [], none),
  (24, .iand, [], none),
  (25, .ifCond .ne 7, [32], none),
  (28, .iconst 1, [], some (eI 1)),
  (29, .goto 4, [33], none),
  (32, .iconst 0, [], some (eI 0)),
  (33, .ireturn, [], none)]
theorem okFacts_canFollow : am_mok mFacts_canFollow kFacts_canFollow := ⟨by decide +kernel, plFacts, by decide +kernel, poFacts⟩
def kFacts_arrange : List am_E := [(0, .iconst 0, [], some (eI 0)),
  (1, .istore_n 1, [1], none),
  (2, .iconst 0, [], some (eI 0)),
  (3, .istore_n 2, [2], none),
  (4, .iload_n 2, [2], none),
  (5, .bipush 10, [], some (eI 10)),
  (7, .if_icmp .ge 46, [53], none),
  (10, .aload_n 0, [0], none),
  (11, .iload_n 1, [1], none),
  (12, .invokevirtual 105, [], some (eC 15 2 7)),
  (15, .istore_n 3, [3], none),
  (16, .iload_n 3, [3], none),
  (17, .ifCond .ge 4, [21], none),
  (20, .return_, [], none),
  (21, .aload_n 0, [0], none),
  (22, .getfield 21, [], some (eF 7 7)),
  (25, .aload_n 0, [0], none),
  (26, .getfield 48, [], some (eF 7 8)),
  (29, .iload_n 3, [3], none),
  (30, .iastore, [], none),
  (31, .aload_n 0, [0], none),
  (32, .dup, [], none),
  (33, .getfield 48, [], some (eF 7 8)),
  (36, .iconst 1, [], some (eI 1)),
  (37, .iadd, [], none),
  (38, .putfield 48, [], some (eF 7 8)),
  (41, .iload_n 1, [1], none),
  (42, .iconst 1, [], some (eI 1)),
  (43, .iload_n 3, [3], none),
  (44, .ishl, [], none),
  (45, .ior, [], none),
  (46, .istore_n 1, [1], none),
  (47, .iinc 2 1, [2], some (eI 1)),
  (50, .goto (-46), [4], none),
  (53, .return_, [], none)]
theorem okFacts_arrange : am_mok mFacts_arrange kFacts_arrange := ⟨by decide +kernel, plFacts, by decide +kernel, poFacts⟩
def kFacts_leastThatFollows : List am_E := [(0, .iconst 0, [], some (eI 0)),
  (1, .istore_n 2, [2], none),
  (2, .iload_n 2, [2], none),
  (3, .bipush 10, [], some (eI 10)),
  (5, .if_icmp .ge 20, [25], none),
  (8, .aload_n 0, [0], none),
  (9, .iload_n 1, [1], none),
  (10, .iload_n 2, [2], none),
  (11, .invokevirtual 108, [], some (eC 13 3 7)),
  (14, .ifCond .eq 5, [19], none),
  (17, .iload_n 2, [2], none),
  (18, .ireturn, [], none),
  (19, .iinc 2 1, [2], some (eI 1)),
  (22, .goto (-20), [2], none),
  (25, .iconst (-1), [], some (eI (-1))),
  (26, .ireturn, [], none)]
theorem okFacts_leastThatFollows : am_mok mFacts_leastThatFollows kFacts_leastThatFollows := ⟨by decide +kernel, plFacts, by decide +kernel, poFacts⟩
def kFacts_dateLeast : List am_E := [(0, .aload_n 0, [0], none),
  (1, .getfield 30, [], some (eF 7 0)),
  (4, .getfield 111, [], some (eF 4 6)),
  (7, .iload_n 1, [1], none),
  (8, .iaload, [], none),
  (9, .istore_n 2, [2], none),
  (10, .iconst 0, [], some (eI 0)),
  (11, .istore_n 3, [3], none),
  (12, .iload_n 3, [3], none),
  (13, .aload_n 0, [0], none),
  (14, .getfield 30, [], some (eF 7 0)),
  (17, .getfield 114, [], some (eF 4 0)),
  (20, .if_icmp .ge 36, [56], none),
  (23, .aload_n 0, [0], none),
  (24, .getfield 9, [], some (eF 7 4)),
  (27, .iload_n 3, [3], none),
  (28, .iaload, [], none),
  (29, .iload_n 1, [1], none),
  (30, .invokestatic 99, [], some (eC 121 2 0)),
  (33, .ifCond .eq 17, [50], none),
  (36, .iload_n 2, [2], none),
  (37, .aload_n 0, [0], none),
  (38, .getfield 30, [], some (eF 7 0)),
  (41, .getfield 116, [], some (eF 4 1)),
  (44, .iload_n 3, [3], none),
  (45, .iaload, [], none),
  (46, .invokestatic 119, [], some (eC 200 2 0)),
  (49, .istore_n 2, [2], none),
  (50, .iinc 3 1, [3], some (eI 1)),
  (53, .goto (-41), [12], none),
  (56, .iconst 0, [], some (eI 0)),
  (57, .istore_n 3, [3], none),
  (58, .iload_n 3, [3], none),
  (59, .bipush 10, [], some (eI 10)),
  (61, .if_icmp .ge 35, [96], none),
  (64, .aload_n 0, [0], none),
  (65, .getfield 15, [], some (eF 7 5)),
  (68, .iload_n 1, [1], none),
  (69, .iaload, [], none),
  (70, .iload_n 3, [3], none),
  (71, .invokestatic 99, [], some (eC 121 2 0)),
  (74, .ifCond .eq 16, [90], none),
  (77, .iload_n 2, [2], none),
  (78, .aload_n 0, [0], none),
  (79, .getfield 24, [], some (eF 7 9)),
  (82, .iload_n 3, [3], none),
  (83, .iaload, [], none),
  (84, .iconst 1, [], some (eI 1)),
  (85, .iadd, [], none),
  (86, .invokestatic 119, [], some (eC 200 2 0)),
  (89, .istore_n 2, [2], none),
  (90, .iinc 3 1, [3], some (eI 1)),
  (93, .goto (-35), [58], none),
  (96, .aload_n 0, [0], none),
  (97, .getfield 24, [], some (eF 7 9)),
  (100, .iload_n 1, [1], none),
  (101, .iload_n 2, [2], none),
  (102, .iastore, [], none),
  (103, .return_, [], none)]
theorem okFacts_dateLeast : am_mok mFacts_dateLeast kFacts_dateLeast := ⟨by decide +kernel, plFacts, by decide +kernel, poFacts⟩
def kFacts_dateMost : List am_E := [(0, .sipush 1999, [], some (eI 1999)),
  (3, .istore_n 2, [2], none),
  (4, .aload_n 0, [0], none),
  (5, .getfield 30, [], some (eF 7 0)),
  (8, .iload_n 1, [1], none),
  (9, .iconst 2, [], some (eI 2)),
  (10, .invokevirtual 124, [], some (eC 29 3 4)),
  (13, .ifCond .eq 17, [30], none),
  (16, .iload_n 2, [2], none),
  (17, .aload_n 0, [0], none),
  (18, .getfield 30, [], some (eF 7 0)),
  (21, .getfield 127, [], some (eF 4 7)),
  (24, .iload_n 1, [1], none),
  (25, .iaload, [], none),
  (26, .invokestatic 130, [], some (eC 201 2 0)),
  (29, .istore_n 2, [2], none),
  (30, .iconst 0, [], some (eI 0)),
  (31, .istore_n 3, [3], none),
  (32, .iload_n 3, [3], none),
  (33, .bipush 10, [], some (eI 10)),
  (35, .if_icmp .ge 35, [70], none),
  (38, .aload_n 0, [0], none),
  (39, .getfield 15, [], some (eF 7 5)),
  (42, .iload_n 3, [3], none),
  (43, .iaload, [], none),
  (44, .iload_n 1, [1], none),
  (45, .invokestatic 99, [], some (eC 121 2 0)),
  (48, .ifCond .eq 16, [64], none),
  (51, .iload_n 2, [2], none),
  (52, .aload_n 0, [0], none),
  (53, .getfield 27, [], some (eF 7 10)),
  (56, .iload_n 3, [3], none),
  (57, .iaload, [], none),
  (58, .iconst 1, [], some (eI 1)),
  (59, .isub, [], none),
  (60, .invokestatic 130, [], some (eC 201 2 0)),
  (63, .istore_n 2, [2], none),
  (64, .iinc 3 1, [3], some (eI 1)),
  (67, .goto (-35), [32], none),
  (70, .aload_n 0, [0], none),
  (71, .getfield 27, [], some (eF 7 10)),
  (74, .iload_n 1, [1], none),
  (75, .iload_n 2, [2], none),
  (76, .iastore, [], none),
  (77, .return_, [], none)]
theorem okFacts_dateMost : am_mok mFacts_dateMost kFacts_dateMost := ⟨by decide +kernel, plFacts, by decide +kernel, poFacts⟩
def kFacts_isYounger : List am_E := [(0, .iconst 0, [], some (eI 0)),
  (1, .istore_n 3, [3], none),
  (2, .iload_n 3, [3], none),
  (3, .aload_n 0, [0], none),
  (4, .getfield 34, [], some (eF 7 1)),
  (7, .getfield 74, [], some (eF 5 0)),
  (10, .if_icmp .ge 62, [72], none),
  (13, .aload_n 0, [0], none),
  (14, .getfield 34, [], some (eF 7 1)),
  (17, .getfield 83, [], some (eF 5 1)),
  (20, .iload_n 3, [3], none),
  (21, .iaload, [], none),
  (22, .iload_n 2, [2], none),
  (23, .if_icmp .ne 7, [30], none),
  (26, .iconst 1, [], some (eI 1)),
  (27, .goto 4, [31], none),
  (30, .iconst 0, [], some (eI 0)),
  (31, .istore 4, [4], none),
  (33, .iload 4, [4], none),
  (35, .ifCond .eq 31, [66], none),
  (38, .aload_n 0, [0], none),
  (39, .getfield 27, [], some (eF 7 10)),
  (42, .aload_n 0, [0], none),
  (43, .getfield 34, [], some (eF 7 1)),
  (46, .iload_n 3, [3], none),
  (47, .iconst 0, [], some (eI 0)),
  (48, .invokevirtual 89, [], some (eC 75 3 5)),
  (51, .iaload, [], none),
  (52, .aload_n 0, [0], none),
  (53, .getfield 30, [], some (eF 7 0)),
  (56, .getfield 116, [], some (eF 4 1)),
  (59, .iload_n 1, [1], none),
  (60, .iaload, [], none),
  (61, .if_icmp .ge 5, [66], none),
  (64, .iconst 1, [], some (eI 1)),
  (65, .ireturn, [], none),
  (66, .iinc 3 1, [3], some (eI 1)),
  (69, .goto (-67), [2], none),
  (72, .iconst 0, [], some (eI 0)),
  (73, .ireturn, [], none)]
theorem okFacts_isYounger : am_mok mFacts_isYounger kFacts_isYounger := ⟨by decide +kernel, plFacts, by decide +kernel, poFacts⟩
def kFacts_scrapedOff : List am_E := [(0, .iconst 0, [], some (eI 0)),
  (1, .istore_n 2, [2], none),
  (2, .iconst 0, [], some (eI 0)),
  (3, .istore_n 3, [3], none),
  (4, .iload_n 3, [3], none),
  (5, .bipush 10, [], some (eI 10)),
  (7, .if_icmp .ge 31, [38], none),
  (10, .aload_n 0, [0], none),
  (11, .getfield 9, [], some (eF 7 4)),
  (14, .iload_n 1, [1], none),
  (15, .iaload, [], none),
  (16, .iload_n 3, [3], none),
  (17, .invokestatic 99, [], some (eC 121 2 0)),
  (20, .ifCond .eq 12, [32], none),
  (23, .iload_n 2, [2], none),
  (24, .aload_n 0, [0], none),
  (25, .getfield 18, [], some (eF 7 6)),
  (28, .iload_n 3, [3], none),
  (29, .iaload, [], none),
  (30, .ior, [], none),
  (31, .istore_n 2, [2], none),
  (32, .iinc 3 1, [3], some (eI 1)),
  (35, .goto (-31), [4], none),
  (38, .iconst 0, [], some (eI 0)),
  (39, .istore_n 3, [3], none),
  (40, .iconst 0, [], some (eI 0)),
  (41, .istore 4, [4], none),
  (43, .iload 4, [4], none),
  (45, .bipush 10, [], some (eI 10)),
  (47, .if_icmp .ge 68, [115], none),
  (50, .iload_n 2, [2], none),
  (51, .iload 4, [4], none),
  (53, .invokestatic 99, [], some (eC 121 2 0)),
  (56, .ifCond .eq 24, [80], none),
  (59, .aload_n 0, [0], none),
  (60, .getfield 18, [], some (eF 7 6)),
  (63, .iload 4, [4], none),
  (65, .iaload, [], none),
  (66, .aload_n 0, [0], none),
  (67, .getfield 9, [], some (eF 7 4)),
  (70, .iload_n 1, [1], none),
  (71, .iaload, [], none),
  (72, .iand, [], none),
  (73, .ifCond .eq 7, [80], none),
  (76, .iconst 1, [], some (eI 1)),
  (77, .goto 4, [81], none),
  (80, .iconst 0, [], some (eI 0)),
  (81, .istore 5, [5], none),
  (83, .iload 5, [5], none),
  (85, .ifCond .eq 24, [109], none),
  (88, .aload_n 0, [0], none),
  (89, .getfield 9, [], some (eF 7 4)),
  (92, .iload_n 1, [1], none),
  (93, .iaload, [], none),
  (94, .iload 4, [4], none),
  (96, .invokestatic 99, [], some (eC 121 2 0)),
  (99, .ifCond .ne 10, [109], none),
  (102, .iload_n 3, [3], none),
  (103, .iconst 1, [], some (eI 1)),
  (104, .iload 4, [4], none),
  (106, .ishl, [], none),
  (107, .ior, [], none),
  (108, .istore_n 3, [3], none),
  (109, .iinc 4 1, [4], some (eI 1)),
  (112, .goto (-69), [43], none),
  (115, .iload_n 3, [3], none),
  (116, .ireturn, [], none)]
theorem okFacts_scrapedOff : am_mok mFacts_scrapedOff kFacts_scrapedOff := ⟨by decide +kernel, plFacts, by decide +kernel, poFacts⟩
def kFacts_neverThere : List am_E := [(0, .iconst 0, [], some (eI 0)),
  (1, .istore_n 2, [2], none),
  (2, .iconst 0, [], some (eI 0)),
  (3, .istore_n 3, [3], none),
  (4, .iload_n 3, [3], none),
  (5, .bipush 10, [], some (eI 10)),
  (7, .if_icmp .ge 53, [60], none),
  (10, .aload_n 0, [0], none),
  (11, .getfield 65, [], some (eF 7 2)),
  (14, .aload_n 0, [0], none),
  (15, .getfield 9, [], some (eF 7 4)),
  (18, .iload_n 1, [1], none),
  (19, .iaload, [], none),
  (20, .iconst (-1), [], some (eI (-1))),
  (21, .ixor, [], none),
  (22, .iand, [], none),
  (23, .iload_n 3, [3], none),
  (24, .invokestatic 99, [], some (eC 121 2 0)),
  (27, .ifCond .eq 27, [54], none),
  (30, .aload_n 0, [0], none),
  (31, .getfield 27, [], some (eF 7 10)),
  (34, .iload_n 3, [3], none),
  (35, .iaload, [], none),
  (36, .aload_n 0, [0], none),
  (37, .getfield 30, [], some (eF 7 0)),
  (40, .getfield 116, [], some (eF 4 1)),
  (43, .iload_n 1, [1], none),
  (44, .iaload, [], none),
  (45, .if_icmp .ge 9, [54], none),
  (48, .iload_n 2, [2], none),
  (49, .iconst 1, [], some (eI 1)),
  (50, .iload_n 3, [3], none),
  (51, .ishl, [], none),
  (52, .ior, [], none),
  (53, .istore_n 2, [2], none),
  (54, .iinc 3 1, [3], some (eI 1)),
  (57, .goto (-53), [4], none),
  (60, .iload_n 2, [2], none),
  (61, .ireturn, [], none)]
theorem okFacts_neverThere : am_mok mFacts_neverThere kFacts_neverThere := ⟨by decide +kernel, plFacts, by decide +kernel, poFacts⟩
def kFacts_whoCan : List am_E := [(0, .iconst 0, [], some (eI 0)),
  (1, .istore_n 2, [2], none),
  (2, .iconst 0, [], some (eI 0)),
  (3, .istore_n 3, [3], none),
  (4, .iload_n 3, [3], none),
  (5, .aload_n 0, [0], none),
  (6, .getfield 30, [], some (eF 7 0)),
  (9, .getfield 133, [], some (eF 4 10)),
  (12, .if_icmp .ge 83, [95], none),
  (15, .aload_n 0, [0], none),
  (16, .getfield 30, [], some (eF 7 0)),
  (19, .getfield 136, [], some (eF 4 11)),
  (22, .iload_n 3, [3], none),
  (23, .iaload, [], none),
  (24, .aload_n 0, [0], none),
  (25, .getfield 24, [], some (eF 7 9)),
  (28, .iload_n 1, [1], none),
  (29, .iaload, [], none),
  (30, .invokestatic 119, [], some (eC 200 2 0)),
  (33, .istore 4, [4], none),
  (35, .aload_n 0, [0], none),
  (36, .getfield 30, [], some (eF 7 0)),
  (39, .getfield 139, [], some (eF 4 12)),
  (42, .iload_n 3, [3], none),
  (43, .iaload, [], none),
  (44, .aload_n 0, [0], none),
  (45, .getfield 27, [], some (eF 7 10)),
  (48, .iload_n 1, [1], none),
  (49, .iaload, [], none),
  (50, .invokestatic 130, [], some (eC 201 2 0)),
  (53, .istore 5, [5], none),
  (55, .iload 4, [4], none),
  (57, .iload 5, [5], none),
  (59, .if_icmp .gt 30, [89], none),
  (62, .aload_n 0, [0], none),
  (63, .getfield 30, [], some (eF 7 0)),
  (66, .getfield 142, [], some (eF 4 13)),
  (69, .iload_n 3, [3], none),
  (70, .iaload, [], none),
  (71, .aload_n 0, [0], none),
  (72, .getfield 30, [], some (eF 7 0)),
  (75, .getfield 145, [], some (eF 4 8)),
  (78, .iload_n 1, [1], none),
  (79, .iaload, [], none),
  (80, .if_icmp .lt 9, [89], none),
  (83, .iload_n 2, [2], none),
  (84, .iconst 1, [], some (eI 1)),
  (85, .iload_n 3, [3], none),
  (86, .ishl, [], none),
  (87, .ior, [], none),
  (88, .istore_n 2, [2], none),
  (89, .iinc 3 1, [3], some (eI 1)),
  (92, .goto (-88), [4], none),
  (95, .iload_n 2, [2], none),
  (96, .ireturn, [], none)]
theorem okFacts_whoCan : am_mok mFacts_whoCan kFacts_whoCan := ⟨by decide +kernel, plFacts, by decide +kernel, poFacts⟩
def kFacts_missingAt : List am_E := [(0, .aload_n 0, [0], none),
  (1, .getfield 9, [], some (eF 7 4)),
  (4, .aload_n 0, [0], none),
  (5, .getfield 34, [], some (eF 7 1)),
  (8, .getfield 83, [], some (eF 5 1)),
  (11, .iload_n 1, [1], none),
  (12, .iaload, [], none),
  (13, .iaload, [], none),
  (14, .aload_n 0, [0], none),
  (15, .iload_n 1, [1], none),
  (16, .invokevirtual 79, [], some (eC 11 2 7)),
  (19, .iconst (-1), [], some (eI (-1))),
  (20, .ixor, [], none),
  (21, .iand, [], none),
  (22, .ireturn, [], none)]
theorem okFacts_missingAt : am_mok mFacts_missingAt kFacts_missingAt := ⟨by decide +kernel, plFacts, by decide +kernel, poFacts⟩
def kFacts_leastOf : List am_E := [(0, .sipush 9999, [], some (eI 9999)),
  (3, .istore_n 2, [2], none),
  (4, .iconst 0, [], some (eI 0)),
  (5, .istore_n 3, [3], none),
  (6, .iload_n 3, [3], none),
  (7, .bipush 10, [], some (eI 10)),
  (9, .if_icmp .ge 28, [37], none),
  (12, .iload_n 1, [1], none),
  (13, .iload_n 3, [3], none),
  (14, .invokestatic 99, [], some (eC 121 2 0)),
  (17, .ifCond .eq 14, [31], none),
  (20, .iload_n 2, [2], none),
  (21, .aload_n 0, [0], none),
  (22, .getfield 24, [], some (eF 7 9)),
  (25, .iload_n 3, [3], none),
  (26, .iaload, [], none),
  (27, .invokestatic 130, [], some (eC 201 2 0)),
  (30, .istore_n 2, [2], none),
  (31, .iinc 3 1, [3], some (eI 1)),
  (34, .goto (-28), [6], none),
  (37, .iload_n 2, [2], none),
  (38, .ireturn, [], none)]
theorem okFacts_leastOf : am_mok mFacts_leastOf kFacts_leastOf := ⟨by decide +kernel, plFacts, by decide +kernel, poFacts⟩
def kFacts_mostOf : List am_E := [(0, .iconst 0, [], some (eI 0)),
  (1, .istore_n 2, [2], none),
  (2, .iconst 0, [], some (eI 0)),
  (3, .istore_n 3, [3], none),
  (4, .iload_n 3, [3], none),
  (5, .bipush 10, [], some (eI 10)),
  (7, .if_icmp .ge 28, [35], none),
  (10, .iload_n 1, [1], none),
  (11, .iload_n 3, [3], none),
  (12, .invokestatic 99, [], some (eC 121 2 0)),
  (15, .ifCond .eq 14, [29], none),
  (18, .iload_n 2, [2], none),
  (19, .aload_n 0, [0], none),
  (20, .getfield 27, [], some (eF 7 10)),
  (23, .iload_n 3, [3], none),
  (24, .iaload, [], none),
  (25, .invokestatic 119, [], some (eC 200 2 0)),
  (28, .istore_n 2, [2], none),
  (29, .iinc 3 1, [3], some (eI 1)),
  (32, .goto (-28), [4], none),
  (35, .iload_n 2, [2], none),
  (36, .ireturn, [], none)]
theorem okFacts_mostOf : am_mok mFacts_mostOf kFacts_mostOf := ⟨by decide +kernel, plFacts, by decide +kernel, poFacts⟩
end
section
theorem peHouse_0_9 : am_pk "PaperedOver$House" 0 9 (eF 4 1) := ⟨(rc_4, tc_4, 14), rfl, by decide, (gm 121 (by decide +kernel) (by decide +kernel))⟩
theorem peHouse_0_13 : am_pk "PaperedOver$House" 0 13 (eF 4 2) := ⟨(rc_4, tc_4, 14), rfl, by decide, (gm 123 (by decide +kernel) (by decide +kernel))⟩
theorem peHouse_0_16 : am_pk "PaperedOver$House" 0 16 (eF 4 3) := ⟨(rc_4, tc_4, 14), rfl, by decide, (gm 125 (by decide +kernel) (by decide +kernel))⟩
theorem peHouse_0_19 : am_pk "PaperedOver$House" 0 19 (eF 4 5) := ⟨(rc_4, tc_4, 14), rfl, by decide, (gm 130 (by decide +kernel) (by decide +kernel))⟩
theorem peHouse_0_22 : am_pk "PaperedOver$House" 0 22 (eF 4 6) := ⟨(rc_4, tc_4, 14), rfl, by decide, (gm 133 (by decide +kernel) (by decide +kernel))⟩
theorem peHouse_0_25 : am_pk "PaperedOver$House" 0 25 (eF 4 7) := ⟨(rc_4, tc_4, 14), rfl, by decide, (gm 137 (by decide +kernel) (by decide +kernel))⟩
theorem peHouse_0_28 : am_pk "PaperedOver$House" 0 28 (eF 4 8) := ⟨(rc_4, tc_4, 14), rfl, by decide, (gm 140 (by decide +kernel) (by decide +kernel))⟩
theorem peHouse_0_31 : am_pk "PaperedOver$House" 0 31 (eF 4 9) := ⟨(rc_4, tc_4, 14), rfl, by decide, (gm 144 (by decide +kernel) (by decide +kernel))⟩
theorem peHouse_0_34 : am_pk "PaperedOver$House" 0 34 (eF 4 11) := ⟨(rc_4, tc_4, 14), rfl, by decide, (gm 152 (by decide +kernel) (by decide +kernel))⟩
theorem peHouse_0_37 : am_pk "PaperedOver$House" 0 37 (eF 4 12) := ⟨(rc_4, tc_4, 14), rfl, by decide, (gm 154 (by decide +kernel) (by decide +kernel))⟩
theorem peHouse_0_40 : am_pk "PaperedOver$House" 0 40 (eF 4 13) := ⟨(rc_4, tc_4, 14), rfl, by decide, (gm 156 (by decide +kernel) (by decide +kernel))⟩
theorem peHouse_0_43 : am_pk "PaperedOver$House" 0 43 (eF 4 0) := ⟨(rc_4, tc_4, 14), rfl, by decide, (gm 116 (by decide +kernel) (by decide +kernel))⟩
theorem peHouse_0_47 : am_pk "PaperedOver$House" 0 47 (eF 4 4) := ⟨(rc_4, tc_4, 14), rfl, by decide, (gm 127 (by decide +kernel) (by decide +kernel))⟩
theorem peHouse_0_60 : am_pk "PaperedOver$House" 0 60 (eF 4 10) := ⟨(rc_4, tc_4, 14), rfl, by decide, (gm 149 (by decide +kernel) (by decide +kernel))⟩
theorem peHouse_3_54 : am_pk "PaperedOver$House" 3 54 (eR (aR 12 0 0)) := Or.inl ⟨0, by decide, rfl, (gm 721 (by decide +kernel) (by decide +kernel))⟩
theorem peHouse_4_50 : am_pk "PaperedOver$House" 4 50 (eC 27 2 4) := ⟨1, rfl, wHouse_isPaper, (gm 717 (by decide +kernel) (by decide +kernel)), vHouse_isPaper.1, vHouse_isPaper.2, Or.inl ⟨_, rfl, rfl⟩⟩
theorem peHouse_4_63 : am_pk "PaperedOver$House" 4 63 (eC 30 1 4) := ⟨0, rfl, wHouse_clear, (gm 646 (by decide +kernel) (by decide +kernel)), vHouse_clear.1, vHouse_clear.2, Or.inl ⟨_, rfl, rfl⟩⟩
theorem peHouse_4_66 : am_pk "PaperedOver$House" 4 66 (eC 31 4 4) := ⟨3, rfl, wHouse_addWall, (gm 647 (by decide +kernel) (by decide +kernel)), vHouse_addWall.1, vHouse_addWall.2, Or.inl ⟨_, rfl, rfl⟩⟩
theorem peHouse_4_70 : am_pk "PaperedOver$House" 4 70 (eC 32 6 4) := ⟨5, rfl, wHouse_addPaper, (gm 648 (by decide +kernel) (by decide +kernel)), vHouse_addPaper.1, vHouse_addPaper.2, Or.inl ⟨_, rfl, rfl⟩⟩
theorem peHouse_4_74 : am_pk "PaperedOver$House" 4 74 (eC 33 4 4) := ⟨3, rfl, wHouse_addTenant, (gm 649 (by decide +kernel) (by decide +kernel)), vHouse_addTenant.1, vHouse_addTenant.2, Or.inl ⟨_, rfl, rfl⟩⟩
theorem peHouse_5_57 : am_pk "PaperedOver$House" 5 57 (eC 28 1 0) := ⟨wHouse_isKind, sHouse_isKind, Or.inl (gm 723 (by decide +kernel) (by decide +kernel))⟩
theorem peHouse_5_77 : am_pk "PaperedOver$House" 5 77 (eC 37 2 0) := ⟨wHouse_leftBy, sHouse_leftBy, Or.inl (gm 911 (by decide +kernel) (by decide +kernel))⟩
theorem peHouse_5_81 : am_pk "PaperedOver$House" 5 81 (eC 121 2 0) := ⟨wMain_has, sMain_has, Or.inr (by decide +kernel)⟩
def plHouse : List (Nat × Nat × am_N) := [(0, 9, eF 4 1), (0, 13, eF 4 2), (0, 16, eF 4 3), (0, 19, eF 4 5), (0, 22, eF 4 6), (0, 25, eF 4 7), (0, 28, eF 4 8), (0, 31, eF 4 9), (0, 34, eF 4 11), (0, 37, eF 4 12), (0, 40, eF 4 13), (0, 43, eF 4 0), (0, 47, eF 4 4), (0, 60, eF 4 10), (3, 54, eR (aR 12 0 0)), (4, 50, eC 27 2 4), (4, 63, eC 30 1 4), (4, 66, eC 31 4 4), (4, 70, eC 32 6 4), (4, 74, eC 33 4 4), (5, 57, eC 28 1 0), (5, 77, eC 37 2 0), (5, 81, eC 121 2 0)]
theorem poHouse : ∀ q ∈ plHouse, am_pk "PaperedOver$House" q.1 q.2.1 q.2.2 := List.forall_mem_cons.mpr ⟨peHouse_0_9, List.forall_mem_cons.mpr ⟨peHouse_0_13, List.forall_mem_cons.mpr ⟨peHouse_0_16, List.forall_mem_cons.mpr ⟨peHouse_0_19, List.forall_mem_cons.mpr ⟨peHouse_0_22, List.forall_mem_cons.mpr ⟨peHouse_0_25, List.forall_mem_cons.mpr ⟨peHouse_0_28, List.forall_mem_cons.mpr ⟨peHouse_0_31, List.forall_mem_cons.mpr ⟨peHouse_0_34, List.forall_mem_cons.mpr ⟨peHouse_0_37, List.forall_mem_cons.mpr ⟨peHouse_0_40, List.forall_mem_cons.mpr ⟨peHouse_0_43, List.forall_mem_cons.mpr ⟨peHouse_0_47, List.forall_mem_cons.mpr ⟨peHouse_0_60, List.forall_mem_cons.mpr ⟨peHouse_3_54, List.forall_mem_cons.mpr ⟨peHouse_4_50, List.forall_mem_cons.mpr ⟨peHouse_4_63, List.forall_mem_cons.mpr ⟨peHouse_4_66, List.forall_mem_cons.mpr ⟨peHouse_4_70, List.forall_mem_cons.mpr ⟨peHouse_4_74, List.forall_mem_cons.mpr ⟨peHouse_5_57, List.forall_mem_cons.mpr ⟨peHouse_5_77, List.forall_mem_cons.mpr ⟨peHouse_5_81, fun _ h => absurd h List.not_mem_nil⟩⟩⟩⟩⟩⟩⟩⟩⟩⟩⟩⟩⟩⟩⟩⟩⟩⟩⟩⟩⟩⟩⟩
def kHouse_stands : List am_E := [(0, .aload_n 0, [0], none),
  (1, .getfield 43, [], some (eF 4 0)),
  (4, .ifCond .le 7, [11], none),
  (7, .iconst 1, [], some (eI 1)),
  (8, .goto 4, [12], none),
  (11, .iconst 0, [], some (eI 0)),
  (12, .ireturn, [], none)]
theorem okHouse_stands : am_mok mHouse_stands kHouse_stands := ⟨by decide +kernel, plHouse, by decide +kernel, poHouse⟩
def kHouse_isWall : List am_E := [(0, .iload_n 1, [1], none),
  (1, .ifCond .lt 15, [16], none),
  (4, .iload_n 1, [1], none),
  (5, .aload_n 0, [0], none),
  (6, .getfield 43, [], some (eF 4 0)),
  (9, .if_icmp .ge 7, [16], none),
  (12, .iconst 1, [], some (eI 1)),
  (13, .goto 4, [17], none),
  (16, .iconst 0, [], some (eI 0)),
  (17, .ireturn, [], none)]
theorem okHouse_isWall : am_mok mHouse_isWall kHouse_isWall := ⟨by decide +kernel, plHouse, by decide +kernel, poHouse⟩
def kHouse_isPaper : List am_E := [(0, .iload_n 1, [1], none),
  (1, .ifCond .lt 15, [16], none),
  (4, .iload_n 1, [1], none),
  (5, .aload_n 0, [0], none),
  (6, .getfield 47, [], some (eF 4 4)),
  (9, .if_icmp .ge 7, [16], none),
  (12, .iconst 1, [], some (eI 1)),
  (13, .goto 4, [17], none),
  (16, .iconst 0, [], some (eI 0)),
  (17, .ireturn, [], none)]
theorem okHouse_isPaper : am_mok mHouse_isPaper kHouse_isPaper := ⟨by decide +kernel, plHouse, by decide +kernel, poHouse⟩
def kHouse_isKind : List am_E := [(0, .iload_n 0, [0], none),
  (1, .ifCond .lt 12, [13], none),
  (4, .iload_n 0, [0], none),
  (5, .iconst 5, [], some (eI 5)),
  (6, .if_icmp .gt 7, [13], none),
  (9, .iconst 1, [], some (eI 1)),
  (10, .goto 4, [14], none),
  (13, .iconst 0, [], some (eI 0)),
  (14, .ireturn, [], none)]
theorem okHouse_isKind : am_mok mHouse_isKind kHouse_isKind := ⟨by decide +kernel, plHouse, by decide +kernel, poHouse⟩
def kHouse_isOf : List am_E := [(0, .aload_n 0, [0], none),
  (1, .iload_n 1, [1], none),
  (2, .invokevirtual 50, [], some (eC 27 2 4)),
  (5, .ifCond .eq 12, [17], none),
  (8, .aload_n 0, [0], none),
  (9, .getfield 19, [], some (eF 4 5)),
  (12, .iload_n 1, [1], none),
  (13, .iaload, [], none),
  (14, .goto 4, [18], none),
  (17, .iconst (-1), [], some (eI (-1))),
  (18, .istore_n 3, [3], none),
  (19, .iconst 0, [], some (eI 0)),
  (20, .istore 4, [4], none),
  (22, .iload 4, [4], none),
  (24, .getstatic 54, [], some (eR (aR 12 0 0))),
  (27, .arraylength, [], none),
  (28, .if_icmp .ge 29, [57], none),
  (31, .iload_n 3, [3], none),
  (32, .invokestatic 57, [], some (eC 28 1 0)),
  (35, .ifCond .eq 22, [57], none),
  (38, .iload_n 3, [3], none),
  (39, .iload_n 2, [2], none),
  (40, .if_icmp .ne 5, [45], none),
  (43, .iconst 1, [], some (eI 1)),
  (44, .ireturn, [], none),
  (45, .getstatic 54, [], some (eR (aR 12 0 0))),
  (48, .iload_n 3, [3], none),
  (49, .iaload, [], none),
  (50, .istore_n 3, [3], none),
  (51, .iinc 4 1, [4], some (eI 1)),
  (54, .goto (-32), [22], none),
  (57, .iconst 0, [], some (eI 0)),
  (58, .ireturn, [], none)]
theorem okHouse_isOf : am_mok mHouse_isOf kHouse_isOf := ⟨by decide +kernel, plHouse, by decide +kernel, poHouse⟩
def kHouse_clear : List am_E := [(0, .aload_n 0, [0], none),
  (1, .iconst 0, [], some (eI 0)),
  (2, .putfield 43, [], some (eF 4 0)),
  (5, .aload_n 0, [0], none),
  (6, .iconst 0, [], some (eI 0)),
  (7, .putfield 47, [], some (eF 4 4)),
  (10, .aload_n 0, [0], none),
  (11, .iconst 0, [], some (eI 0)),
  (12, .putfield 60, [], some (eF 4 10)),
  (15, .return_, [], none)]
theorem okHouse_clear : am_mok mHouse_clear kHouse_clear := ⟨by decide +kernel, plHouse, by decide +kernel, poHouse⟩
def kHouse_addWall : List am_E := [(0, .aload_n 0, [0], none),
  (1, .getfield 43, [], some (eF 4 0)),
  (4, .bipush 8, [], some (eI 8)),
  (6, .if_icmp .lt 4, [10], none),
  (9, .return_, [], none),
  (10, .aload_n 0, [0], none),
  (11, .getfield 9, [], some (eF 4 1)),
  (14, .aload_n 0, [0], none),
  (15, .getfield 43, [], some (eF 4 0)),
  (18, .iload_n 1, [1], none),
  (19, .iastore, [], none),
  (20, .aload_n 0, [0], none),
  (21, .getfield 13, [], some (eF 4 2)),
  (24, .aload_n 0, [0], none),
  (25, .getfield 43, [], some (eF 4 0)),
  (28, .iload_n 2, [2], none),
  (29, .iastore, [], none),
  (30, .aload_n 0, [0], none),
  (31, .getfield 16, [], some (eF 4 3)),
  (34, .aload_n 0, [0], none),
  (35, .getfield 43, [], some (eF 4 0)),
  (38, .iload_n 3, [3], none),
  (39, .iastore, [], none),
  (40, .aload_n 0, [0], none),
  (41, .dup, [], none),
  (42, .getfield 43, [], some (eF 4 0)),
  (45, .iconst 1, [], some (eI 1)),
  (46, .iadd, [], none),
  (47, .putfield 43, [], some (eF 4 0)),
  (50, .return_, [], none)]
theorem okHouse_addWall : am_mok mHouse_addWall kHouse_addWall := ⟨by decide +kernel, plHouse, by decide +kernel, poHouse⟩
def kHouse_addPaper : List am_E := [(0, .aload_n 0, [0], none),
  (1, .getfield 47, [], some (eF 4 4)),
  (4, .bipush 10, [], some (eI 10)),
  (6, .if_icmp .lt 4, [10], none),
  (9, .return_, [], none),
  (10, .aload_n 0, [0], none),
  (11, .getfield 19, [], some (eF 4 5)),
  (14, .aload_n 0, [0], none),
  (15, .getfield 47, [], some (eF 4 4)),
  (18, .iload_n 1, [1], none),
  (19, .iastore, [], none),
  (20, .aload_n 0, [0], none),
  (21, .getfield 22, [], some (eF 4 6)),
  (24, .aload_n 0, [0], none),
  (25, .getfield 47, [], some (eF 4 4)),
  (28, .iload_n 2, [2], none),
  (29, .iastore, [], none),
  (30, .aload_n 0, [0], none),
  (31, .getfield 25, [], some (eF 4 7)),
  (34, .aload_n 0, [0], none),
  (35, .getfield 47, [], some (eF 4 4)),
  (38, .iload_n 3, [3], none),
  (39, .iastore, [], none),
  (40, .aload_n 0, [0], none),
  (41, .getfield 28, [], some (eF 4 8)),
  (44, .aload_n 0, [0], none),
  (45, .getfield 47, [], some (eF 4 4)),
  (48, .iload 4, [4], none),
  (50, .iastore, [], none),
  (51, .aload_n 0, [0], none),
  (52, .getfield 31, [], some (eF 4 9)),
  (55, .aload_n 0, [0], none),
  (56, .getfield 47, [], some (eF 4 4)),
  (59, .iload 5, [5], none),
  (61, .iastore, [], none),
  (62, .aload_n 0, [0], none),
  (63, .dup, [], none),
  (64, .getfield 47, [], some (eF 4 4)),
  (67, .iconst 1, [], some (eI 1)),
  (68, .iadd, [], none),
  (69, .putfield 47, [], some (eF 4 4)),
  (72, .return_, [], none)]
theorem okHouse_addPaper : am_mok mHouse_addPaper kHouse_addPaper := ⟨by decide +kernel, plHouse, by decide +kernel, poHouse⟩
def kHouse_addTenant : List am_E := [(0, .aload_n 0, [0], none),
  (1, .getfield 60, [], some (eF 4 10)),
  (4, .bipush 10, [], some (eI 10)),
  (6, .if_icmp .lt 4, [10], none),
  (9, .return_, [], none),
  (10, .aload_n 0, [0], none),
  (11, .getfield 34, [], some (eF 4 11)),
  (14, .aload_n 0, [0], none),
  (15, .getfield 60, [], some (eF 4 10)),
  (18, .iload_n 1, [1], none),
  (19, .iastore, [], none),
  (20, .aload_n 0, [0], none),
  (21, .getfield 37, [], some (eF 4 12)),
  (24, .aload_n 0, [0], none),
  (25, .getfield 60, [], some (eF 4 10)),
  (28, .iload_n 2, [2], none),
  (29, .iastore, [], none),
  (30, .aload_n 0, [0], none),
  (31, .getfield 40, [], some (eF 4 13)),
  (34, .aload_n 0, [0], none),
  (35, .getfield 60, [], some (eF 4 10)),
  (38, .iload_n 3, [3], none),
  (39, .iastore, [], none),
  (40, .aload_n 0, [0], none),
  (41, .dup, [], none),
  (42, .getfield 60, [], some (eF 4 10)),
  (45, .iconst 1, [], some (eI 1)),
  (46, .iadd, [], none),
  (47, .putfield 60, [], some (eF 4 10)),
  (50, .return_, [], none)]
theorem okHouse_addTenant : am_mok mHouse_addTenant kHouse_addTenant := ⟨by decide +kernel, plHouse, by decide +kernel, poHouse⟩
def kHouse_take : List am_E := [(0, .aload_n 0, [0], none),
  (1, .invokevirtual 63, [], some (eC 30 1 4)),
  (4, .iconst 0, [], some (eI 0)),
  (5, .istore_n 2, [2], none),
  (6, .iload_n 2, [2], none),
  (7, .aload_n 1, [1], none),
  (8, .getfield 43, [], some (eF 4 0)),
  (11, .if_icmp .ge 31, [42], none),
  (14, .aload_n 0, [0], none),
  (15, .aload_n 1, [1], none),
  (16, .getfield 9, [], some (eF 4 1)),
  (19, .iload_n 2, [2], none),
  (20, .iaload, [], none),
  (21, .aload_n 1, [1], none),
  (22, .getfield 13, [], some (eF 4 2)),
  (25, .iload_n 2, [2], none),
  (26, .iaload, [], none),
  (27, .aload_n 1, [1], none),
  (28, .getfield 16, [], some (eF 4 3)),
  (31, .iload_n 2, [2], none),
  (32, .iaload, [], none),
  (33, .invokevirtual 66, [], some (eC 31 4 4)),
  (36, .iinc 2 1, [2], some (eI 1)),
  (39, .goto (-33), [6], none),
  (42, .iconst 0, [], some (eI 0)),
  (43, .istore_n 2, [2], none),
  (44, .iload_n 2, [2], none),
  (45, .aload_n 1, [1], none),
  (46, .getfield 47, [], some (eF 4 4)),
  (49, .if_icmp .ge 43, [92], none),
  (52, .aload_n 0, [0], none),
  (53, .aload_n 1, [1], none),
  (54, .getfield 19, [], some (eF 4 5)),
  (57, .iload_n 2, [2], none),
  (58, .iaload, [], none),
  (59, .aload_n 1, [1], none),
  (60, .getfield 22, [], some (eF 4 6)),
  (63, .iload_n 2, [2], none),
  (64, .iaload, [], none),
  (65, .aload_n 1, [1], none),
  (66, .getfield 25, [], some (eF 4 7)),
  (69, .iload_n 2, [2], none),
  (70, .iaload, [], none),
  (71, .aload_n 1, [1], none),
  (72, .getfield 28, [], some (eF 4 8)),
  (75, .iload_n 2, [2], none),
  (76, .iaload, [], none),
  (77, .aload_n 1, [1], none),
  (78, .getfield 31, [], some (eF 4 9)),
  (81, .iload_n 2, [2], none),
  (82, .iaload, [], none),
  (83, .invokevirtual 70, [], some (eC 32 6 4)),
  (86, .iinc 2 1, [2], some (eI 1)),
  (89, .goto (-45), [44], none),
  (92, .iconst 0, [], some (eI 0)),
  (93, .istore_n 2, [2], none),
  (94, .iload_n 2, [2], none),
  (95, .aload_n 1, [1], none),
  (96, .getfield 60, [], some (eF 4 10)),
  (99, .if_icmp .ge 31, [130], none),
  (102, .aload_n 0, [0], none),
  (103, .aload_n 1, [1], none),
  (104, .getfield 34, [], some (eF 4 11)),
  (107, .iload_n 2, [2], none),
  (108, .iaload, [], none),
  (109, .aload_n 1, [1], none),
  (110, .getfield 37, [], some (eF 4 12)),
  (113, .iload_n 2, [2], none),
  (114, .iaload, [], none),
  (115, .aload_n 1, [1], none),
  (116, .getfield 40, [], some (eF 4 13)),
  (119, .iload_n 2, [2], none),
  (120, .iaload, [], none),
  (121, .invokevirtual 74, [], some (eC 33 4 4)),
  (124, .iinc 2 1, [2], some (eI 1)),
  (127, .goto (-33), [94], none),
  (130, .return_, [], none)]
theorem okHouse_take : am_mok mHouse_take kHouse_take := ⟨by decide +kernel, plHouse, by decide +kernel, poHouse⟩
def kHouse_printedEvery : List am_E := [(0, .iconst 0, [], some (eI 0)),
  (1, .istore_n 2, [2], none),
  (2, .iconst 0, [], some (eI 0)),
  (3, .istore_n 3, [3], none),
  (4, .iload_n 3, [3], none),
  (5, .aload_n 0, [0], none),
  (6, .getfield 47, [], some (eF 4 4)),
  (9, .if_icmp .ge 38, [47], none),
  (12, .aload_n 0, [0], none),
  (13, .getfield 19, [], some (eF 4 5)),
  (16, .iload_n 3, [3], none),
  (17, .iaload, [], none),
  (18, .iconst 5, [], some (eI 5)),
  (19, .if_icmp .eq 22, [41], none),
  (22, .iload_n 1, [1], none),
  (23, .aload_n 0, [0], none),
  (24, .getfield 31, [], some (eF 4 9)),
  (27, .iload_n 3, [3], none),
  (28, .iaload, [], none),
  (29, .invokestatic 77, [], some (eC 37 2 0)),
  (32, .ifCond .ne 9, [41], none),
  (35, .iload_n 2, [2], none),
  (36, .iconst 1, [], some (eI 1)),
  (37, .iload_n 3, [3], none),
  (38, .ishl, [], none),
  (39, .ior, [], none),
  (40, .istore_n 2, [2], none),
  (41, .iinc 3 1, [3], some (eI 1)),
  (44, .goto (-40), [4], none),
  (47, .iload_n 2, [2], none),
  (48, .ireturn, [], none)]
theorem okHouse_printedEvery : am_mok mHouse_printedEvery kHouse_printedEvery := ⟨by decide +kernel, plHouse, by decide +kernel, poHouse⟩
def kHouse_isToldBy : List am_E := [(0, .iconst 0, [], some (eI 0)),
  (1, .istore_n 3, [3], none),
  (2, .iload_n 3, [3], none),
  (3, .aload_n 0, [0], none),
  (4, .getfield 47, [], some (eF 4 4)),
  (7, .if_icmp .ge 84, [91], none),
  (10, .iload_n 3, [3], none),
  (11, .iconst 1, [], some (eI 1)),
  (12, .iadd, [], none),
  (13, .istore 4, [4], none),
  (15, .iload 4, [4], none),
  (17, .aload_n 0, [0], none),
  (18, .getfield 47, [], some (eF 4 4)),
  (21, .if_icmp .ge 64, [85], none),
  (24, .iload_n 1, [1], none),
  (25, .iload_n 3, [3], none),
  (26, .invokestatic 81, [], some (eC 121 2 0)),
  (29, .ifCond .eq 16, [45], none),
  (32, .iload_n 1, [1], none),
  (33, .iload 4, [4], none),
  (35, .invokestatic 81, [], some (eC 121 2 0)),
  (38, .ifCond .eq 7, [45], none),
  (41, .iconst 1, [], some (eI 1)),
  (42, .goto 4, [46], none),
  (45, .iconst 0, [], some (eI 0)),
  (46, .istore 5, [5], none),
  (48, .iload 5, [5], none),
  (50, .ifCond .eq 29, [79], none),
  (53, .aload_n 0, [0], none),
  (54, .getfield 31, [], some (eF 4 9)),
  (57, .iload_n 3, [3], none),
  (58, .iaload, [], none),
  (59, .iload_n 2, [2], none),
  (60, .invokestatic 77, [], some (eC 37 2 0)),
  (63, .aload_n 0, [0], none),
  (64, .getfield 31, [], some (eF 4 9)),
  (67, .iload 4, [4], none),
  (69, .iaload, [], none),
  (70, .iload_n 2, [2], none),
  (71, .invokestatic 77, [], some (eC 37 2 0)),
  (74, .if_icmp .ne 5, [79], none),
  (77, .iconst 0, [], some (eI 0)),
  (78, .ireturn, [], none),
  (79, .iinc 4 1, [4], some (eI 1)),
  (82, .goto (-67), [15], none),
  (85, .iinc 3 1, [3], some (eI 1)),
  (88, .goto (-86), [2], none),
  (91, .iconst 1, [], some (eI 1)),
  (92, .ireturn, [], none)]
theorem okHouse_isToldBy : am_mok mHouse_isToldBy kHouse_isToldBy := ⟨by decide +kernel, plHouse, by decide +kernel, poHouse⟩
def kHouse_leftBy : List am_E := [(0, .iload_n 1, [1], none),
  (1, .ifCond .gt 7, [8], none),
  (4, .iload_n 0, [0], none),
  (5, .goto 6, [11], none),
  (8, .iload_n 0, [0], none),
  (9, .iload_n 1, [1], none),
  (10, .irem, [], none),
  (11, .ireturn, [], none)]
theorem okHouse_leftBy : am_mok mHouse_leftBy kHouse_leftBy := ⟨by decide +kernel, plHouse, by decide +kernel, poHouse⟩
end
section
theorem peLat_5_9 : am_pk "java/lang/StringLatin1" 5 9 (eC 206 2 0) := ⟨wStr_checkIndex, sStr_checkIndex, Or.inl (gm 559 (by decide +kernel) (by decide +kernel))⟩
def plLat : List (Nat × Nat × am_N) := [(5, 9, eC 206 2 0)]
theorem poLat : ∀ q ∈ plLat, am_pk "java/lang/StringLatin1" q.1 q.2.1 q.2.2 := List.forall_mem_cons.mpr ⟨peLat_5_9, fun _ h => absurd h List.not_mem_nil⟩
def kLat_charAt : List am_E := [(0, .iload_n 1, [1], none),
  (1, .aload_n 0, [0], none),
  (2, .arraylength, [], none),
  (3, .invokestatic 9, [], some (eC 206 2 0)),
  (6, .aload_n 0, [0], none),
  (7, .iload_n 1, [1], none),
  (8, .baload, [], none),
  (9, .sipush 255, [], some (eI 255)),
  (12, .iand, [], none),
  (13, .i2c, [], none),
  (14, .ireturn, [], none)]
theorem okLat_charAt : am_mok mLat_charAt kLat_charAt := ⟨by decide +kernel, plLat, by decide +kernel, poLat⟩
end
section
theorem peMain_0_10 : am_pk "PaperedOver" 0 10 (eF 0 0) := ⟨(rc_0, tc_0, 13), rfl, by decide, (gm 368 (by decide +kernel) (by decide +kernel))⟩
theorem peMain_0_19 : am_pk "PaperedOver" 0 19 (eF 0 1) := ⟨(rc_0, tc_0, 13), rfl, by decide, (gm 369 (by decide +kernel) (by decide +kernel))⟩
theorem peMain_0_28 : am_pk "PaperedOver" 0 28 (eF 0 2) := ⟨(rc_0, tc_0, 13), rfl, by decide, (gm 370 (by decide +kernel) (by decide +kernel))⟩
theorem peMain_0_35 : am_pk "PaperedOver" 0 35 (eF 0 3) := ⟨(rc_0, tc_0, 13), rfl, by decide, (gm 371 (by decide +kernel) (by decide +kernel))⟩
theorem peMain_0_42 : am_pk "PaperedOver" 0 42 (eF 0 4) := ⟨(rc_0, tc_0, 13), rfl, by decide, (gm 372 (by decide +kernel) (by decide +kernel))⟩
theorem peMain_0_49 : am_pk "PaperedOver" 0 49 (eF 0 5) := ⟨(rc_0, tc_0, 13), rfl, by decide, (gm 373 (by decide +kernel) (by decide +kernel))⟩
theorem peMain_0_53 : am_pk "PaperedOver" 0 53 (eF 0 6) := ⟨(rc_0, tc_0, 13), rfl, by decide, (gm 374 (by decide +kernel) (by decide +kernel))⟩
theorem peMain_0_61 : am_pk "PaperedOver" 0 61 (eF 0 7) := ⟨(rc_0, tc_0, 13), rfl, by decide, (gm 375 (by decide +kernel) (by decide +kernel))⟩
theorem peMain_0_70 : am_pk "PaperedOver" 0 70 (eF 0 8) := ⟨(rc_0, tc_0, 13), rfl, by decide, (gm 376 (by decide +kernel) (by decide +kernel))⟩
theorem peMain_0_77 : am_pk "PaperedOver" 0 77 (eF 0 9) := ⟨(rc_0, tc_0, 13), rfl, by decide, (gm 377 (by decide +kernel) (by decide +kernel))⟩
theorem peMain_0_84 : am_pk "PaperedOver" 0 84 (eF 0 10) := ⟨(rc_0, tc_0, 13), rfl, by decide, (gm 378 (by decide +kernel) (by decide +kernel))⟩
theorem peMain_0_137 : am_pk "PaperedOver" 0 137 (eF 2 1) := ⟨(rc_2, tc_2, 2), rfl, by decide, (gm 97 (by decide +kernel) (by decide +kernel))⟩
theorem peMain_0_145 : am_pk "PaperedOver" 0 145 (eF 3 6) := ⟨(rc_3, tc_3, 8), rfl, by decide, (gm 195 (by decide +kernel) (by decide +kernel))⟩
theorem peMain_0_148 : am_pk "PaperedOver" 0 148 (eF 0 11) := ⟨(rc_0, tc_0, 13), rfl, by decide, (gm 379 (by decide +kernel) (by decide +kernel))⟩
theorem peMain_0_152 : am_pk "PaperedOver" 0 152 (eF 3 7) := ⟨(rc_3, tc_3, 8), rfl, by decide, (gm 196 (by decide +kernel) (by decide +kernel))⟩
theorem peMain_0_155 : am_pk "PaperedOver" 0 155 (eF 3 1) := ⟨(rc_3, tc_3, 8), rfl, by decide, (gm 189 (by decide +kernel) (by decide +kernel))⟩
theorem peMain_0_162 : am_pk "PaperedOver" 0 162 (eF 5 0) := ⟨(rc_5, tc_5, 4), rfl, by decide, (gm 225 (by decide +kernel) (by decide +kernel))⟩
theorem peMain_0_168 : am_pk "PaperedOver" 0 168 (eF 4 0) := ⟨(rc_4, tc_4, 14), rfl, by decide, (gm 119 (by decide +kernel) (by decide +kernel))⟩
theorem peMain_0_195 : am_pk "PaperedOver" 0 195 (eF 5 1) := ⟨(rc_5, tc_5, 4), rfl, by decide, (gm 228 (by decide +kernel) (by decide +kernel))⟩
theorem peMain_0_198 : am_pk "PaperedOver" 0 198 (eF 5 2) := ⟨(rc_5, tc_5, 4), rfl, by decide, (gm 231 (by decide +kernel) (by decide +kernel))⟩
theorem peMain_0_208 : am_pk "PaperedOver" 0 208 (eF 7 2) := ⟨(rc_7, tc_7, 11), rfl, by decide, (gm 271 (by decide +kernel) (by decide +kernel))⟩
theorem peMain_0_211 : am_pk "PaperedOver" 0 211 (eF 7 3) := ⟨(rc_7, tc_7, 11), rfl, by decide, (gm 273 (by decide +kernel) (by decide +kernel))⟩
theorem peMain_0_217 : am_pk "PaperedOver" 0 217 (eF 7 6) := ⟨(rc_7, tc_7, 11), rfl, by decide, (gm 279 (by decide +kernel) (by decide +kernel))⟩
theorem peMain_0_220 : am_pk "PaperedOver" 0 220 (eF 7 4) := ⟨(rc_7, tc_7, 11), rfl, by decide, (gm 275 (by decide +kernel) (by decide +kernel))⟩
theorem peMain_0_223 : am_pk "PaperedOver" 0 223 (eF 4 6) := ⟨(rc_4, tc_4, 14), rfl, by decide, (gm 136 (by decide +kernel) (by decide +kernel))⟩
theorem peMain_0_226 : am_pk "PaperedOver" 0 226 (eF 4 7) := ⟨(rc_4, tc_4, 14), rfl, by decide, (gm 139 (by decide +kernel) (by decide +kernel))⟩
theorem peMain_0_229 : am_pk "PaperedOver" 0 229 (eF 4 8) := ⟨(rc_4, tc_4, 14), rfl, by decide, (gm 142 (by decide +kernel) (by decide +kernel))⟩
theorem peMain_0_232 : am_pk "PaperedOver" 0 232 (eF 4 9) := ⟨(rc_4, tc_4, 14), rfl, by decide, (gm 147 (by decide +kernel) (by decide +kernel))⟩
theorem peMain_0_239 : am_pk "PaperedOver" 0 239 (eF 7 8) := ⟨(rc_7, tc_7, 11), rfl, by decide, (gm 283 (by decide +kernel) (by decide +kernel))⟩
theorem peMain_0_242 : am_pk "PaperedOver" 0 242 (eF 7 7) := ⟨(rc_7, tc_7, 11), rfl, by decide, (gm 281 (by decide +kernel) (by decide +kernel))⟩
theorem peMain_0_268 : am_pk "PaperedOver" 0 268 (eF 7 9) := ⟨(rc_7, tc_7, 11), rfl, by decide, (gm 285 (by decide +kernel) (by decide +kernel))⟩
theorem peMain_0_271 : am_pk "PaperedOver" 0 271 (eF 7 10) := ⟨(rc_7, tc_7, 11), rfl, by decide, (gm 287 (by decide +kernel) (by decide +kernel))⟩
theorem peMain_0_301 : am_pk "PaperedOver" 0 301 (eF 4 4) := ⟨(rc_4, tc_4, 14), rfl, by decide, (gm 129 (by decide +kernel) (by decide +kernel))⟩
theorem peMain_0_314 : am_pk "PaperedOver" 0 314 (eF 9 0) := ⟨(rc_9, tc_9, 3), rfl, by decide, (gm 341 (by decide +kernel) (by decide +kernel))⟩
theorem peMain_0_317 : am_pk "PaperedOver" 0 317 (eF 9 1) := ⟨(rc_9, tc_9, 3), rfl, by decide, (gm 343 (by decide +kernel) (by decide +kernel))⟩
theorem peMain_0_320 : am_pk "PaperedOver" 0 320 (eF 9 2) := ⟨(rc_9, tc_9, 3), rfl, by decide, (gm 345 (by decide +kernel) (by decide +kernel))⟩
theorem peMain_0_323 : am_pk "PaperedOver" 0 323 (eF 6 0) := ⟨(rc_6, tc_6, 2), rfl, by decide, (gm 253 (by decide +kernel) (by decide +kernel))⟩
theorem peMain_0_324 : am_pk "PaperedOver" 0 324 (eF 6 1) := ⟨(rc_6, tc_6, 2), rfl, by decide, (gm 255 (by decide +kernel) (by decide +kernel))⟩
theorem peMain_0_328 : am_pk "PaperedOver" 0 328 (eF 4 5) := ⟨(rc_4, tc_4, 14), rfl, by decide, (gm 132 (by decide +kernel) (by decide +kernel))⟩
theorem peMain_0_344 : am_pk "PaperedOver" 0 344 (eF 10 1) := ⟨(rc_10, tc_10, 2), rfl, by decide, (gm 362 (by decide +kernel) (by decide +kernel))⟩
theorem peMain_0_347 : am_pk "PaperedOver" 0 347 (eF 10 0) := ⟨(rc_10, tc_10, 2), rfl, by decide, (gm 360 (by decide +kernel) (by decide +kernel))⟩
theorem peMain_0_353 : am_pk "PaperedOver" 0 353 (eF 4 10) := ⟨(rc_4, tc_4, 14), rfl, by decide, (gm 151 (by decide +kernel) (by decide +kernel))⟩
theorem peMain_0_356 : am_pk "PaperedOver" 0 356 (eF 0 12) := ⟨(rc_0, tc_0, 13), rfl, by decide, (gm 380 (by decide +kernel) (by decide +kernel))⟩
theorem peMain_0_363 : am_pk "PaperedOver" 0 363 (eF 8 1) := ⟨(rc_8, tc_8, 5), rfl, by decide, (gm 319 (by decide +kernel) (by decide +kernel))⟩
theorem peMain_1_95 : am_pk "PaperedOver" 1 95 (eI (-1000001)) := (gm 420 (by decide +kernel) (by decide +kernel))
theorem peMain_1_132 : am_pk "PaperedOver" 1 132 (eI (-1000003)) := (gm 491 (by decide +kernel) (by decide +kernel))
theorem peMain_1_151 : am_pk "PaperedOver" 1 151 (eI (-1000100)) := (gm 641 (by decide +kernel) (by decide +kernel))
theorem peMain_1_191 : am_pk "PaperedOver" 1 191 (eI (-1000002)) := (gm 769 (by decide +kernel) (by decide +kernel))
theorem peMain_1_204 : am_pk "PaperedOver" 1 204 (eI (-1000000)) := (gm 776 (by decide +kernel) (by decide +kernel))
theorem peMain_1_359 : am_pk "PaperedOver" 1 359 (eI (-1000010)) := (gm 425 (by decide +kernel) (by decide +kernel))
theorem peMain_4_88 : am_pk "PaperedOver" 4 88 (eC 62 2 1) := ⟨1, rfl, wRows_isRow, (gm 412 (by decide +kernel) (by decide +kernel)), vRows_isRow.1, vRows_isRow.2, Or.inl ⟨_, rfl, rfl⟩⟩
theorem peMain_4_92 : am_pk "PaperedOver" 4 92 (eC 63 2 1) := ⟨1, rfl, wRows_isLane, (gm 416 (by decide +kernel) (by decide +kernel)), vRows_isLane.1, vRows_isLane.2, Or.inl ⟨_, rfl, rfl⟩⟩
theorem peMain_4_96 : am_pk "PaperedOver" 4 96 (eC 114 2 0) := ⟨1, rfl, wMain_found, (gm 421 (by decide +kernel) (by decide +kernel)), vMain_found.1, vMain_found.2, Or.inl ⟨_, rfl, rfl⟩⟩
theorem peMain_4_100 : am_pk "PaperedOver" 4 100 (eC 67 4 1) := ⟨3, rfl, wRows_make, (gm 426 (by decide +kernel) (by decide +kernel)), vRows_make.1, vRows_make.2, Or.inl ⟨_, rfl, rfl⟩⟩
theorem peMain_4_104 : am_pk "PaperedOver" 4 104 (eC 115 2 0) := ⟨1, rfl, wMain_clean, (gm 437 (by decide +kernel) (by decide +kernel)), vMain_clean.1, vMain_clean.2, Or.inl ⟨_, rfl, rfl⟩⟩
theorem peMain_4_107 : am_pk "PaperedOver" 4 107 (eC 64 2 1) := ⟨1, rfl, wRows_isThere, (gm 445 (by decide +kernel) (by decide +kernel)), vRows_isThere.1, vRows_isThere.2, Or.inl ⟨_, rfl, rfl⟩⟩
theorem peMain_4_110 : am_pk "PaperedOver" 4 110 (eC 66 4 1) := ⟨3, rfl, wRows_holds, (gm 449 (by decide +kernel) (by decide +kernel)), vRows_holds.1, vRows_holds.2, Or.inl ⟨_, rfl, rfl⟩⟩
theorem peMain_4_114 : am_pk "PaperedOver" 4 114 (eC 69 4 1) := ⟨3, rfl, wRows_put, (gm 453 (by decide +kernel) (by decide +kernel)), vRows_put.1, vRows_put.2, Or.inl ⟨_, rfl, rfl⟩⟩
theorem peMain_4_118 : am_pk "PaperedOver" 4 118 (eC 65 3 1) := ⟨2, rfl, wRows_alike, (gm 463 (by decide +kernel) (by decide +kernel)), vRows_alike.1, vRows_alike.2, Or.inl ⟨_, rfl, rfl⟩⟩
theorem peMain_4_122 : am_pk "PaperedOver" 4 122 (eC 70 6 1) := ⟨5, rfl, wRows_move, (gm 467 (by decide +kernel) (by decide +kernel)), vRows_move.1, vRows_move.2, Or.inl ⟨_, rfl, rfl⟩⟩
theorem peMain_4_126 : am_pk "PaperedOver" 4 126 (eC 71 2 1) := ⟨1, rfl, wRows_remove, (gm 478 (by decide +kernel) (by decide +kernel)), vRows_remove.1, vRows_remove.2, Or.inl ⟨_, rfl, rfl⟩⟩
theorem peMain_4_129 : am_pk "PaperedOver" 4 129 (eC 79 2 2) := ⟨1, rfl, wTape_hasRoom, (gm 487 (by decide +kernel) (by decide +kernel)), vTape_hasRoom.1, vTape_hasRoom.2, Or.inl ⟨_, rfl, rfl⟩⟩
theorem peMain_4_133 : am_pk "PaperedOver" 4 133 (eC 80 3 2) := ⟨2, rfl, wTape_append, (gm 492 (by decide +kernel) (by decide +kernel)), vTape_append.1, vTape_append.2, Or.inl ⟨_, rfl, rfl⟩⟩
theorem peMain_4_141 : am_pk "PaperedOver" 4 141 (eC 46 1 3) := ⟨0, rfl, wReader_read, (gm 500 (by decide +kernel) (by decide +kernel)), vReader_read.1, vReader_read.2, Or.inl ⟨_, rfl, rfl⟩⟩
theorem peMain_4_158 : am_pk "PaperedOver" 4 158 (eC 34 2 4) := ⟨1, rfl, wHouse_take, (gm 642 (by decide +kernel) (by decide +kernel)), vHouse_take.1, vHouse_take.2, Or.inl ⟨_, rfl, rfl⟩⟩
theorem peMain_4_165 : am_pk "PaperedOver" 4 165 (eC 116 1 0) := ⟨0, rfl, wMain_learnAnew, (gm 650 (by decide +kernel) (by decide +kernel)), vMain_learnAnew.1, vMain_learnAnew.2, Or.inl ⟨_, rfl, rfl⟩⟩
theorem peMain_4_171 : am_pk "PaperedOver" 4 171 (eC 26 2 4) := ⟨1, rfl, wHouse_isWall, (gm 738 (by decide +kernel) (by decide +kernel)), vHouse_isWall.1, vHouse_isWall.2, Or.inl ⟨_, rfl, rfl⟩⟩
theorem peMain_4_174 : am_pk "PaperedOver" 4 174 (eC 74 1 5) := ⟨0, rfl, wSpots_hasRoom, (gm 742 (by decide +kernel) (by decide +kernel)), vSpots_hasRoom.1, vSpots_hasRoom.2, Or.inl ⟨_, rfl, rfl⟩⟩
theorem peMain_4_176 : am_pk "PaperedOver" 4 176 (eC 118 4 0) := ⟨3, rfl, wMain_areUnlikePapers, (gm 746 (by decide +kernel) (by decide +kernel)), vMain_areUnlikePapers.1, vMain_areUnlikePapers.2, Or.inl ⟨_, rfl, rfl⟩⟩
theorem peMain_4_179 : am_pk "PaperedOver" 4 179 (eC 76 2 5) := ⟨1, rfl, wSpots_open, (gm 756 (by decide +kernel) (by decide +kernel)), vSpots_open.1, vSpots_open.2, Or.inl ⟨_, rfl, rfl⟩⟩
theorem peMain_4_183 : am_pk "PaperedOver" 4 183 (eC 68 3 1) := ⟨2, rfl, wRows_item, (gm 750 (by decide +kernel) (by decide +kernel)), vRows_item.1, vRows_item.2, Or.inl ⟨_, rfl, rfl⟩⟩
theorem peMain_4_187 : am_pk "PaperedOver" 4 187 (eC 77 3 5) := ⟨2, rfl, wSpots_lay, (gm 761 (by decide +kernel) (by decide +kernel)), vSpots_lay.1, vSpots_lay.2, Or.inl ⟨_, rfl, rfl⟩⟩
theorem peMain_4_192 : am_pk "PaperedOver" 4 192 (eC 73 2 5) := ⟨1, rfl, wSpots_isSpot, (gm 774 (by decide +kernel) (by decide +kernel)), vSpots_isSpot.1, vSpots_isSpot.2, Or.inl ⟨_, rfl, rfl⟩⟩
theorem peMain_4_201 : am_pk "PaperedOver" 4 201 (eC 75 3 5) := ⟨2, rfl, wSpots_layer, (gm 775 (by decide +kernel) (by decide +kernel)), vSpots_layer.1, vSpots_layer.2, Or.inl ⟨_, rfl, rfl⟩⟩
theorem peMain_4_205 : am_pk "PaperedOver" 4 205 (eC 25 1 4) := ⟨0, rfl, wHouse_stands, (gm 781 (by decide +kernel) (by decide +kernel)), vHouse_stands.1, vHouse_stands.2, Or.inl ⟨_, rfl, rfl⟩⟩
theorem peMain_4_214 : am_pk "PaperedOver" 4 214 (eC 27 2 4) := ⟨1, rfl, wHouse_isPaper, (gm 754 (by decide +kernel) (by decide +kernel)), vHouse_isPaper.1, vHouse_isPaper.2, Or.inl ⟨_, rfl, rfl⟩⟩
theorem peMain_4_235 : am_pk "PaperedOver" 4 235 (eC 38 1 8) := ⟨0, rfl, wOrders_all, (gm 790 (by decide +kernel) (by decide +kernel)), vOrders_all.1, vOrders_all.2, Or.inl ⟨_, rfl, rfl⟩⟩
theorem peMain_4_245 : am_pk "PaperedOver" 4 245 (eC 117 2 0) := ⟨1, rfl, wMain_isSeen, (gm 821 (by decide +kernel) (by decide +kernel)), vMain_isSeen.1, vMain_isSeen.2, Or.inl ⟨_, rfl, rfl⟩⟩
theorem peMain_4_251 : am_pk "PaperedOver" 4 251 (eC 8 1 7) := ⟨0, rfl, wFacts_hasRing, (gm 828 (by decide +kernel) (by decide +kernel)), vFacts_hasRing.1, vFacts_hasRing.2, Or.inl ⟨_, rfl, rfl⟩⟩
theorem peMain_4_254 : am_pk "PaperedOver" 4 254 (eC 39 3 8) := ⟨2, rfl, wOrders_withAhead, (gm 829 (by decide +kernel) (by decide +kernel)), vOrders_withAhead.1, vOrders_withAhead.2, Or.inl ⟨_, rfl, rfl⟩⟩
theorem peMain_4_265 : am_pk "PaperedOver" 4 265 (eC 40 1 8) := ⟨0, rfl, wOrders_mostEvenPair, (gm 841 (by decide +kernel) (by decide +kernel)), vOrders_mostEvenPair.1, vOrders_mostEvenPair.2, Or.inl ⟨_, rfl, rfl⟩⟩
theorem peMain_4_274 : am_pk "PaperedOver" 4 274 (eC 18 3 7) := ⟨2, rfl, wFacts_isYounger, (gm 860 (by decide +kernel) (by decide +kernel)), vFacts_isYounger.1, vFacts_isYounger.2, Or.inl ⟨_, rfl, rfl⟩⟩
theorem peMain_4_277 : am_pk "PaperedOver" 4 277 (eC 19 2 7) := ⟨1, rfl, wFacts_scrapedOff, (gm 868 (by decide +kernel) (by decide +kernel)), vFacts_scrapedOff.1, vFacts_scrapedOff.2, Or.inl ⟨_, rfl, rfl⟩⟩
theorem peMain_4_280 : am_pk "PaperedOver" 4 280 (eC 20 2 7) := ⟨1, rfl, wFacts_neverThere, (gm 872 (by decide +kernel) (by decide +kernel)), vFacts_neverThere.1, vFacts_neverThere.2, Or.inl ⟨_, rfl, rfl⟩⟩
theorem peMain_4_283 : am_pk "PaperedOver" 4 283 (eC 21 2 7) := ⟨1, rfl, wFacts_whoCan, (gm 880 (by decide +kernel) (by decide +kernel)), vFacts_whoCan.1, vFacts_whoCan.2, Or.inl ⟨_, rfl, rfl⟩⟩
theorem peMain_4_286 : am_pk "PaperedOver" 4 286 (eC 22 2 7) := ⟨1, rfl, wFacts_missingAt, (gm 888 (by decide +kernel) (by decide +kernel)), vFacts_missingAt.1, vFacts_missingAt.2, Or.inl ⟨_, rfl, rfl⟩⟩
theorem peMain_4_289 : am_pk "PaperedOver" 4 289 (eC 23 2 7) := ⟨1, rfl, wFacts_leastOf, (gm 892 (by decide +kernel) (by decide +kernel)), vFacts_leastOf.1, vFacts_leastOf.2, Or.inl ⟨_, rfl, rfl⟩⟩
theorem peMain_4_292 : am_pk "PaperedOver" 4 292 (eC 24 2 7) := ⟨1, rfl, wFacts_mostOf, (gm 896 (by decide +kernel) (by decide +kernel)), vFacts_mostOf.1, vFacts_mostOf.2, Or.inl ⟨_, rfl, rfl⟩⟩
theorem peMain_4_298 : am_pk "PaperedOver" 4 298 (eC 35 2 4) := ⟨1, rfl, wHouse_printedEvery, (gm 907 (by decide +kernel) (by decide +kernel)), vHouse_printedEvery.1, vHouse_printedEvery.2, Or.inl ⟨_, rfl, rfl⟩⟩
theorem peMain_4_307 : am_pk "PaperedOver" 4 307 (eC 36 3 4) := ⟨2, rfl, wHouse_isToldBy, (gm 921 (by decide +kernel) (by decide +kernel)), vHouse_isToldBy.1, vHouse_isToldBy.2, Or.inl ⟨_, rfl, rfl⟩⟩
theorem peMain_4_310 : am_pk "PaperedOver" 4 310 (eC 5 4 9) := ⟨3, rfl, wCutter_cut, (gm 930 (by decide +kernel) (by decide +kernel)), vCutter_cut.1, vCutter_cut.2, Or.inl ⟨_, rfl, rfl⟩⟩
theorem peMain_4_325 : am_pk "PaperedOver" 4 325 (eC 78 2 5) := ⟨1, rfl, wSpots_take, (gm 951 (by decide +kernel) (by decide +kernel)), vSpots_take.1, vSpots_take.2, Or.inl ⟨_, rfl, rfl⟩⟩
theorem peMain_4_334 : am_pk "PaperedOver" 4 334 (eC 29 3 4) := ⟨2, rfl, wHouse_isOf, (gm 969 (by decide +kernel) (by decide +kernel)), vHouse_isOf.1, vHouse_isOf.2, Or.inl ⟨_, rfl, rfl⟩⟩
theorem peMain_4_337 : am_pk "PaperedOver" 4 337 (eC 0 3 10) := ⟨2, rfl, wBodies_askSize, (gm 974 (by decide +kernel) (by decide +kernel)), vBodies_askSize.1, vBodies_askSize.2, Or.inl ⟨_, rfl, rfl⟩⟩
theorem peMain_4_341 : am_pk "PaperedOver" 4 341 (eC 1 3 10) := ⟨2, rfl, wBodies_askMark, (gm 994 (by decide +kernel) (by decide +kernel)), vBodies_askMark.1, vBodies_askMark.2, Or.inl ⟨_, rfl, rfl⟩⟩
theorem peMain_4_350 : am_pk "PaperedOver" 4 350 (eC 72 1 1) := ⟨0, rfl, wRows_howMany, (gm 1006 (by decide +kernel) (by decide +kernel)), vRows_howMany.1, vRows_howMany.2, Or.inl ⟨_, rfl, rfl⟩⟩
theorem peMain_4_360 : am_pk "PaperedOver" 4 360 (eC 9 1 7) := ⟨0, rfl, wFacts_learn, (gm 654 (by decide +kernel) (by decide +kernel)), vFacts_learn.1, vFacts_learn.2, Or.inl ⟨_, rfl, rfl⟩⟩
theorem peMain_5_248 : am_pk "PaperedOver" 5 248 (eC 119 1 0) := ⟨wMain_isSwitch, sMain_isSwitch, Or.inl (gm 825 (by decide +kernel) (by decide +kernel))⟩
theorem peMain_5_257 : am_pk "PaperedOver" 5 257 (eC 122 2 0) := ⟨wMain_greatestShared, sMain_greatestShared, Or.inl (gm 833 (by decide +kernel) (by decide +kernel))⟩
theorem peMain_5_260 : am_pk "PaperedOver" 5 260 (eC 200 2 0) := ⟨wMath_max, sMath_max, Or.inl (gm 836 (by decide +kernel) (by decide +kernel))⟩
theorem peMain_5_295 : am_pk "PaperedOver" 5 295 (eC 199 1 0) := ⟨wMath_abs, sMath_abs, Or.inl (gm 904 (by decide +kernel) (by decide +kernel))⟩
theorem peMain_5_304 : am_pk "PaperedOver" 5 304 (eC 120 2 0) := ⟨wMain_isSetOf, sMain_isSetOf, Or.inl (gm 918 (by decide +kernel) (by decide +kernel))⟩
theorem peMain_5_331 : am_pk "PaperedOver" 5 331 (eC 28 1 0) := ⟨wHouse_isKind, sHouse_isKind, Or.inl (gm 968 (by decide +kernel) (by decide +kernel))⟩
theorem peMain_5_367 : am_pk "PaperedOver" 5 367 (eC 121 2 0) := ⟨wMain_has, sMain_has, Or.inl (gm 755 (by decide +kernel) (by decide +kernel))⟩
def plMain : List (Nat × Nat × am_N) := [(0, 10, eF 0 0), (0, 19, eF 0 1), (0, 28, eF 0 2), (0, 35, eF 0 3), (0, 42, eF 0 4), (0, 49, eF 0 5), (0, 53, eF 0 6), (0, 61, eF 0 7), (0, 70, eF 0 8), (0, 77, eF 0 9), (0, 84, eF 0 10), (0, 137, eF 2 1), (0, 145, eF 3 6), (0, 148, eF 0 11), (0, 152, eF 3 7), (0, 155, eF 3 1), (0, 162, eF 5 0), (0, 168, eF 4 0), (0, 195, eF 5 1), (0, 198, eF 5 2), (0, 208, eF 7 2), (0, 211, eF 7 3), (0, 217, eF 7 6), (0, 220, eF 7 4), (0, 223, eF 4 6), (0, 226, eF 4 7), (0, 229, eF 4 8), (0, 232, eF 4 9), (0, 239, eF 7 8), (0, 242, eF 7 7), (0, 268, eF 7 9), (0, 271, eF 7 10), (0, 301, eF 4 4), (0, 314, eF 9 0), (0, 317, eF 9 1), (0, 320, eF 9 2), (0, 323, eF 6 0), (0, 324, eF 6 1), (0, 328, eF 4 5), (0, 344, eF 10 1), (0, 347, eF 10 0), (0, 353, eF 4 10), (0, 356, eF 0 12), (0, 363, eF 8 1), (1, 95, eI (-1000001)), (1, 132, eI (-1000003)), (1, 151, eI (-1000100)), (1, 191, eI (-1000002)), (1, 204, eI (-1000000)), (1, 359, eI (-1000010)), (4, 88, eC 62 2 1), (4, 92, eC 63 2 1), (4, 96, eC 114 2 0), (4, 100, eC 67 4 1), (4, 104, eC 115 2 0), (4, 107, eC 64 2 1), (4, 110, eC 66 4 1), (4, 114, eC 69 4 1), (4, 118, eC 65 3 1), (4, 122, eC 70 6 1), (4, 126, eC 71 2 1), (4, 129, eC 79 2 2), (4, 133, eC 80 3 2), (4, 141, eC 46 1 3), (4, 158, eC 34 2 4), (4, 165, eC 116 1 0), (4, 171, eC 26 2 4), (4, 174, eC 74 1 5), (4, 176, eC 118 4 0), (4, 179, eC 76 2 5), (4, 183, eC 68 3 1), (4, 187, eC 77 3 5), (4, 192, eC 73 2 5), (4, 201, eC 75 3 5), (4, 205, eC 25 1 4), (4, 214, eC 27 2 4), (4, 235, eC 38 1 8), (4, 245, eC 117 2 0), (4, 251, eC 8 1 7), (4, 254, eC 39 3 8), (4, 265, eC 40 1 8), (4, 274, eC 18 3 7), (4, 277, eC 19 2 7), (4, 280, eC 20 2 7), (4, 283, eC 21 2 7), (4, 286, eC 22 2 7), (4, 289, eC 23 2 7), (4, 292, eC 24 2 7), (4, 298, eC 35 2 4), (4, 307, eC 36 3 4), (4, 310, eC 5 4 9), (4, 325, eC 78 2 5), (4, 334, eC 29 3 4), (4, 337, eC 0 3 10), (4, 341, eC 1 3 10), (4, 350, eC 72 1 1), (4, 360, eC 9 1 7), (5, 248, eC 119 1 0), (5, 257, eC 122 2 0), (5, 260, eC 200 2 0), (5, 295, eC 199 1 0), (5, 304, eC 120 2 0), (5, 331, eC 28 1 0), (5, 367, eC 121 2 0)]
theorem poMain : ∀ q ∈ plMain, am_pk "PaperedOver" q.1 q.2.1 q.2.2 := List.forall_mem_cons.mpr ⟨peMain_0_10, List.forall_mem_cons.mpr ⟨peMain_0_19, List.forall_mem_cons.mpr ⟨peMain_0_28, List.forall_mem_cons.mpr ⟨peMain_0_35, List.forall_mem_cons.mpr ⟨peMain_0_42, List.forall_mem_cons.mpr ⟨peMain_0_49, List.forall_mem_cons.mpr ⟨peMain_0_53, List.forall_mem_cons.mpr ⟨peMain_0_61, List.forall_mem_cons.mpr ⟨peMain_0_70, List.forall_mem_cons.mpr ⟨peMain_0_77, List.forall_mem_cons.mpr ⟨peMain_0_84, List.forall_mem_cons.mpr ⟨peMain_0_137, List.forall_mem_cons.mpr ⟨peMain_0_145, List.forall_mem_cons.mpr ⟨peMain_0_148, List.forall_mem_cons.mpr ⟨peMain_0_152, List.forall_mem_cons.mpr ⟨peMain_0_155, List.forall_mem_cons.mpr ⟨peMain_0_162, List.forall_mem_cons.mpr ⟨peMain_0_168, List.forall_mem_cons.mpr ⟨peMain_0_195, List.forall_mem_cons.mpr ⟨peMain_0_198, List.forall_mem_cons.mpr ⟨peMain_0_208, List.forall_mem_cons.mpr ⟨peMain_0_211, List.forall_mem_cons.mpr ⟨peMain_0_217, List.forall_mem_cons.mpr ⟨peMain_0_220, List.forall_mem_cons.mpr ⟨peMain_0_223, List.forall_mem_cons.mpr ⟨peMain_0_226, List.forall_mem_cons.mpr ⟨peMain_0_229, List.forall_mem_cons.mpr ⟨peMain_0_232, List.forall_mem_cons.mpr ⟨peMain_0_239, List.forall_mem_cons.mpr ⟨peMain_0_242, List.forall_mem_cons.mpr ⟨peMain_0_268, List.forall_mem_cons.mpr ⟨peMain_0_271, List.forall_mem_cons.mpr ⟨peMain_0_301, List.forall_mem_cons.mpr ⟨peMain_0_314, List.forall_mem_cons.mpr ⟨peMain_0_317, List.forall_mem_cons.mpr ⟨peMain_0_320, List.forall_mem_cons.mpr ⟨peMain_0_323, List.forall_mem_cons.mpr ⟨peMain_0_324, List.forall_mem_cons.mpr ⟨peMain_0_328, List.forall_mem_cons.mpr ⟨peMain_0_344, List.forall_mem_cons.mpr ⟨peMain_0_347, List.forall_mem_cons.mpr ⟨peMain_0_353, List.forall_mem_cons.mpr ⟨peMain_0_356, List.forall_mem_cons.mpr ⟨peMain_0_363, List.forall_mem_cons.mpr ⟨peMain_1_95, List.forall_mem_cons.mpr ⟨peMain_1_132, List.forall_mem_cons.mpr ⟨peMain_1_151, List.forall_mem_cons.mpr ⟨peMain_1_191, List.forall_mem_cons.mpr ⟨peMain_1_204, List.forall_mem_cons.mpr ⟨peMain_1_359, List.forall_mem_cons.mpr ⟨peMain_4_88, List.forall_mem_cons.mpr ⟨peMain_4_92, List.forall_mem_cons.mpr ⟨peMain_4_96, List.forall_mem_cons.mpr ⟨peMain_4_100, List.forall_mem_cons.mpr ⟨peMain_4_104, List.forall_mem_cons.mpr ⟨peMain_4_107, List.forall_mem_cons.mpr ⟨peMain_4_110, List.forall_mem_cons.mpr ⟨peMain_4_114, List.forall_mem_cons.mpr ⟨peMain_4_118, List.forall_mem_cons.mpr ⟨peMain_4_122, List.forall_mem_cons.mpr ⟨peMain_4_126, List.forall_mem_cons.mpr ⟨peMain_4_129, List.forall_mem_cons.mpr ⟨peMain_4_133, List.forall_mem_cons.mpr ⟨peMain_4_141, List.forall_mem_cons.mpr ⟨peMain_4_158, List.forall_mem_cons.mpr ⟨peMain_4_165, List.forall_mem_cons.mpr ⟨peMain_4_171, List.forall_mem_cons.mpr ⟨peMain_4_174, List.forall_mem_cons.mpr ⟨peMain_4_176, List.forall_mem_cons.mpr ⟨peMain_4_179, List.forall_mem_cons.mpr ⟨peMain_4_183, List.forall_mem_cons.mpr ⟨peMain_4_187, List.forall_mem_cons.mpr ⟨peMain_4_192, List.forall_mem_cons.mpr ⟨peMain_4_201, List.forall_mem_cons.mpr ⟨peMain_4_205, List.forall_mem_cons.mpr ⟨peMain_4_214, List.forall_mem_cons.mpr ⟨peMain_4_235, List.forall_mem_cons.mpr ⟨peMain_4_245, List.forall_mem_cons.mpr ⟨peMain_4_251, List.forall_mem_cons.mpr ⟨peMain_4_254, List.forall_mem_cons.mpr ⟨peMain_4_265, List.forall_mem_cons.mpr ⟨peMain_4_274, List.forall_mem_cons.mpr ⟨peMain_4_277, List.forall_mem_cons.mpr ⟨peMain_4_280, List.forall_mem_cons.mpr ⟨peMain_4_283, List.forall_mem_cons.mpr ⟨peMain_4_286, List.forall_mem_cons.mpr ⟨peMain_4_289, List.forall_mem_cons.mpr ⟨peMain_4_292, List.forall_mem_cons.mpr ⟨peMain_4_298, List.forall_mem_cons.mpr ⟨peMain_4_307, List.forall_mem_cons.mpr ⟨peMain_4_310, List.forall_mem_cons.mpr ⟨peMain_4_325, List.forall_mem_cons.mpr ⟨peMain_4_334, List.forall_mem_cons.mpr ⟨peMain_4_337, List.forall_mem_cons.mpr ⟨peMain_4_341, List.forall_mem_cons.mpr ⟨peMain_4_350, List.forall_mem_cons.mpr ⟨peMain_4_360, List.forall_mem_cons.mpr ⟨peMain_5_248, List.forall_mem_cons.mpr ⟨peMain_5_257, List.forall_mem_cons.mpr ⟨peMain_5_260, List.forall_mem_cons.mpr ⟨peMain_5_295, List.forall_mem_cons.mpr ⟨peMain_5_304, List.forall_mem_cons.mpr ⟨peMain_5_331, List.forall_mem_cons.mpr ⟨peMain_5_367, fun _ h => absurd h List.not_mem_nil⟩⟩⟩⟩⟩⟩⟩⟩⟩⟩⟩⟩⟩⟩⟩⟩⟩⟩⟩⟩⟩⟩⟩⟩⟩⟩⟩⟩⟩⟩⟩⟩⟩⟩⟩⟩⟩⟩⟩⟩⟩⟩⟩⟩⟩⟩⟩⟩⟩⟩⟩⟩⟩⟩⟩⟩⟩⟩⟩⟩⟩⟩⟩⟩⟩⟩⟩⟩⟩⟩⟩⟩⟩⟩⟩⟩⟩⟩⟩⟩⟩⟩⟩⟩⟩⟩⟩⟩⟩⟩⟩⟩⟩⟩⟩⟩⟩⟩⟩⟩⟩⟩⟩⟩
def kMain_row : List am_E := [(0, .aload_n 0, [0], none),
  (1, .getfield 10, [], some (eF 0 0)),
  (4, .iload_n 1, [1], none),
  (5, .invokevirtual 88, [], some (eC 62 2 1)),
  (8, .ifCond .eq 20, [28], none),
  (11, .aload_n 0, [0], none),
  (12, .getfield 10, [], some (eF 0 0)),
  (15, .iload_n 2, [2], none),
  (16, .invokevirtual 92, [], some (eC 63 2 1)),
  (19, .ifCond .eq 9, [28], none),
  (22, .iload_n 3, [3], none),
  (23, .bipush 40, [], some (eI 40)),
  (25, .if_icmp .le 6, [31], none),
  (28, .ldc 95, [], some (eI (-1000001))),
  (30, .ireturn, [], none),
  (31, .iload_n 3, [3], none),
  (32, .ifCond .ge 9, [41], none),
  (35, .aload_n 0, [0], none),
  (36, .iconst 4, [], some (eI 4)),
  (37, .invokevirtual 96, [], some (eC 114 2 0)),
  (40, .ireturn, [], none),
  (41, .aload_n 0, [0], none),
  (42, .getfield 10, [], some (eF 0 0)),
  (45, .iload_n 1, [1], none),
  (46, .iload_n 2, [2], none),
  (47, .iload_n 3, [3], none),
  (48, .invokevirtual 100, [], some (eC 67 4 1)),
  (51, .aload_n 0, [0], none),
  (52, .iload_n 3, [3], none),
  (53, .invokevirtual 104, [], some (eC 115 2 0)),
  (56, .ireturn, [], none)]
theorem okMain_row : am_mok mMain_row kMain_row := ⟨by decide +kernel, plMain, by decide +kernel, poMain⟩
def kMain_set : List am_E := [(0, .aload_n 0, [0], none),
  (1, .getfield 10, [], some (eF 0 0)),
  (4, .iload_n 1, [1], none),
  (5, .invokevirtual 88, [], some (eC 62 2 1)),
  (8, .ifCond .ne 6, [14], none),
  (11, .ldc 95, [], some (eI (-1000001))),
  (13, .ireturn, [], none),
  (14, .aload_n 0, [0], none),
  (15, .getfield 10, [], some (eF 0 0)),
  (18, .iload_n 1, [1], none),
  (19, .invokevirtual 107, [], some (eC 64 2 1)),
  (22, .ifCond .ne 9, [31], none),
  (25, .aload_n 0, [0], none),
  (26, .iconst 1, [], some (eI 1)),
  (27, .invokevirtual 96, [], some (eC 114 2 0)),
  (30, .ireturn, [], none),
  (31, .aload_n 0, [0], none),
  (32, .getfield 10, [], some (eF 0 0)),
  (35, .iload_n 1, [1], none),
  (36, .iload_n 2, [2], none),
  (37, .iconst 1, [], some (eI 1)),
  (38, .invokevirtual 110, [], some (eC 66 4 1)),
  (41, .ifCond .ne 9, [50], none),
  (44, .aload_n 0, [0], none),
  (45, .iconst 2, [], some (eI 2)),
  (46, .invokevirtual 96, [], some (eC 114 2 0)),
  (49, .ireturn, [], none),
  (50, .aload_n 0, [0], none),
  (51, .aload_n 0, [0], none),
  (52, .getfield 10, [], some (eF 0 0)),
  (55, .iload_n 1, [1], none),
  (56, .iload_n 2, [2], none),
  (57, .iload_n 3, [3], none),
  (58, .invokevirtual 114, [], some (eC 69 4 1)),
  (61, .invokevirtual 104, [], some (eC 115 2 0)),
  (64, .ireturn, [], none)]
theorem okMain_set : am_mok mMain_set kMain_set := ⟨by decide +kernel, plMain, by decide +kernel, poMain⟩
def kMain_copy : List am_E := [(0, .aload_n 0, [0], none),
  (1, .getfield 10, [], some (eF 0 0)),
  (4, .iload_n 1, [1], none),
  (5, .invokevirtual 88, [], some (eC 62 2 1)),
  (8, .ifCond .eq 14, [22], none),
  (11, .aload_n 0, [0], none),
  (12, .getfield 10, [], some (eF 0 0)),
  (15, .iload_n 3, [3], none),
  (16, .invokevirtual 88, [], some (eC 62 2 1)),
  (19, .ifCond .ne 6, [25], none),
  (22, .ldc 95, [], some (eI (-1000001))),
  (24, .ireturn, [], none),
  (25, .aload_n 0, [0], none),
  (26, .getfield 10, [], some (eF 0 0)),
  (29, .iload_n 1, [1], none),
  (30, .invokevirtual 107, [], some (eC 64 2 1)),
  (33, .ifCond .eq 14, [47], none),
  (36, .aload_n 0, [0], none),
  (37, .getfield 10, [], some (eF 0 0)),
  (40, .iload_n 3, [3], none),
  (41, .invokevirtual 107, [], some (eC 64 2 1)),
  (44, .ifCond .ne 9, [53], none),
  (47, .aload_n 0, [0], none),
  (48, .iconst 1, [], some (eI 1)),
  (49, .invokevirtual 96, [], some (eC 114 2 0)),
  (52, .ireturn, [], none),
  (53, .aload_n 0, [0], none),
  (54, .getfield 10, [], some (eF 0 0)),
  (57, .iload_n 1, [1], none),
  (58, .iload_n 3, [3], none),
  (59, .invokevirtual 118, [], some (eC 65 3 1)),
  (62, .ifCond .ne 9, [71], none),
  (65, .aload_n 0, [0], none),
  (66, .iconst 5, [], some (eI 5)),
  (67, .invokevirtual 96, [], some (eC 114 2 0)),
  (70, .ireturn, [], none),
  (71, .aload_n 0, [0], none),
  (72, .getfield 10, [], some (eF 0 0)),
  (75, .iload_n 1, [1], none),
  (76, .iload_n 2, [2], none),
  (77, .iload 5, [5], none),
  (79, .invokevirtual 110, [], some (eC 66 4 1)),
  (82, .ifCond .eq 18, [100], none),
  (85, .aload_n 0, [0], none),
  (86, .getfield 10, [], some (eF 0 0)),
  (89, .iload_n 3, [3], none),
  (90, .iload 4, [4], none),
  (92, .iload 5, [5], none),
  (94, .invokevirtual 110, [], some (eC 66 4 1)),
  (97, .ifCond .ne 9, [106], none),
  (100, .aload_n 0, [0], none),
  (101, .iconst 2, [], some (eI 2)),
  (102, .invokevirtual 96, [], some (eC 114 2 0)),
  (105, .ireturn, [], none),
  (106, .aload_n 0, [0], none),
  (107, .getfield 10, [], some (eF 0 0)),
  (110, .iload_n 1, [1], none),
  (111, .iload_n 2, [2], none),
  (112, .iload_n 3, [3], none),
  (113, .iload 4, [4], none),
  (115, .iload 5, [5], none),
  (117, .invokevirtual 122, [], some (eC 70 6 1)),
  (120, .aload_n 0, [0], none),
  (121, .iload 5, [5], none),
  (123, .invokevirtual 104, [], some (eC 115 2 0)),
  (126, .ireturn, [], none)]
theorem okMain_copy : am_mok mMain_copy kMain_copy := ⟨by decide +kernel, plMain, by decide +kernel, poMain⟩
def kMain_drop : List am_E := [(0, .aload_n 0, [0], none),
  (1, .getfield 10, [], some (eF 0 0)),
  (4, .iload_n 1, [1], none),
  (5, .invokevirtual 88, [], some (eC 62 2 1)),
  (8, .ifCond .ne 6, [14], none),
  (11, .ldc 95, [], some (eI (-1000001))),
  (13, .ireturn, [], none),
  (14, .aload_n 0, [0], none),
  (15, .getfield 10, [], some (eF 0 0)),
  (18, .iload_n 1, [1], none),
  (19, .invokevirtual 107, [], some (eC 64 2 1)),
  (22, .ifCond .ne 9, [31], none),
  (25, .aload_n 0, [0], none),
  (26, .iconst 1, [], some (eI 1)),
  (27, .invokevirtual 96, [], some (eC 114 2 0)),
  (30, .ireturn, [], none),
  (31, .aload_n 0, [0], none),
  (32, .aload_n 0, [0], none),
  (33, .getfield 10, [], some (eF 0 0)),
  (36, .iload_n 1, [1], none),
  (37, .invokevirtual 126, [], some (eC 71 2 1)),
  (40, .invokevirtual 104, [], some (eC 115 2 0)),
  (43, .ireturn, [], none)]
theorem okMain_drop : am_mok mMain_drop kMain_drop := ⟨by decide +kernel, plMain, by decide +kernel, poMain⟩
def kMain_feed : List am_E := [(0, .iload_n 3, [3], none),
  (1, .iconst 1, [], some (eI 1)),
  (2, .if_icmp .lt 9, [11], none),
  (5, .iload_n 3, [3], none),
  (6, .bipush 8, [], some (eI 8)),
  (8, .if_icmp .le 6, [14], none),
  (11, .ldc 95, [], some (eI (-1000001))),
  (13, .ireturn, [], none),
  (14, .aload_n 0, [0], none),
  (15, .getfield 19, [], some (eF 0 1)),
  (18, .iload_n 3, [3], none),
  (19, .invokevirtual 129, [], some (eC 79 2 2)),
  (22, .ifCond .ne 6, [28], none),
  (25, .ldc 132, [], some (eI (-1000003))),
  (27, .ireturn, [], none),
  (28, .aload_n 0, [0], none),
  (29, .getfield 19, [], some (eF 0 1)),
  (32, .lload_n 1, [1], none),
  (33, .iload_n 3, [3], none),
  (34, .invokevirtual 133, [], some (eC 80 3 2)),
  (37, .aload_n 0, [0], none),
  (38, .getfield 19, [], some (eF 0 1)),
  (41, .getfield 137, [], some (eF 2 1)),
  (44, .ireturn, [], none)]
theorem okMain_feed : am_mok mMain_feed kMain_feed := ⟨by decide +kernel, plMain, by decide +kernel, poMain⟩
def kMain_house : List am_E := [(0, .aload_n 0, [0], none),
  (1, .getfield 28, [], some (eF 0 2)),
  (4, .invokevirtual 141, [], some (eC 46 1 3)),
  (7, .istore_n 1, [1], none),
  (8, .aload_n 0, [0], none),
  (9, .getfield 19, [], some (eF 0 1)),
  (12, .iconst 0, [], some (eI 0)),
  (13, .putfield 137, [], some (eF 2 1)),
  (16, .iload_n 1, [1], none),
  (17, .ifCond .ne 25, [42], none),
  (20, .aload_n 0, [0], none),
  (21, .aload_n 0, [0], none),
  (22, .getfield 28, [], some (eF 0 2)),
  (25, .getfield 145, [], some (eF 3 6)),
  (28, .putfield 148, [], some (eF 0 11)),
  (31, .ldc 151, [], some (eI (-1000100))),
  (33, .aload_n 0, [0], none),
  (34, .getfield 28, [], some (eF 0 2)),
  (37, .getfield 152, [], some (eF 3 7)),
  (40, .isub, [], none),
  (41, .ireturn, [], none),
  (42, .aload_n 0, [0], none),
  (43, .getfield 35, [], some (eF 0 3)),
  (46, .aload_n 0, [0], none),
  (47, .getfield 28, [], some (eF 0 2)),
  (50, .getfield 155, [], some (eF 3 1)),
  (53, .invokevirtual 158, [], some (eC 34 2 4)),
  (56, .aload_n 0, [0], none),
  (57, .getfield 42, [], some (eF 0 4)),
  (60, .iconst 0, [], some (eI 0)),
  (61, .putfield 162, [], some (eF 5 0)),
  (64, .aload_n 0, [0], none),
  (65, .invokevirtual 165, [], some (eC 116 1 0)),
  (68, .aload_n 0, [0], none),
  (69, .getfield 35, [], some (eF 0 3)),
  (72, .getfield 168, [], some (eF 4 0)),
  (75, .ireturn, [], none)]
theorem okMain_house : am_mok mMain_house kMain_house := ⟨by decide +kernel, plMain, by decide +kernel, poMain⟩
def kMain_fault : List am_E := [(0, .aload_n 0, [0], none),
  (1, .getfield 148, [], some (eF 0 11)),
  (4, .ireturn, [], none)]
theorem okMain_fault : am_mok mMain_fault kMain_fault := ⟨by decide +kernel, plMain, by decide +kernel, poMain⟩
def kMain_lift : List am_E := [(0, .aload_n 0, [0], none),
  (1, .getfield 35, [], some (eF 0 3)),
  (4, .iload_n 1, [1], none),
  (5, .invokevirtual 171, [], some (eC 26 2 4)),
  (8, .ifCond .eq 27, [35], none),
  (11, .aload_n 0, [0], none),
  (12, .getfield 10, [], some (eF 0 0)),
  (15, .iload_n 2, [2], none),
  (16, .invokevirtual 88, [], some (eC 62 2 1)),
  (19, .ifCond .eq 16, [35], none),
  (22, .iload 4, [4], none),
  (24, .iconst 1, [], some (eI 1)),
  (25, .if_icmp .lt 10, [35], none),
  (28, .iload 4, [4], none),
  (30, .bipush 8, [], some (eI 8)),
  (32, .if_icmp .le 6, [38], none),
  (35, .ldc 95, [], some (eI (-1000001))),
  (37, .ireturn, [], none),
  (38, .aload_n 0, [0], none),
  (39, .getfield 42, [], some (eF 0 4)),
  (42, .invokevirtual 174, [], some (eC 74 1 5)),
  (45, .ifCond .ne 6, [51], none),
  (48, .ldc 132, [], some (eI (-1000003))),
  (50, .ireturn, [], none),
  (51, .aload_n 0, [0], none),
  (52, .getfield 10, [], some (eF 0 0)),
  (55, .iload_n 2, [2], none),
  (56, .invokevirtual 107, [], some (eC 64 2 1)),
  (59, .ifCond .ne 9, [68], none),
  (62, .aload_n 0, [0], none),
  (63, .iconst 1, [], some (eI 1)),
  (64, .invokevirtual 96, [], some (eC 114 2 0)),
  (67, .ireturn, [], none),
  (68, .aload_n 0, [0], none),
  (69, .getfield 10, [], some (eF 0 0)),
  (72, .iload_n 2, [2], none),
  (73, .iload_n 3, [3], none),
  (74, .iload 4, [4], none),
  (76, .invokevirtual 110, [], some (eC 66 4 1)),
  (79, .ifCond .ne 9, [88], none),
  (82, .aload_n 0, [0], none),
  (83, .iconst 2, [], some (eI 2)),
  (84, .invokevirtual 96, [], some (eC 114 2 0)),
  (87, .ireturn, [], none),
  (88, .aload_n 0, [0], none),
  (89, .iload_n 2, [2], none),
  (90, .iload_n 3, [3], none),
  (91, .iload 4, [4], none),
  (93, .invokevirtual 176, [], some (eC 118 4 0)),
  (96, .ifCond .ne 6, [102], none),
  (99, .ldc 95, [], some (eI (-1000001))),
  (101, .ireturn, [], none),
  (102, .aload_n 0, [0], none),
  (103, .getfield 42, [], some (eF 0 4)),
  (106, .getfield 162, [], some (eF 5 0)),
  (109, .istore 5, [5], none),
  (111, .aload_n 0, [0], none),
  (112, .getfield 42, [], some (eF 0 4)),
  (115, .iload_n 1, [1], none),
  (116, .invokevirtual 179, [], some (eC 76 2 5)),
  (119, .iconst 0, [], some (eI 0)),
  (120, .istore 6, [6], none),
  (122, .iload 6, [6], none),
  (124, .iload 4, [4], none),
  (126, .if_icmp .ge 30, [156], none),
  (129, .aload_n 0, [0], none),
  (130, .getfield 42, [], some (eF 0 4)),
  (133, .iload 5, [5], none),
  (135, .aload_n 0, [0], none),
  (136, .getfield 10, [], some (eF 0 0)),
  (139, .iload_n 2, [2], none),
  (140, .iload_n 3, [3], none),
  (141, .iload 6, [6], none),
  (143, .iadd, [], none),
  (144, .invokevirtual 183, [], some (eC 68 3 1)),
  (147, .invokevirtual 187, [], some (eC 77 3 5)),
  (150, .iinc 6 1, [6], some (eI 1)),
  (153, .goto (-31), [122], none),
  (156, .aload_n 0, [0], none),
  (157, .invokevirtual 165, [], some (eC 116 1 0)),
  (160, .aload_n 0, [0], none),
  (161, .iload 5, [5], none),
  (163, .invokevirtual 104, [], some (eC 115 2 0)),
  (166, .ireturn, [], none)]
theorem okMain_lift : am_mok mMain_lift kMain_lift := ⟨by decide +kernel, plMain, by decide +kernel, poMain⟩
def kMain_forget : List am_E := [(0, .aload_n 0, [0], none),
  (1, .getfield 42, [], some (eF 0 4)),
  (4, .getfield 162, [], some (eF 5 0)),
  (7, .ifCond .ne 6, [13], none),
  (10, .ldc 191, [], some (eI (-1000002))),
  (12, .ireturn, [], none),
  (13, .aload_n 0, [0], none),
  (14, .getfield 42, [], some (eF 0 4)),
  (17, .dup, [], none),
  (18, .getfield 162, [], some (eF 5 0)),
  (21, .iconst 1, [], some (eI 1)),
  (22, .isub, [], none),
  (23, .putfield 162, [], some (eF 5 0)),
  (26, .aload_n 0, [0], none),
  (27, .invokevirtual 165, [], some (eC 116 1 0)),
  (30, .aload_n 0, [0], none),
  (31, .getfield 42, [], some (eF 0 4)),
  (34, .getfield 162, [], some (eF 5 0)),
  (37, .ireturn, [], none)]
theorem okMain_forget : am_mok mMain_forget kMain_forget := ⟨by decide +kernel, plMain, by decide +kernel, poMain⟩
def kMain_spot : List am_E := [(0, .aload_n 0, [0], none),
  (1, .getfield 42, [], some (eF 0 4)),
  (4, .iload_n 1, [1], none),
  (5, .invokevirtual 192, [], some (eC 73 2 5)),
  (8, .ifCond .eq 8, [16], none),
  (11, .iload_n 2, [2], none),
  (12, .iconst (-1), [], some (eI (-1))),
  (13, .if_icmp .ge 6, [19], none),
  (16, .ldc 95, [], some (eI (-1000001))),
  (18, .ireturn, [], none),
  (19, .iload_n 2, [2], none),
  (20, .iconst (-1), [], some (eI (-1))),
  (21, .if_icmp .ne 13, [34], none),
  (24, .aload_n 0, [0], none),
  (25, .getfield 42, [], some (eF 0 4)),
  (28, .getfield 195, [], some (eF 5 1)),
  (31, .iload_n 1, [1], none),
  (32, .iaload, [], none),
  (33, .ireturn, [], none),
  (34, .iload_n 2, [2], none),
  (35, .aload_n 0, [0], none),
  (36, .getfield 42, [], some (eF 0 4)),
  (39, .getfield 198, [], some (eF 5 2)),
  (42, .iload_n 1, [1], none),
  (43, .iaload, [], none),
  (44, .if_icmp .ge 15, [59], none),
  (47, .aload_n 0, [0], none),
  (48, .getfield 42, [], some (eF 0 4)),
  (51, .iload_n 1, [1], none),
  (52, .iload_n 2, [2], none),
  (53, .invokevirtual 201, [], some (eC 75 3 5)),
  (56, .goto 5, [61], none),
  (59, .ldc 204, [], some (eI (-1000000))),
  (61, .ireturn, [], none)]
theorem okMain_spot : am_mok mMain_spot kMain_spot := ⟨by decide +kernel, plMain, by decide +kernel, poMain⟩
def kMain_papers : List am_E := [(0, .aload_n 0, [0], none),
  (1, .getfield 35, [], some (eF 0 3)),
  (4, .invokevirtual 205, [], some (eC 25 1 4)),
  (7, .ifCond .ne 6, [13], none),
  (10, .ldc 191, [], some (eI (-1000002))),
  (12, .ireturn, [], none),
  (13, .iload_n 1, [1], none),
  (14, .ifCond .ne 11, [25], none),
  (17, .aload_n 0, [0], none),
  (18, .getfield 61, [], some (eF 0 7)),
  (21, .getfield 208, [], some (eF 7 2)),
  (24, .ireturn, [], none),
  (25, .iload_n 1, [1], none),
  (26, .iconst 1, [], some (eI 1)),
  (27, .if_icmp .ne 11, [38], none),
  (30, .aload_n 0, [0], none),
  (31, .getfield 61, [], some (eF 0 7)),
  (34, .getfield 211, [], some (eF 7 3)),
  (37, .ireturn, [], none),
  (38, .iload_n 1, [1], none),
  (39, .bipush 10, [], some (eI 10)),
  (41, .if_icmp .lt 30, [71], none),
  (44, .aload_n 0, [0], none),
  (45, .getfield 35, [], some (eF 0 3)),
  (48, .iload_n 1, [1], none),
  (49, .bipush 10, [], some (eI 10)),
  (51, .isub, [], none),
  (52, .invokevirtual 214, [], some (eC 27 2 4)),
  (55, .ifCond .eq 16, [71], none),
  (58, .aload_n 0, [0], none),
  (59, .getfield 61, [], some (eF 0 7)),
  (62, .getfield 217, [], some (eF 7 6)),
  (65, .iload_n 1, [1], none),
  (66, .bipush 10, [], some (eI 10)),
  (68, .isub, [], none),
  (69, .iaload, [], none),
  (70, .ireturn, [], none),
  (71, .iload_n 1, [1], none),
  (72, .bipush 30, [], some (eI 30)),
  (74, .if_icmp .lt 30, [104], none),
  (77, .aload_n 0, [0], none),
  (78, .getfield 35, [], some (eF 0 3)),
  (81, .iload_n 1, [1], none),
  (82, .bipush 30, [], some (eI 30)),
  (84, .isub, [], none),
  (85, .invokevirtual 171, [], some (eC 26 2 4)),
  (88, .ifCond .eq 16, [104], none),
  (91, .aload_n 0, [0], none),
  (92, .getfield 61, [], some (eF 0 7)),
  (95, .getfield 220, [], some (eF 7 4)),
  (98, .iload_n 1, [1], none),
  (99, .bipush 30, [], some (eI 30)),
  (101, .isub, [], none),
  (102, .iaload, [], none),
  (103, .ireturn, [], none),
  (104, .ldc 95, [], some (eI (-1000001))),
  (106, .ireturn, [], none)]
theorem okMain_papers : am_mok mMain_papers kMain_papers := ⟨by decide +kernel, plMain, by decide +kernel, poMain⟩
def kMain_paper : List am_E := [(0, .aload_n 0, [0], none),
  (1, .getfield 35, [], some (eF 0 3)),
  (4, .iload_n 1, [1], none),
  (5, .invokevirtual 214, [], some (eC 27 2 4)),
  (8, .ifCond .ne 6, [14], none),
  (11, .ldc 95, [], some (eI (-1000001))),
  (13, .ireturn, [], none),
  (14, .iload_n 2, [2], none),
  (15, .tableswitch 69 0 3 #[29, 39, 49, 59], [84, 44, 0, 54, 1, 64, 2, 74, 3], none),
  (44, .aload_n 0, [0], none),
  (45, .getfield 35, [], some (eF 0 3)),
  (48, .getfield 223, [], some (eF 4 6)),
  (51, .iload_n 1, [1], none),
  (52, .iaload, [], none),
  (53, .ireturn, [], none),
  (54, .aload_n 0, [0], none),
  (55, .getfield 35, [], some (eF 0 3)),
  (58, .getfield 226, [], some (eF 4 7)),
  (61, .iload_n 1, [1], none),
  (62, .iaload, [], none),
  (63, .ireturn, [], none),
  (64, .aload_n 0, [0], none),
  (65, .getfield 35, [], some (eF 0 3)),
  (68, .getfield 229, [], some (eF 4 8)),
  (71, .iload_n 1, [1], none),
  (72, .iaload, [], none),
  (73, .ireturn, [], none),
  (74, .aload_n 0, [0], none),
  (75, .getfield 35, [], some (eF 0 3)),
  (78, .getfield 232, [], some (eF 4 9)),
  (81, .iload_n 1, [1], none),
  (82, .iaload, [], none),
  (83, .ireturn, [], none),
  (84, .ldc 95, [], some (eI (-1000001))),
  (86, .ireturn, [], none)]
theorem okMain_paper : am_mok mMain_paper kMain_paper := ⟨by decide +kernel, plMain, by decide +kernel, poMain⟩
def kMain_orders : List am_E := [(0, .aload_n 0, [0], none),
  (1, .getfield 35, [], some (eF 0 3)),
  (4, .invokevirtual 205, [], some (eC 25 1 4)),
  (7, .ifCond .ne 6, [13], none),
  (10, .ldc 191, [], some (eI (-1000002))),
  (12, .ireturn, [], none),
  (13, .aload_n 0, [0], none),
  (14, .getfield 70, [], some (eF 0 8)),
  (17, .invokevirtual 235, [], some (eC 38 1 8)),
  (20, .ireturn, [], none)]
theorem okMain_orders : am_mok mMain_orders kMain_orders := ⟨by decide +kernel, plMain, by decide +kernel, poMain⟩
def kMain_first : List am_E := [(0, .aload_n 0, [0], none),
  (1, .getfield 35, [], some (eF 0 3)),
  (4, .invokevirtual 205, [], some (eC 25 1 4)),
  (7, .ifCond .ne 6, [13], none),
  (10, .ldc 191, [], some (eI (-1000002))),
  (12, .ireturn, [], none),
  (13, .iload_n 1, [1], none),
  (14, .ifCond .ge 6, [20], none),
  (17, .ldc 95, [], some (eI (-1000001))),
  (19, .ireturn, [], none),
  (20, .iload_n 1, [1], none),
  (21, .aload_n 0, [0], none),
  (22, .getfield 61, [], some (eF 0 7)),
  (25, .getfield 239, [], some (eF 7 8)),
  (28, .if_icmp .ge 15, [43], none),
  (31, .aload_n 0, [0], none),
  (32, .getfield 61, [], some (eF 0 7)),
  (35, .getfield 242, [], some (eF 7 7)),
  (38, .iload_n 1, [1], none),
  (39, .iaload, [], none),
  (40, .goto 5, [45], none),
  (43, .ldc 204, [], some (eI (-1000000))),
  (45, .ireturn, [], none)]
theorem okMain_first : am_mok mMain_first kMain_first := ⟨by decide +kernel, plMain, by decide +kernel, poMain⟩
def kMain_odds : List am_E := [(0, .aload_n 0, [0], none),
  (1, .iload_n 1, [1], none),
  (2, .invokevirtual 245, [], some (eC 117 2 0)),
  (5, .ifCond .eq 23, [28], none),
  (8, .aload_n 0, [0], none),
  (9, .iload_n 2, [2], none),
  (10, .invokevirtual 245, [], some (eC 117 2 0)),
  (13, .ifCond .eq 15, [28], none),
  (16, .iload_n 1, [1], none),
  (17, .iload_n 2, [2], none),
  (18, .if_icmp .eq 10, [28], none),
  (21, .iload_n 3, [3], none),
  (22, .invokestatic 248, [], some (eC 119 1 0)),
  (25, .ifCond .ne 6, [31], none),
  (28, .ldc 95, [], some (eI (-1000001))),
  (30, .ireturn, [], none),
  (31, .aload_n 0, [0], none),
  (32, .getfield 61, [], some (eF 0 7)),
  (35, .invokevirtual 251, [], some (eC 8 1 7)),
  (38, .ifCond .eq 6, [44], none),
  (41, .ldc 191, [], some (eI (-1000002))),
  (43, .ireturn, [], none),
  (44, .aload_n 0, [0], none),
  (45, .getfield 70, [], some (eF 0 8)),
  (48, .iload_n 1, [1], none),
  (49, .iload_n 2, [2], none),
  (50, .invokevirtual 254, [], some (eC 39 3 8)),
  (53, .istore 4, [4], none),
  (55, .aload_n 0, [0], none),
  (56, .getfield 70, [], some (eF 0 8)),
  (59, .invokevirtual 235, [], some (eC 38 1 8)),
  (62, .istore 5, [5], none),
  (64, .iconst 1, [], some (eI 1)),
  (65, .iload 4, [4], none),
  (67, .iload 5, [5], none),
  (69, .invokestatic 257, [], some (eC 122 2 0)),
  (72, .invokestatic 260, [], some (eC 200 2 0)),
  (75, .istore 6, [6], none),
  (77, .iload_n 3, [3], none),
  (78, .ifCond .ne 11, [89], none),
  (81, .iload 4, [4], none),
  (83, .iload 6, [6], none),
  (85, .idiv, [], none),
  (86, .goto 8, [94], none),
  (89, .iload 5, [5], none),
  (91, .iload 6, [6], none),
  (93, .idiv, [], none),
  (94, .ireturn, [], none)]
theorem okMain_odds : am_mok mMain_odds kMain_odds := ⟨by decide +kernel, plMain, by decide +kernel, poMain⟩
def kMain_next : List am_E := [(0, .aload_n 0, [0], none),
  (1, .getfield 35, [], some (eF 0 3)),
  (4, .invokevirtual 205, [], some (eC 25 1 4)),
  (7, .ifCond .eq 13, [20], none),
  (10, .aload_n 0, [0], none),
  (11, .getfield 61, [], some (eF 0 7)),
  (14, .invokevirtual 251, [], some (eC 8 1 7)),
  (17, .ifCond .eq 6, [23], none),
  (20, .ldc 191, [], some (eI (-1000002))),
  (22, .ireturn, [], none),
  (23, .aload_n 0, [0], none),
  (24, .getfield 70, [], some (eF 0 8)),
  (27, .invokevirtual 265, [], some (eC 40 1 8)),
  (30, .istore_n 1, [1], none),
  (31, .iload_n 1, [1], none),
  (32, .ifCond .ge 8, [40], none),
  (35, .ldc 204, [], some (eI (-1000000))),
  (37, .goto 4, [41], none),
  (40, .iload_n 1, [1], none),
  (41, .ireturn, [], none)]
theorem okMain_next : am_mok mMain_next kMain_next := ⟨by decide +kernel, plMain, by decide +kernel, poMain⟩
def kMain_years : List am_E := [(0, .aload_n 0, [0], none),
  (1, .iload_n 1, [1], none),
  (2, .invokevirtual 245, [], some (eC 117 2 0)),
  (5, .ifCond .eq 12, [17], none),
  (8, .iload_n 2, [2], none),
  (9, .ifCond .lt 8, [17], none),
  (12, .iload_n 2, [2], none),
  (13, .iconst 2, [], some (eI 2)),
  (14, .if_icmp .le 6, [20], none),
  (17, .ldc 95, [], some (eI (-1000001))),
  (19, .ireturn, [], none),
  (20, .aload_n 0, [0], none),
  (21, .getfield 61, [], some (eF 0 7)),
  (24, .invokevirtual 251, [], some (eC 8 1 7)),
  (27, .ifCond .eq 6, [33], none),
  (30, .ldc 191, [], some (eI (-1000002))),
  (32, .ireturn, [], none),
  (33, .iload_n 2, [2], none),
  (34, .ifCond .ne 13, [47], none),
  (37, .aload_n 0, [0], none),
  (38, .getfield 61, [], some (eF 0 7)),
  (41, .getfield 268, [], some (eF 7 9)),
  (44, .iload_n 1, [1], none),
  (45, .iaload, [], none),
  (46, .ireturn, [], none),
  (47, .iload_n 2, [2], none),
  (48, .iconst 1, [], some (eI 1)),
  (49, .if_icmp .ne 13, [62], none),
  (52, .aload_n 0, [0], none),
  (53, .getfield 61, [], some (eF 0 7)),
  (56, .getfield 271, [], some (eF 7 10)),
  (59, .iload_n 1, [1], none),
  (60, .iaload, [], none),
  (61, .ireturn, [], none),
  (62, .aload_n 0, [0], none),
  (63, .getfield 61, [], some (eF 0 7)),
  (66, .getfield 268, [], some (eF 7 9)),
  (69, .iload_n 1, [1], none),
  (70, .iaload, [], none),
  (71, .aload_n 0, [0], none),
  (72, .getfield 61, [], some (eF 0 7)),
  (75, .getfield 271, [], some (eF 7 10)),
  (78, .iload_n 1, [1], none),
  (79, .iaload, [], none),
  (80, .if_icmp .le 7, [87], none),
  (83, .iconst 1, [], some (eI 1)),
  (84, .goto 4, [88], none),
  (87, .iconst 0, [], some (eI 0)),
  (88, .ireturn, [], none)]
theorem okMain_years : am_mok mMain_years kMain_years := ⟨by decide +kernel, plMain, by decide +kernel, poMain⟩
def kMain_younger : List am_E := [(0, .aload_n 0, [0], none),
  (1, .getfield 35, [], some (eF 0 3)),
  (4, .iload_n 1, [1], none),
  (5, .invokevirtual 171, [], some (eC 26 2 4)),
  (8, .ifCond .eq 19, [27], none),
  (11, .aload_n 0, [0], none),
  (12, .getfield 35, [], some (eF 0 3)),
  (15, .iload_n 2, [2], none),
  (16, .invokevirtual 171, [], some (eC 26 2 4)),
  (19, .ifCond .eq 8, [27], none),
  (22, .iload_n 1, [1], none),
  (23, .iload_n 2, [2], none),
  (24, .if_icmp .ne 6, [30], none),
  (27, .ldc 95, [], some (eI (-1000001))),
  (29, .ireturn, [], none),
  (30, .aload_n 0, [0], none),
  (31, .getfield 61, [], some (eF 0 7)),
  (34, .invokevirtual 251, [], some (eC 8 1 7)),
  (37, .ifCond .eq 6, [43], none),
  (40, .ldc 191, [], some (eI (-1000002))),
  (42, .ireturn, [], none),
  (43, .aload_n 0, [0], none),
  (44, .getfield 61, [], some (eF 0 7)),
  (47, .iload_n 1, [1], none),
  (48, .iload_n 2, [2], none),
  (49, .invokevirtual 274, [], some (eC 18 3 7)),
  (52, .ifCond .eq 7, [59], none),
  (55, .iconst 1, [], some (eI 1)),
  (56, .goto 4, [60], none),
  (59, .iconst 0, [], some (eI 0)),
  (60, .ireturn, [], none)]
theorem okMain_younger : am_mok mMain_younger kMain_younger := ⟨by decide +kernel, plMain, by decide +kernel, poMain⟩
def kMain_lacks : List am_E := [(0, .aload_n 0, [0], none),
  (1, .getfield 35, [], some (eF 0 3)),
  (4, .iload_n 1, [1], none),
  (5, .invokevirtual 171, [], some (eC 26 2 4)),
  (8, .ifCond .eq 10, [18], none),
  (11, .iload_n 2, [2], none),
  (12, .invokestatic 248, [], some (eC 119 1 0)),
  (15, .ifCond .ne 6, [21], none),
  (18, .ldc 95, [], some (eI (-1000001))),
  (20, .ireturn, [], none),
  (21, .aload_n 0, [0], none),
  (22, .getfield 61, [], some (eF 0 7)),
  (25, .invokevirtual 251, [], some (eC 8 1 7)),
  (28, .ifCond .eq 6, [34], none),
  (31, .ldc 191, [], some (eI (-1000002))),
  (33, .ireturn, [], none),
  (34, .iload_n 2, [2], none),
  (35, .ifCond .ne 14, [49], none),
  (38, .aload_n 0, [0], none),
  (39, .getfield 61, [], some (eF 0 7)),
  (42, .iload_n 1, [1], none),
  (43, .invokevirtual 277, [], some (eC 19 2 7)),
  (46, .goto 11, [57], none),
  (49, .aload_n 0, [0], none),
  (50, .getfield 61, [], some (eF 0 7)),
  (53, .iload_n 1, [1], none),
  (54, .invokevirtual 280, [], some (eC 20 2 7)),
  (57, .ireturn, [], none)]
theorem okMain_lacks : am_mok mMain_lacks kMain_lacks := ⟨by decide +kernel, plMain, by decide +kernel, poMain⟩
def kMain_tenants : List am_E := [(0, .aload_n 0, [0], none),
  (1, .iload_n 1, [1], none),
  (2, .invokevirtual 245, [], some (eC 117 2 0)),
  (5, .ifCond .ne 6, [11], none),
  (8, .ldc 95, [], some (eI (-1000001))),
  (10, .ireturn, [], none),
  (11, .aload_n 0, [0], none),
  (12, .getfield 61, [], some (eF 0 7)),
  (15, .invokevirtual 251, [], some (eC 8 1 7)),
  (18, .ifCond .eq 6, [24], none),
  (21, .ldc 191, [], some (eI (-1000002))),
  (23, .ireturn, [], none),
  (24, .aload_n 0, [0], none),
  (25, .getfield 61, [], some (eF 0 7)),
  (28, .iload_n 1, [1], none),
  (29, .invokevirtual 283, [], some (eC 21 2 7)),
  (32, .ireturn, [], none)]
theorem okMain_tenants : am_mok mMain_tenants kMain_tenants := ⟨by decide +kernel, plMain, by decide +kernel, poMain⟩
def kMain_cupboard : List am_E := [(0, .aload_n 0, [0], none),
  (1, .getfield 42, [], some (eF 0 4)),
  (4, .iload_n 1, [1], none),
  (5, .invokevirtual 192, [], some (eC 73 2 5)),
  (8, .ifCond .eq 10, [18], none),
  (11, .iload_n 2, [2], none),
  (12, .invokestatic 248, [], some (eC 119 1 0)),
  (15, .ifCond .ne 6, [21], none),
  (18, .ldc 95, [], some (eI (-1000001))),
  (20, .ireturn, [], none),
  (21, .aload_n 0, [0], none),
  (22, .getfield 61, [], some (eF 0 7)),
  (25, .invokevirtual 251, [], some (eC 8 1 7)),
  (28, .ifCond .eq 6, [34], none),
  (31, .ldc 191, [], some (eI (-1000002))),
  (33, .ireturn, [], none),
  (34, .aload_n 0, [0], none),
  (35, .getfield 61, [], some (eF 0 7)),
  (38, .iload_n 1, [1], none),
  (39, .invokevirtual 286, [], some (eC 22 2 7)),
  (42, .istore_n 3, [3], none),
  (43, .iload_n 3, [3], none),
  (44, .ifCond .ne 6, [50], none),
  (47, .ldc 204, [], some (eI (-1000000))),
  (49, .ireturn, [], none),
  (50, .iload_n 2, [2], none),
  (51, .ifCond .ne 14, [65], none),
  (54, .aload_n 0, [0], none),
  (55, .getfield 61, [], some (eF 0 7)),
  (58, .iload_n 3, [3], none),
  (59, .invokevirtual 289, [], some (eC 23 2 7)),
  (62, .goto 11, [73], none),
  (65, .aload_n 0, [0], none),
  (66, .getfield 61, [], some (eF 0 7)),
  (69, .iload_n 3, [3], none),
  (70, .invokevirtual 292, [], some (eC 24 2 7)),
  (73, .ireturn, [], none)]
theorem okMain_cupboard : am_mok mMain_cupboard kMain_cupboard := ⟨by decide +kernel, plMain, by decide +kernel, poMain⟩
def kMain_scrap : List am_E := [(0, .aload_n 0, [0], none),
  (1, .getfield 35, [], some (eF 0 3)),
  (4, .invokevirtual 205, [], some (eC 25 1 4)),
  (7, .ifCond .ne 6, [13], none),
  (10, .ldc 191, [], some (eI (-1000002))),
  (12, .ireturn, [], none),
  (13, .iload_n 1, [1], none),
  (14, .ifCond .lt 21, [35], none),
  (17, .iload_n 1, [1], none),
  (18, .sipush 400, [], some (eI 400)),
  (21, .if_icmp .gt 14, [35], none),
  (24, .iload_n 2, [2], none),
  (25, .ifCond .lt 10, [35], none),
  (28, .iload_n 2, [2], none),
  (29, .sipush 400, [], some (eI 400)),
  (32, .if_icmp .le 6, [38], none),
  (35, .ldc 95, [], some (eI (-1000001))),
  (37, .ireturn, [], none),
  (38, .aload_n 0, [0], none),
  (39, .getfield 35, [], some (eF 0 3)),
  (42, .iload_n 1, [1], none),
  (43, .iload_n 2, [2], none),
  (44, .isub, [], none),
  (45, .invokestatic 295, [], some (eC 199 1 0)),
  (48, .invokevirtual 298, [], some (eC 35 2 4)),
  (51, .ireturn, [], none)]
theorem okMain_scrap : am_mok mMain_scrap kMain_scrap := ⟨by decide +kernel, plMain, by decide +kernel, poMain⟩
def kMain_tells : List am_E := [(0, .aload_n 0, [0], none),
  (1, .getfield 35, [], some (eF 0 3)),
  (4, .invokevirtual 205, [], some (eC 25 1 4)),
  (7, .ifCond .ne 6, [13], none),
  (10, .ldc 191, [], some (eI (-1000002))),
  (12, .ireturn, [], none),
  (13, .iload_n 1, [1], none),
  (14, .aload_n 0, [0], none),
  (15, .getfield 35, [], some (eF 0 3)),
  (18, .getfield 301, [], some (eF 4 4)),
  (21, .invokestatic 304, [], some (eC 120 2 0)),
  (24, .ifCond .ne 6, [30], none),
  (27, .ldc 95, [], some (eI (-1000001))),
  (29, .ireturn, [], none),
  (30, .iconst 1, [], some (eI 1)),
  (31, .istore_n 2, [2], none),
  (32, .iload_n 2, [2], none),
  (33, .bipush 99, [], some (eI 99)),
  (35, .if_icmp .gt 23, [58], none),
  (38, .aload_n 0, [0], none),
  (39, .getfield 35, [], some (eF 0 3)),
  (42, .iload_n 1, [1], none),
  (43, .iload_n 2, [2], none),
  (44, .invokevirtual 307, [], some (eC 36 3 4)),
  (47, .ifCond .eq 5, [52], none),
  (50, .iload_n 2, [2], none),
  (51, .ireturn, [], none),
  (52, .iinc 2 1, [2], some (eI 1)),
  (55, .goto (-23), [32], none),
  (58, .ldc 204, [], some (eI (-1000000))),
  (60, .ireturn, [], none)]
theorem okMain_tells : am_mok mMain_tells kMain_tells := ⟨by decide +kernel, plMain, by decide +kernel, poMain⟩
def kMain_rolls : List am_E := [(0, .aload_n 0, [0], none),
  (1, .getfield 35, [], some (eF 0 3)),
  (4, .iload_n 1, [1], none),
  (5, .invokevirtual 214, [], some (eC 27 2 4)),
  (8, .ifCond .eq 26, [34], none),
  (11, .iload_n 2, [2], none),
  (12, .aload_n 0, [0], none),
  (13, .getfield 35, [], some (eF 0 3)),
  (16, .getfield 168, [], some (eF 4 0)),
  (19, .invokestatic 304, [], some (eC 120 2 0)),
  (22, .ifCond .eq 12, [34], none),
  (25, .iload_n 3, [3], none),
  (26, .ifCond .lt 8, [34], none),
  (29, .iload_n 3, [3], none),
  (30, .iconst 2, [], some (eI 2)),
  (31, .if_icmp .le 6, [37], none),
  (34, .ldc 95, [], some (eI (-1000001))),
  (36, .ireturn, [], none),
  (37, .aload_n 0, [0], none),
  (38, .getfield 77, [], some (eF 0 9)),
  (41, .aload_n 0, [0], none),
  (42, .getfield 35, [], some (eF 0 3)),
  (45, .iload_n 1, [1], none),
  (46, .iload_n 2, [2], none),
  (47, .invokevirtual 310, [], some (eC 5 4 9)),
  (50, .iload_n 3, [3], none),
  (51, .ifCond .ne 11, [62], none),
  (54, .aload_n 0, [0], none),
  (55, .getfield 77, [], some (eF 0 9)),
  (58, .getfield 314, [], some (eF 9 0)),
  (61, .ireturn, [], none),
  (62, .iload_n 3, [3], none),
  (63, .iconst 1, [], some (eI 1)),
  (64, .if_icmp .ne 13, [77], none),
  (67, .aload_n 0, [0], none),
  (68, .getfield 77, [], some (eF 0 9)),
  (71, .getfield 317, [], some (eF 9 1)),
  (74, .goto 10, [84], none),
  (77, .aload_n 0, [0], none),
  (78, .getfield 77, [], some (eF 0 9)),
  (81, .getfield 320, [], some (eF 9 2)),
  (84, .ireturn, [], none)]
theorem okMain_rolls : am_mok mMain_rolls kMain_rolls := ⟨by decide +kernel, plMain, by decide +kernel, poMain⟩
def kMain_image : List am_E := [(0, .iload_n 1, [1], none),
  (1, .invokestatic 248, [], some (eC 119 1 0)),
  (4, .ifCond .ne 6, [10], none),
  (7, .ldc 95, [], some (eI (-1000001))),
  (9, .ireturn, [], none),
  (10, .aload_n 0, [0], none),
  (11, .getfield 35, [], some (eF 0 3)),
  (14, .invokevirtual 205, [], some (eC 25 1 4)),
  (17, .ifCond .ne 6, [23], none),
  (20, .ldc 191, [], some (eI (-1000002))),
  (22, .ireturn, [], none),
  (23, .iload_n 1, [1], none),
  (24, .ifCond .ne 10, [34], none),
  (27, .aload_n 0, [0], none),
  (28, .getfield 49, [], some (eF 0 5)),
  (31, .goto 7, [38], none),
  (34, .aload_n 0, [0], none),
  (35, .getfield 53, [], some (eF 0 6)),
  (38, .astore_n 2, [2], none),
  (39, .aload_n 2, [2], none),
  (40, .getfield 323, [], some (eF 6 0)),
  (43, .aload_n 0, [0], none),
  (44, .getfield 35, [], some (eF 0 3)),
  (47, .invokevirtual 158, [], some (eC 34 2 4)),
  (50, .aload_n 2, [2], none),
  (51, .getfield 324, [], some (eF 6 1)),
  (54, .aload_n 0, [0], none),
  (55, .getfield 42, [], some (eF 0 4)),
  (58, .invokevirtual 325, [], some (eC 78 2 5)),
  (61, .iconst 1, [], some (eI 1)),
  (62, .ireturn, [], none)]
theorem okMain_image : am_mok mMain_image kMain_image := ⟨by decide +kernel, plMain, by decide +kernel, poMain⟩
def kMain_restore : List am_E := [(0, .iload_n 1, [1], none),
  (1, .invokestatic 248, [], some (eC 119 1 0)),
  (4, .ifCond .ne 6, [10], none),
  (7, .ldc 95, [], some (eI (-1000001))),
  (9, .ireturn, [], none),
  (10, .iload_n 1, [1], none),
  (11, .ifCond .ne 10, [21], none),
  (14, .aload_n 0, [0], none),
  (15, .getfield 49, [], some (eF 0 5)),
  (18, .goto 7, [25], none),
  (21, .aload_n 0, [0], none),
  (22, .getfield 53, [], some (eF 0 6)),
  (25, .astore_n 2, [2], none),
  (26, .aload_n 2, [2], none),
  (27, .getfield 323, [], some (eF 6 0)),
  (30, .invokevirtual 205, [], some (eC 25 1 4)),
  (33, .ifCond .ne 6, [39], none),
  (36, .ldc 191, [], some (eI (-1000002))),
  (38, .ireturn, [], none),
  (39, .aload_n 0, [0], none),
  (40, .getfield 35, [], some (eF 0 3)),
  (43, .aload_n 2, [2], none),
  (44, .getfield 323, [], some (eF 6 0)),
  (47, .invokevirtual 158, [], some (eC 34 2 4)),
  (50, .aload_n 0, [0], none),
  (51, .getfield 42, [], some (eF 0 4)),
  (54, .aload_n 2, [2], none),
  (55, .getfield 324, [], some (eF 6 1)),
  (58, .invokevirtual 325, [], some (eC 78 2 5)),
  (61, .aload_n 0, [0], none),
  (62, .invokevirtual 165, [], some (eC 116 1 0)),
  (65, .iconst 1, [], some (eI 1)),
  (66, .ireturn, [], none)]
theorem okMain_restore : am_mok mMain_restore kMain_restore := ⟨by decide +kernel, plMain, by decide +kernel, poMain⟩
def kMain_kind : List am_E := [(0, .aload_n 0, [0], none),
  (1, .getfield 35, [], some (eF 0 3)),
  (4, .iload_n 1, [1], none),
  (5, .invokevirtual 214, [], some (eC 27 2 4)),
  (8, .ifCond .eq 15, [23], none),
  (11, .aload_n 0, [0], none),
  (12, .getfield 35, [], some (eF 0 3)),
  (15, .getfield 328, [], some (eF 4 5)),
  (18, .iload_n 1, [1], none),
  (19, .iaload, [], none),
  (20, .goto 5, [25], none),
  (23, .ldc 95, [], some (eI (-1000001))),
  (25, .ireturn, [], none)]
theorem okMain_kind : am_mok mMain_kind kMain_kind := ⟨by decide +kernel, plMain, by decide +kernel, poMain⟩
def kMain_as : List am_E := [(0, .aload_n 0, [0], none),
  (1, .getfield 35, [], some (eF 0 3)),
  (4, .iload_n 1, [1], none),
  (5, .invokevirtual 214, [], some (eC 27 2 4)),
  (8, .ifCond .eq 10, [18], none),
  (11, .iload_n 2, [2], none),
  (12, .invokestatic 331, [], some (eC 28 1 0)),
  (15, .ifCond .ne 6, [21], none),
  (18, .ldc 95, [], some (eI (-1000001))),
  (20, .ireturn, [], none),
  (21, .aload_n 0, [0], none),
  (22, .getfield 35, [], some (eF 0 3)),
  (25, .iload_n 1, [1], none),
  (26, .iload_n 2, [2], none),
  (27, .invokevirtual 334, [], some (eC 29 3 4)),
  (30, .ifCond .eq 11, [41], none),
  (33, .aload_n 0, [0], none),
  (34, .iload_n 1, [1], none),
  (35, .invokevirtual 104, [], some (eC 115 2 0)),
  (38, .goto 8, [46], none),
  (41, .aload_n 0, [0], none),
  (42, .iconst 3, [], some (eI 3)),
  (43, .invokevirtual 96, [], some (eC 114 2 0)),
  (46, .ireturn, [], none)]
theorem okMain_as : am_mok mMain_as kMain_as := ⟨by decide +kernel, plMain, by decide +kernel, poMain⟩
def kMain_ask : List am_E := [(0, .aload_n 0, [0], none),
  (1, .getfield 35, [], some (eF 0 3)),
  (4, .iload_n 1, [1], none),
  (5, .invokevirtual 214, [], some (eC 27 2 4)),
  (8, .ifCond .eq 10, [18], none),
  (11, .iload_n 2, [2], none),
  (12, .invokestatic 248, [], some (eC 119 1 0)),
  (15, .ifCond .ne 6, [21], none),
  (18, .ldc 95, [], some (eI (-1000001))),
  (20, .ireturn, [], none),
  (21, .iload_n 2, [2], none),
  (22, .ifCond .ne 18, [40], none),
  (25, .aload_n 0, [0], none),
  (26, .getfield 84, [], some (eF 0 10)),
  (29, .aload_n 0, [0], none),
  (30, .getfield 35, [], some (eF 0 3)),
  (33, .iload_n 1, [1], none),
  (34, .invokevirtual 337, [], some (eC 0 3 10)),
  (37, .goto 15, [52], none),
  (40, .aload_n 0, [0], none),
  (41, .getfield 84, [], some (eF 0 10)),
  (44, .aload_n 0, [0], none),
  (45, .getfield 35, [], some (eF 0 3)),
  (48, .iload_n 1, [1], none),
  (49, .invokevirtual 341, [], some (eC 1 3 10)),
  (52, .ireturn, [], none)]
theorem okMain_ask : am_mok mMain_ask kMain_ask := ⟨by decide +kernel, plMain, by decide +kernel, poMain⟩
def kMain_trace : List am_E := [(0, .iload_n 1, [1], none),
  (1, .ifCond .lt 26, [27], none),
  (4, .iload_n 1, [1], none),
  (5, .aload_n 0, [0], none),
  (6, .getfield 84, [], some (eF 0 10)),
  (9, .getfield 344, [], some (eF 10 1)),
  (12, .if_icmp .ge 15, [27], none),
  (15, .aload_n 0, [0], none),
  (16, .getfield 84, [], some (eF 0 10)),
  (19, .getfield 347, [], some (eF 10 0)),
  (22, .iload_n 1, [1], none),
  (23, .iaload, [], none),
  (24, .goto 5, [29], none),
  (27, .ldc 204, [], some (eI (-1000000))),
  (29, .ireturn, [], none)]
theorem okMain_trace : am_mok mMain_trace kMain_trace := ⟨by decide +kernel, plMain, by decide +kernel, poMain⟩
def kMain_count : List am_E := [(0, .iload_n 1, [1], none),
  (1, .tableswitch 87 0 5 #[39, 47, 55, 63, 71, 79], [88, 40, 0, 48, 1, 56, 2, 64, 3, 72, 4, 80, 5], none),
  (40, .aload_n 0, [0], none),
  (41, .getfield 10, [], some (eF 0 0)),
  (44, .invokevirtual 350, [], some (eC 72 1 1)),
  (47, .ireturn, [], none),
  (48, .aload_n 0, [0], none),
  (49, .getfield 35, [], some (eF 0 3)),
  (52, .getfield 168, [], some (eF 4 0)),
  (55, .ireturn, [], none),
  (56, .aload_n 0, [0], none),
  (57, .getfield 35, [], some (eF 0 3)),
  (60, .getfield 301, [], some (eF 4 4)),
  (63, .ireturn, [], none),
  (64, .aload_n 0, [0], none),
  (65, .getfield 35, [], some (eF 0 3)),
  (68, .getfield 353, [], some (eF 4 10)),
  (71, .ireturn, [], none),
  (72, .aload_n 0, [0], none),
  (73, .getfield 42, [], some (eF 0 4)),
  (76, .getfield 162, [], some (eF 5 0)),
  (79, .ireturn, [], none),
  (80, .aload_n 0, [0], none),
  (81, .getfield 19, [], some (eF 0 1)),
  (84, .getfield 137, [], some (eF 2 1)),
  (87, .ireturn, [], none),
  (88, .ldc 95, [], some (eI (-1000001))),
  (90, .ireturn, [], none)]
theorem okMain_count : am_mok mMain_count kMain_count := ⟨by decide +kernel, plMain, by decide +kernel, poMain⟩
def kMain_status : List am_E := [(0, .aload_n 0, [0], none),
  (1, .getfield 356, [], some (eF 0 12)),
  (4, .ireturn, [], none)]
theorem okMain_status : am_mok mMain_status kMain_status := ⟨by decide +kernel, plMain, by decide +kernel, poMain⟩
def kMain_found : List am_E := [(0, .aload_n 0, [0], none),
  (1, .iload_n 1, [1], none),
  (2, .putfield 356, [], some (eF 0 12)),
  (5, .ldc_w 359, [], some (eI (-1000010))),
  (8, .iload_n 1, [1], none),
  (9, .isub, [], none),
  (10, .ireturn, [], none)]
theorem okMain_found : am_mok mMain_found kMain_found := ⟨by decide +kernel, plMain, by decide +kernel, poMain⟩
def kMain_clean : List am_E := [(0, .aload_n 0, [0], none),
  (1, .iconst 0, [], some (eI 0)),
  (2, .putfield 356, [], some (eF 0 12)),
  (5, .iload_n 1, [1], none),
  (6, .ireturn, [], none)]
theorem okMain_clean : am_mok mMain_clean kMain_clean := ⟨by decide +kernel, plMain, by decide +kernel, poMain⟩
def kMain_learnAnew : List am_E := [(0, .aload_n 0, [0], none),
  (1, .getfield 61, [], some (eF 0 7)),
  (4, .invokevirtual 360, [], some (eC 9 1 7)),
  (7, .aload_n 0, [0], none),
  (8, .getfield 70, [], some (eF 0 8)),
  (11, .iconst 0, [], some (eI 0)),
  (12, .putfield 363, [], some (eF 8 1)),
  (15, .return_, [], none)]
theorem okMain_learnAnew : am_mok mMain_learnAnew kMain_learnAnew := ⟨by decide +kernel, plMain, by decide +kernel, poMain⟩
def kMain_isSeen : List am_E := [(0, .aload_n 0, [0], none),
  (1, .getfield 35, [], some (eF 0 3)),
  (4, .iload_n 1, [1], none),
  (5, .invokevirtual 214, [], some (eC 27 2 4)),
  (8, .ifCond .eq 21, [29], none),
  (11, .aload_n 0, [0], none),
  (12, .getfield 61, [], some (eF 0 7)),
  (15, .getfield 208, [], some (eF 7 2)),
  (18, .iload_n 1, [1], none),
  (19, .invokestatic 367, [], some (eC 121 2 0)),
  (22, .ifCond .eq 7, [29], none),
  (25, .iconst 1, [], some (eI 1)),
  (26, .goto 4, [30], none),
  (29, .iconst 0, [], some (eI 0)),
  (30, .ireturn, [], none)]
theorem okMain_isSeen : am_mok mMain_isSeen kMain_isSeen := ⟨by decide +kernel, plMain, by decide +kernel, poMain⟩
def kMain_areUnlikePapers : List am_E := [(0, .iconst 0, [], some (eI 0)),
  (1, .istore 4, [4], none),
  (3, .iconst 0, [], some (eI 0)),
  (4, .istore 5, [5], none),
  (6, .iload 5, [5], none),
  (8, .iload_n 3, [3], none),
  (9, .if_icmp .ge 56, [65], none),
  (12, .aload_n 0, [0], none),
  (13, .getfield 10, [], some (eF 0 0)),
  (16, .iload_n 1, [1], none),
  (17, .iload_n 2, [2], none),
  (18, .iload 5, [5], none),
  (20, .iadd, [], none),
  (21, .invokevirtual 183, [], some (eC 68 3 1)),
  (24, .istore 6, [6], none),
  (26, .aload_n 0, [0], none),
  (27, .getfield 35, [], some (eF 0 3)),
  (30, .iload 6, [6], none),
  (32, .invokevirtual 214, [], some (eC 27 2 4)),
  (35, .ifCond .eq 13, [48], none),
  (38, .iload 4, [4], none),
  (40, .iload 6, [6], none),
  (42, .invokestatic 367, [], some (eC 121 2 0)),
  (45, .ifCond .eq 5, [50], none),
  (48, .iconst 0, [], some (eI 0)),
  (49, .ireturn, [], none),
  (50, .iload 4, [4], none),
  (52, .iconst 1, [], some (eI 1)),
  (53, .iload 6, [6], none),
  (55, .ishl, [], none),
  (56, .ior, [], none),
  (57, .istore 4, [4], none),
  (59, .iinc 5 1, [5], some (eI 1)),
  (62, .goto (-56), [6], none),
  (65, .iconst 1, [], some (eI 1)),
  (66, .ireturn, [], none)]
theorem okMain_areUnlikePapers : am_mok mMain_areUnlikePapers kMain_areUnlikePapers := ⟨by decide +kernel, plMain, by decide +kernel, poMain⟩
def kMain_isSwitch : List am_E := [(0, .iload_n 0, [0], none),
  (1, .ifCond .eq 8, [9], none),
  (4, .iload_n 0, [0], none),
  (5, .iconst 1, [], some (eI 1)),
  (6, .if_icmp .ne 7, [13], none),
  (9, .iconst 1, [], some (eI 1)),
  (10, .goto 4, [14], none),
  (13, .iconst 0, [], some (eI 0)),
  (14, .ireturn, [], none)]
theorem okMain_isSwitch : am_mok mMain_isSwitch kMain_isSwitch := ⟨by decide +kernel, plMain, by decide +kernel, poMain⟩
def kMain_isSetOf : List am_E := [(0, .iload_n 0, [0], none),
  (1, .ifCond .lt 14, [15], none),
  (4, .iload_n 0, [0], none),
  (5, .iconst 1, [], some (eI 1)),
  (6, .iload_n 1, [1], none),
  (7, .ishl, [], none),
  (8, .if_icmp .ge 7, [15], none),
  (11, .iconst 1, [], some (eI 1)),
  (12, .goto 4, [16], none),
  (15, .iconst 0, [], some (eI 0)),
  (16, .ireturn, [], none)]
theorem okMain_isSetOf : am_mok mMain_isSetOf kMain_isSetOf := ⟨by decide +kernel, plMain, by decide +kernel, poMain⟩
def kMain_has : List am_E := [(0, .iload_n 0, [0], none),
  (1, .iload_n 1, [1], none),
  (2, .ishr, [], none),
  (3, .iconst 1, [], some (eI 1)),
  (4, .iand, [], none),
  (5, .ifCond .eq 7, [12], none),
  (8, .iconst 1, [], some (eI 1)),
  (9, .goto 4, [13], none),
  (12, .iconst 0, [], some (eI 0)),
  (13, .ireturn, [], none)]
theorem okMain_has : am_mok mMain_has kMain_has := ⟨by decide +kernel, plMain, by decide +kernel, poMain⟩
def kMain_greatestShared : List am_E := [(0, .iconst 0, [], some (eI 0)),
  (1, .istore_n 2, [2], none),
  (2, .iload_n 2, [2], none),
  (3, .bipush 64, [], some (eI 64)),
  (5, .if_icmp .ge 21, [26], none),
  (8, .iload_n 1, [1], none),
  (9, .ifCond .eq 17, [26], none),
  (12, .iload_n 0, [0], none),
  (13, .iload_n 1, [1], none),
  (14, .irem, [], none),
  (15, .istore_n 3, [3], none),
  (16, .iload_n 1, [1], none),
  (17, .istore_n 0, [0], none),
  (18, .iload_n 3, [3], none),
  (19, .istore_n 1, [1], none),
  (20, .iinc 2 1, [2], some (eI 1)),
  (23, .goto (-21), [2], none),
  (26, .iload_n 0, [0], none),
  (27, .ireturn, [], none)]
theorem okMain_greatestShared : am_mok mMain_greatestShared kMain_greatestShared := ⟨by decide +kernel, plMain, by decide +kernel, poMain⟩
def kMain_partsUp : List am_E := [(0, .iload_n 1, [1], none),
  (1, .ifCond .gt 7, [8], none),
  (4, .iconst 0, [], some (eI 0)),
  (5, .goto 10, [15], none),
  (8, .iload_n 0, [0], none),
  (9, .iload_n 1, [1], none),
  (10, .iadd, [], none),
  (11, .iconst 1, [], some (eI 1)),
  (12, .isub, [], none),
  (13, .iload_n 1, [1], none),
  (14, .idiv, [], none),
  (15, .ireturn, [], none)]
theorem okMain_partsUp : am_mok mMain_partsUp kMain_partsUp := ⟨by decide +kernel, plMain, by decide +kernel, poMain⟩
end
section
def plMath : List (Nat × Nat × am_N) := []
theorem poMath : ∀ q ∈ plMath, am_pk "java/lang/Math" q.1 q.2.1 q.2.2 := fun _ h => absurd h List.not_mem_nil
def kMath_abs : List am_E := [(0, .iload_n 0, [0], none),
  (1, .ifCond .ge 8, [9], none),
  (4, .iload_n 0, [0], none),
  (5, .ineg, [], none),
  (6, .goto 4, [10], none),
  (9, .iload_n 0, [0], none),
  (10, .ireturn, [], none)]
theorem okMath_abs : am_mok mMath_abs kMath_abs := ⟨by decide +kernel, plMath, by decide +kernel, poMath⟩
def kMath_max : List am_E := [(0, .iload_n 0, [0], none),
  (1, .iload_n 1, [1], none),
  (2, .if_icmp .lt 7, [9], none),
  (5, .iload_n 0, [0], none),
  (6, .goto 4, [10], none),
  (9, .iload_n 1, [1], none),
  (10, .ireturn, [], none)]
theorem okMath_max : am_mok mMath_max kMath_max := ⟨by decide +kernel, plMath, by decide +kernel, poMath⟩
def kMath_min : List am_E := [(0, .iload_n 0, [0], none),
  (1, .iload_n 1, [1], none),
  (2, .if_icmp .gt 7, [9], none),
  (5, .iload_n 0, [0], none),
  (6, .goto 4, [10], none),
  (9, .iload_n 1, [1], none),
  (10, .ireturn, [], none)]
theorem okMath_min : am_mok mMath_min kMath_min := ⟨by decide +kernel, plMath, by decide +kernel, poMath⟩
end
section
theorem peOrders_0_11 : am_pk "PaperedOver$Orders" 0 11 (eF 8 2) := ⟨(rc_8, tc_8, 5), rfl, by decide, (gm 320 (by decide +kernel) (by decide +kernel))⟩
theorem peOrders_0_15 : am_pk "PaperedOver$Orders" 0 15 (eF 8 3) := ⟨(rc_8, tc_8, 5), rfl, by decide, (gm 321 (by decide +kernel) (by decide +kernel))⟩
theorem peOrders_0_18 : am_pk "PaperedOver$Orders" 0 18 (eF 8 4) := ⟨(rc_8, tc_8, 5), rfl, by decide, (gm 322 (by decide +kernel) (by decide +kernel))⟩
theorem peOrders_0_21 : am_pk "PaperedOver$Orders" 0 21 (eF 8 0) := ⟨(rc_8, tc_8, 5), rfl, by decide, (gm 317 (by decide +kernel) (by decide +kernel))⟩
theorem peOrders_0_28 : am_pk "PaperedOver$Orders" 0 28 (eF 7 2) := ⟨(rc_7, tc_7, 11), rfl, by decide, (gm 269 (by decide +kernel) (by decide +kernel))⟩
theorem peOrders_0_56 : am_pk "PaperedOver$Orders" 0 56 (eF 7 6) := ⟨(rc_7, tc_7, 11), rfl, by decide, (gm 278 (by decide +kernel) (by decide +kernel))⟩
theorem peOrders_0_59 : am_pk "PaperedOver$Orders" 0 59 (eF 8 1) := ⟨(rc_8, tc_8, 5), rfl, by decide, (gm 318 (by decide +kernel) (by decide +kernel))⟩
theorem peOrders_4_25 : am_pk "PaperedOver$Orders" 4 25 (eC 42 1 8) := ⟨0, rfl, wOrders_countOnce, (gm 794 (by decide +kernel) (by decide +kernel)), vOrders_countOnce.1, vOrders_countOnce.2, Or.inl ⟨_, rfl, rfl⟩⟩
theorem peOrders_4_34 : am_pk "PaperedOver$Orders" 4 34 (eC 38 1 8) := ⟨0, rfl, wOrders_all, (gm 845 (by decide +kernel) (by decide +kernel)), vOrders_all.1, vOrders_all.2, Or.inl ⟨_, rfl, rfl⟩⟩
theorem peOrders_4_38 : am_pk "PaperedOver$Orders" 4 38 (eC 39 3 8) := ⟨2, rfl, wOrders_withAhead, (gm 846 (by decide +kernel) (by decide +kernel)), vOrders_withAhead.1, vOrders_withAhead.2, Or.inl ⟨_, rfl, rfl⟩⟩
theorem peOrders_4_47 : am_pk "PaperedOver$Orders" 4 47 (eC 41 3 8) := ⟨2, rfl, wOrders_isOpen, (gm 848 (by decide +kernel) (by decide +kernel)), vOrders_isOpen.1, vOrders_isOpen.2, Or.inl ⟨_, rfl, rfl⟩⟩
theorem peOrders_4_69 : am_pk "PaperedOver$Orders" 4 69 (eC 43 2 8) := ⟨1, rfl, wOrders_countBegun, (gm 799 (by decide +kernel) (by decide +kernel)), vOrders_countBegun.1, vOrders_countBegun.2, Or.inl ⟨_, rfl, rfl⟩⟩
theorem peOrders_4_73 : am_pk "PaperedOver$Orders" 4 73 (eC 44 2 8) := ⟨1, rfl, wOrders_countEnded, (gm 804 (by decide +kernel) (by decide +kernel)), vOrders_countEnded.1, vOrders_countEnded.2, Or.inl ⟨_, rfl, rfl⟩⟩
theorem peOrders_4_76 : am_pk "PaperedOver$Orders" 4 76 (eC 13 3 7) := ⟨2, rfl, wFacts_canFollow, (gm 803 (by decide +kernel) (by decide +kernel)), vFacts_canFollow.1, vFacts_canFollow.2, Or.inl ⟨_, rfl, rfl⟩⟩
theorem peOrders_4_79 : am_pk "PaperedOver$Orders" 4 79 (eC 45 4 8) := ⟨3, rfl, wOrders_countPairs, (gm 808 (by decide +kernel) (by decide +kernel)), vOrders_countPairs.1, vOrders_countPairs.2, Or.inl ⟨_, rfl, rfl⟩⟩
theorem peOrders_5_42 : am_pk "PaperedOver$Orders" 5 42 (eC 200 2 0) := ⟨wMath_max, sMath_max, Or.inl (gm 847 (by decide +kernel) (by decide +kernel))⟩
theorem peOrders_5_51 : am_pk "PaperedOver$Orders" 5 51 (eC 121 2 0) := ⟨wMain_has, sMain_has, Or.inr (by decide +kernel)⟩
theorem peOrders_5_63 : am_pk "PaperedOver$Orders" 5 63 (eC 209 2 0) := ⟨wArr_fill2, sArr_fill2, Or.inl (gm 798 (by decide +kernel) (by decide +kernel))⟩
def plOrders : List (Nat × Nat × am_N) := [(0, 11, eF 8 2), (0, 15, eF 8 3), (0, 18, eF 8 4), (0, 21, eF 8 0), (0, 28, eF 7 2), (0, 56, eF 7 6), (0, 59, eF 8 1), (4, 25, eC 42 1 8), (4, 34, eC 38 1 8), (4, 38, eC 39 3 8), (4, 47, eC 41 3 8), (4, 69, eC 43 2 8), (4, 73, eC 44 2 8), (4, 76, eC 13 3 7), (4, 79, eC 45 4 8), (5, 42, eC 200 2 0), (5, 51, eC 121 2 0), (5, 63, eC 209 2 0)]
theorem poOrders : ∀ q ∈ plOrders, am_pk "PaperedOver$Orders" q.1 q.2.1 q.2.2 := List.forall_mem_cons.mpr ⟨peOrders_0_11, List.forall_mem_cons.mpr ⟨peOrders_0_15, List.forall_mem_cons.mpr ⟨peOrders_0_18, List.forall_mem_cons.mpr ⟨peOrders_0_21, List.forall_mem_cons.mpr ⟨peOrders_0_28, List.forall_mem_cons.mpr ⟨peOrders_0_56, List.forall_mem_cons.mpr ⟨peOrders_0_59, List.forall_mem_cons.mpr ⟨peOrders_4_25, List.forall_mem_cons.mpr ⟨peOrders_4_34, List.forall_mem_cons.mpr ⟨peOrders_4_38, List.forall_mem_cons.mpr ⟨peOrders_4_47, List.forall_mem_cons.mpr ⟨peOrders_4_69, List.forall_mem_cons.mpr ⟨peOrders_4_73, List.forall_mem_cons.mpr ⟨peOrders_4_76, List.forall_mem_cons.mpr ⟨peOrders_4_79, List.forall_mem_cons.mpr ⟨peOrders_5_42, List.forall_mem_cons.mpr ⟨peOrders_5_51, List.forall_mem_cons.mpr ⟨peOrders_5_63, fun _ h => absurd h List.not_mem_nil⟩⟩⟩⟩⟩⟩⟩⟩⟩⟩⟩⟩⟩⟩⟩⟩⟩⟩
def kOrders_all : List am_E := [(0, .aload_n 0, [0], none),
  (1, .invokevirtual 25, [], some (eC 42 1 8)),
  (4, .aload_n 0, [0], none),
  (5, .getfield 11, [], some (eF 8 2)),
  (8, .aload_n 0, [0], none),
  (9, .getfield 21, [], some (eF 8 0)),
  (12, .getfield 28, [], some (eF 7 2)),
  (15, .iaload, [], none),
  (16, .ireturn, [], none)]
theorem okOrders_all : am_mok mOrders_all kOrders_all := ⟨by decide +kernel, plOrders, by decide +kernel, poOrders⟩
def kOrders_withAhead : List am_E := [(0, .aload_n 0, [0], none),
  (1, .invokevirtual 25, [], some (eC 42 1 8)),
  (4, .aload_n 0, [0], none),
  (5, .getfield 18, [], some (eF 8 4)),
  (8, .bipush 10, [], some (eI 10)),
  (10, .iload_n 1, [1], none),
  (11, .imul, [], none),
  (12, .iload_n 2, [2], none),
  (13, .iadd, [], none),
  (14, .iaload, [], none),
  (15, .ireturn, [], none)]
theorem okOrders_withAhead : am_mok mOrders_withAhead kOrders_withAhead := ⟨by decide +kernel, plOrders, by decide +kernel, poOrders⟩
def kOrders_mostEvenPair : List am_E := [(0, .aload_n 0, [0], none),
  (1, .invokevirtual 34, [], some (eC 38 1 8)),
  (4, .istore_n 1, [1], none),
  (5, .iconst (-1), [], some (eI (-1))),
  (6, .istore_n 2, [2], none),
  (7, .iload_n 1, [1], none),
  (8, .iconst 1, [], some (eI 1)),
  (9, .iadd, [], none),
  (10, .istore_n 3, [3], none),
  (11, .iconst 0, [], some (eI 0)),
  (12, .istore 4, [4], none),
  (14, .iload 4, [4], none),
  (16, .bipush 10, [], some (eI 10)),
  (18, .if_icmp .ge 80, [98], none),
  (21, .iload 4, [4], none),
  (23, .iconst 1, [], some (eI 1)),
  (24, .iadd, [], none),
  (25, .istore 5, [5], none),
  (27, .iload 5, [5], none),
  (29, .bipush 10, [], some (eI 10)),
  (31, .if_icmp .ge 61, [92], none),
  (34, .aload_n 0, [0], none),
  (35, .iload 4, [4], none),
  (37, .iload 5, [5], none),
  (39, .invokevirtual 38, [], some (eC 39 3 8)),
  (42, .iload_n 1, [1], none),
  (43, .aload_n 0, [0], none),
  (44, .iload 4, [4], none),
  (46, .iload 5, [5], none),
  (48, .invokevirtual 38, [], some (eC 39 3 8)),
  (51, .isub, [], none),
  (52, .invokestatic 42, [], some (eC 200 2 0)),
  (55, .istore 6, [6], none),
  (57, .aload_n 0, [0], none),
  (58, .iload 4, [4], none),
  (60, .iload 5, [5], none),
  (62, .invokevirtual 47, [], some (eC 41 3 8)),
  (65, .ifCond .eq 21, [86], none),
  (68, .iload 6, [6], none),
  (70, .iload_n 3, [3], none),
  (71, .if_icmp .ge 15, [86], none),
  (74, .bipush 10, [], some (eI 10)),
  (76, .iload 4, [4], none),
  (78, .imul, [], none),
  (79, .iload 5, [5], none),
  (81, .iadd, [], none),
  (82, .istore_n 2, [2], none),
  (83, .iload 6, [6], none),
  (85, .istore_n 3, [3], none),
  (86, .iinc 5 1, [5], some (eI 1)),
  (89, .goto (-62), [27], none),
  (92, .iinc 4 1, [4], some (eI 1)),
  (95, .goto (-81), [14], none),
  (98, .iload_n 2, [2], none),
  (99, .ireturn, [], none)]
theorem okOrders_mostEvenPair : am_mok mOrders_mostEvenPair kOrders_mostEvenPair := ⟨by decide +kernel, plOrders, by decide +kernel, poOrders⟩
def kOrders_isOpen : List am_E := [(0, .aload_n 0, [0], none),
  (1, .getfield 21, [], some (eF 8 0)),
  (4, .getfield 28, [], some (eF 7 2)),
  (7, .iload_n 1, [1], none),
  (8, .invokestatic 51, [], some (eC 121 2 0)),
  (11, .ifCond .eq 21, [32], none),
  (14, .aload_n 0, [0], none),
  (15, .getfield 21, [], some (eF 8 0)),
  (18, .getfield 28, [], some (eF 7 2)),
  (21, .iload_n 2, [2], none),
  (22, .invokestatic 51, [], some (eC 121 2 0)),
  (25, .ifCond .eq 7, [32], none),
  (28, .iconst 1, [], some (eI 1)),
  (29, .goto 4, [33], none),
  (32, .iconst 0, [], some (eI 0)),
  (33, .istore_n 3, [3], none),
  (34, .iload_n 3, [3], none),
  (35, .ifCond .eq 39, [74], none),
  (38, .aload_n 0, [0], none),
  (39, .getfield 21, [], some (eF 8 0)),
  (42, .getfield 56, [], some (eF 7 6)),
  (45, .iload_n 1, [1], none),
  (46, .iaload, [], none),
  (47, .iload_n 2, [2], none),
  (48, .invokestatic 51, [], some (eC 121 2 0)),
  (51, .ifCond .ne 23, [74], none),
  (54, .aload_n 0, [0], none),
  (55, .getfield 21, [], some (eF 8 0)),
  (58, .getfield 56, [], some (eF 7 6)),
  (61, .iload_n 2, [2], none),
  (62, .iaload, [], none),
  (63, .iload_n 1, [1], none),
  (64, .invokestatic 51, [], some (eC 121 2 0)),
  (67, .ifCond .ne 7, [74], none),
  (70, .iconst 1, [], some (eI 1)),
  (71, .goto 4, [75], none),
  (74, .iconst 0, [], some (eI 0)),
  (75, .ireturn, [], none)]
theorem okOrders_isOpen : am_mok mOrders_isOpen kOrders_isOpen := ⟨by decide +kernel, plOrders, by decide +kernel, poOrders⟩
def kOrders_countOnce : List am_E := [(0, .aload_n 0, [0], none),
  (1, .getfield 59, [], some (eF 8 1)),
  (4, .ifCond .eq 4, [8], none),
  (7, .return_, [], none),
  (8, .aload_n 0, [0], none),
  (9, .getfield 11, [], some (eF 8 2)),
  (12, .iconst 0, [], some (eI 0)),
  (13, .invokestatic 63, [], some (eC 209 2 0)),
  (16, .aload_n 0, [0], none),
  (17, .getfield 15, [], some (eF 8 3)),
  (20, .iconst 0, [], some (eI 0)),
  (21, .invokestatic 63, [], some (eC 209 2 0)),
  (24, .aload_n 0, [0], none),
  (25, .getfield 18, [], some (eF 8 4)),
  (28, .iconst 0, [], some (eI 0)),
  (29, .invokestatic 63, [], some (eC 209 2 0)),
  (32, .aload_n 0, [0], none),
  (33, .getfield 11, [], some (eF 8 2)),
  (36, .iconst 0, [], some (eI 0)),
  (37, .iconst 1, [], some (eI 1)),
  (38, .iastore, [], none),
  (39, .iconst 0, [], some (eI 0)),
  (40, .istore_n 1, [1], none),
  (41, .iload_n 1, [1], none),
  (42, .aload_n 0, [0], none),
  (43, .getfield 21, [], some (eF 8 0)),
  (46, .getfield 28, [], some (eF 7 2)),
  (49, .if_icmp .ge 23, [72], none),
  (52, .aload_n 0, [0], none),
  (53, .getfield 11, [], some (eF 8 2)),
  (56, .iload_n 1, [1], none),
  (57, .iaload, [], none),
  (58, .ifCond .eq 8, [66], none),
  (61, .aload_n 0, [0], none),
  (62, .iload_n 1, [1], none),
  (63, .invokevirtual 69, [], some (eC 43 2 8)),
  (66, .iinc 1 1, [1], some (eI 1)),
  (69, .goto (-28), [41], none),
  (72, .aload_n 0, [0], none),
  (73, .getfield 15, [], some (eF 8 3)),
  (76, .aload_n 0, [0], none),
  (77, .getfield 21, [], some (eF 8 0)),
  (80, .getfield 28, [], some (eF 7 2)),
  (83, .iconst 1, [], some (eI 1)),
  (84, .iastore, [], none),
  (85, .aload_n 0, [0], none),
  (86, .getfield 21, [], some (eF 8 0)),
  (89, .getfield 28, [], some (eF 7 2)),
  (92, .iconst 1, [], some (eI 1)),
  (93, .isub, [], none),
  (94, .istore_n 1, [1], none),
  (95, .iload_n 1, [1], none),
  (96, .ifCond .lt 23, [119], none),
  (99, .aload_n 0, [0], none),
  (100, .getfield 11, [], some (eF 8 2)),
  (103, .iload_n 1, [1], none),
  (104, .iaload, [], none),
  (105, .ifCond .eq 8, [113], none),
  (108, .aload_n 0, [0], none),
  (109, .iload_n 1, [1], none),
  (110, .invokevirtual 73, [], some (eC 44 2 8)),
  (113, .iinc 1 (-1), [1], some (eI (-1))),
  (116, .goto (-21), [95], none),
  (119, .aload_n 0, [0], none),
  (120, .iconst 1, [], some (eI 1)),
  (121, .putfield 59, [], some (eF 8 1)),
  (124, .return_, [], none)]
theorem okOrders_countOnce : am_mok mOrders_countOnce kOrders_countOnce := ⟨by decide +kernel, plOrders, by decide +kernel, poOrders⟩
def kOrders_countBegun : List am_E := [(0, .iconst 0, [], some (eI 0)),
  (1, .istore_n 2, [2], none),
  (2, .iload_n 2, [2], none),
  (3, .bipush 10, [], some (eI 10)),
  (5, .if_icmp .ge 40, [45], none),
  (8, .aload_n 0, [0], none),
  (9, .getfield 21, [], some (eF 8 0)),
  (12, .iload_n 1, [1], none),
  (13, .iload_n 2, [2], none),
  (14, .invokevirtual 76, [], some (eC 13 3 7)),
  (17, .ifCond .eq 22, [39], none),
  (20, .aload_n 0, [0], none),
  (21, .getfield 11, [], some (eF 8 2)),
  (24, .iload_n 1, [1], none),
  (25, .iconst 1, [], some (eI 1)),
  (26, .iload_n 2, [2], none),
  (27, .ishl, [], none),
  (28, .ior, [], none),
  (29, .dup2, [], none),
  (30, .iaload, [], none),
  (31, .aload_n 0, [0], none),
  (32, .getfield 11, [], some (eF 8 2)),
  (35, .iload_n 1, [1], none),
  (36, .iaload, [], none),
  (37, .iadd, [], none),
  (38, .iastore, [], none),
  (39, .iinc 2 1, [2], some (eI 1)),
  (42, .goto (-40), [2], none),
  (45, .return_, [], none)]
theorem okOrders_countBegun : am_mok mOrders_countBegun kOrders_countBegun := ⟨by decide +kernel, plOrders, by decide +kernel, poOrders⟩
def kOrders_countEnded : List am_E := [(0, .iconst 0, [], some (eI 0)),
  (1, .istore_n 2, [2], none),
  (2, .iload_n 2, [2], none),
  (3, .bipush 10, [], some (eI 10)),
  (5, .if_icmp .ge 59, [64], none),
  (8, .aload_n 0, [0], none),
  (9, .getfield 21, [], some (eF 8 0)),
  (12, .iload_n 1, [1], none),
  (13, .iload_n 2, [2], none),
  (14, .invokevirtual 76, [], some (eC 13 3 7)),
  (17, .ifCond .ne 6, [23], none),
  (20, .goto 38, [58], none),
  (23, .aload_n 0, [0], none),
  (24, .getfield 15, [], some (eF 8 3)),
  (27, .iload_n 1, [1], none),
  (28, .iconst 1, [], some (eI 1)),
  (29, .iload_n 2, [2], none),
  (30, .ishl, [], none),
  (31, .ior, [], none),
  (32, .iaload, [], none),
  (33, .istore_n 3, [3], none),
  (34, .aload_n 0, [0], none),
  (35, .getfield 15, [], some (eF 8 3)),
  (38, .iload_n 1, [1], none),
  (39, .dup2, [], none),
  (40, .iaload, [], none),
  (41, .iload_n 3, [3], none),
  (42, .iadd, [], none),
  (43, .iastore, [], none),
  (44, .aload_n 0, [0], none),
  (45, .iload_n 1, [1], none),
  (46, .iload_n 2, [2], none),
  (47, .aload_n 0, [0], none),
  (48, .getfield 11, [], some (eF 8 2)),
  (51, .iload_n 1, [1], none),
  (52, .iaload, [], none),
  (53, .iload_n 3, [3], none),
  (54, .imul, [], none),
  (55, .invokevirtual 79, [], some (eC 45 4 8)),
  (58, .iinc 2 1, [2], some (eI 1)),
  (61, .goto (-59), [2], none),
  (64, .return_, [], none)]
theorem okOrders_countEnded : am_mok mOrders_countEnded kOrders_countEnded := ⟨by decide +kernel, plOrders, by decide +kernel, poOrders⟩
def kOrders_countPairs : List am_E := [(0, .iconst 0, [], some (eI 0)),
  (1, .istore 4, [4], none),
  (3, .iload 4, [4], none),
  (5, .bipush 10, [], some (eI 10)),
  (7, .if_icmp .ge 34, [41], none),
  (10, .iload_n 1, [1], none),
  (11, .iload 4, [4], none),
  (13, .invokestatic 51, [], some (eC 121 2 0)),
  (16, .ifCond .eq 19, [35], none),
  (19, .aload_n 0, [0], none),
  (20, .getfield 18, [], some (eF 8 4)),
  (23, .bipush 10, [], some (eI 10)),
  (25, .iload 4, [4], none),
  (27, .imul, [], none),
  (28, .iload_n 2, [2], none),
  (29, .iadd, [], none),
  (30, .dup2, [], none),
  (31, .iaload, [], none),
  (32, .iload_n 3, [3], none),
  (33, .iadd, [], none),
  (34, .iastore, [], none),
  (35, .iinc 4 1, [4], some (eI 1)),
  (38, .goto (-35), [3], none),
  (41, .return_, [], none)]
theorem okOrders_countPairs : am_mok mOrders_countPairs kOrders_countPairs := ⟨by decide +kernel, plOrders, by decide +kernel, poOrders⟩
end
section
def plPre : List (Nat × Nat × am_N) := []
theorem poPre : ∀ q ∈ plPre, am_pk "jdk/internal/util/Preconditions" q.1 q.2.1 q.2.2 := fun _ h => absurd h List.not_mem_nil
def kPre_checkIndex : List am_E := [(0, .iload_n 0, [0], none),
  (1, .ifCond .lt 8, [9], none),
  (4, .iload_n 0, [0], none),
  (5, .iload_n 1, [1], none),
  (6, .if_icmp .lt 10, [16], none),
  (9, .aload_n 2, [2], none),
  (10, .iload_n 0, [0], none),
  (11, .iload_n 1, [1], none),
  (12, .invokestatic 95, [], none),
  (15, .athrow, [], none),
  (16, .iload_n 0, [0], none),
  (17, .ireturn, [], none)]
theorem okPre_checkIndex : am_mok mPre_checkIndex kPre_checkIndex := ⟨by decide +kernel, plPre, by decide +kernel, poPre⟩
end
section
theorem peReader_0_10 : am_pk "PaperedOver$Reader" 0 10 (eF 3 1) := ⟨(rc_3, tc_3, 8), rfl, by decide, (gm 188 (by decide +kernel) (by decide +kernel))⟩
theorem peReader_0_16 : am_pk "PaperedOver$Reader" 0 16 (eF 3 0) := ⟨(rc_3, tc_3, 8), rfl, by decide, (gm 187 (by decide +kernel) (by decide +kernel))⟩
theorem peReader_0_23 : am_pk "PaperedOver$Reader" 0 23 (eF 3 6) := ⟨(rc_3, tc_3, 8), rfl, by decide, (gm 194 (by decide +kernel) (by decide +kernel))⟩
theorem peReader_0_27 : am_pk "PaperedOver$Reader" 0 27 (eF 3 4) := ⟨(rc_3, tc_3, 8), rfl, by decide, (gm 192 (by decide +kernel) (by decide +kernel))⟩
theorem peReader_0_35 : am_pk "PaperedOver$Reader" 0 35 (eF 3 2) := ⟨(rc_3, tc_3, 8), rfl, by decide, (gm 190 (by decide +kernel) (by decide +kernel))⟩
theorem peReader_0_67 : am_pk "PaperedOver$Reader" 0 67 (eF 4 0) := ⟨(rc_4, tc_4, 14), rfl, by decide, (gm 118 (by decide +kernel) (by decide +kernel))⟩
theorem peReader_0_70 : am_pk "PaperedOver$Reader" 0 70 (eF 4 4) := ⟨(rc_4, tc_4, 14), rfl, by decide, (gm 128 (by decide +kernel) (by decide +kernel))⟩
theorem peReader_0_73 : am_pk "PaperedOver$Reader" 0 73 (eF 4 10) := ⟨(rc_4, tc_4, 14), rfl, by decide, (gm 148 (by decide +kernel) (by decide +kernel))⟩
theorem peReader_0_116 : am_pk "PaperedOver$Reader" 0 116 (eF 3 5) := ⟨(rc_3, tc_3, 8), rfl, by decide, (gm 193 (by decide +kernel) (by decide +kernel))⟩
theorem peReader_0_119 : am_pk "PaperedOver$Reader" 0 119 (eF 3 3) := ⟨(rc_3, tc_3, 8), rfl, by decide, (gm 191 (by decide +kernel) (by decide +kernel))⟩
theorem peReader_0_122 : am_pk "PaperedOver$Reader" 0 122 (eF 3 7) := ⟨(rc_3, tc_3, 8), rfl, by decide, (gm 197 (by decide +kernel) (by decide +kernel))⟩
theorem peReader_0_125 : am_pk "PaperedOver$Reader" 0 125 (eF 2 1) := ⟨(rc_2, tc_2, 2), rfl, by decide, (gm 98 (by decide +kernel) (by decide +kernel))⟩
theorem peReader_1_57 : am_pk "PaperedOver$Reader" 1 57 (eR (aR 13 0 0)) := ⟨0, by decide, rfl, rfl, rfl⟩
theorem peReader_1_63 : am_pk "PaperedOver$Reader" 1 63 (eR (aR 13 0 1)) := ⟨1, by decide, rfl, rfl, rfl⟩
theorem peReader_1_65 : am_pk "PaperedOver$Reader" 1 65 (eR (aR 13 0 2)) := ⟨2, by decide, rfl, rfl, rfl⟩
theorem peReader_1_106 : am_pk "PaperedOver$Reader" 1 106 (eR (aR 13 0 3)) := ⟨3, by decide, rfl, rfl, rfl⟩
theorem peReader_1_108 : am_pk "PaperedOver$Reader" 1 108 (eR (aR 13 0 4)) := ⟨4, by decide, rfl, rfl, rfl⟩
theorem peReader_1_110 : am_pk "PaperedOver$Reader" 1 110 (eR (aR 13 0 5)) := ⟨5, by decide, rfl, rfl, rfl⟩
theorem peReader_1_112 : am_pk "PaperedOver$Reader" 1 112 (eR (aR 13 0 6)) := ⟨6, by decide, rfl, rfl, rfl⟩
theorem peReader_1_114 : am_pk "PaperedOver$Reader" 1 114 (eR (aR 13 0 7)) := ⟨7, by decide, rfl, rfl, rfl⟩
theorem peReader_4_20 : am_pk "PaperedOver$Reader" 4 20 (eC 30 1 4) := ⟨0, rfl, wHouse_clear, (gm 504 (by decide +kernel) (by decide +kernel)), vHouse_clear.1, vHouse_clear.2, Or.inl ⟨_, rfl, rfl⟩⟩
theorem peReader_4_30 : am_pk "PaperedOver$Reader" 4 30 (eC 57 1 3) := ⟨0, rfl, wReader_step, (gm 508 (by decide +kernel) (by decide +kernel)), vReader_step.1, vReader_step.2, Or.inl ⟨_, rfl, rfl⟩⟩
theorem peReader_4_38 : am_pk "PaperedOver$Reader" 4 38 (eC 25 1 4) := ⟨0, rfl, wHouse_stands, (gm 525 (by decide +kernel) (by decide +kernel)), vHouse_stands.1, vHouse_stands.2, Or.inl ⟨_, rfl, rfl⟩⟩
theorem peReader_4_42 : am_pk "PaperedOver$Reader" 4 42 (eC 47 1 3) := ⟨0, rfl, wReader_word, (gm 529 (by decide +kernel) (by decide +kernel)), vReader_word.1, vReader_word.2, Or.inl ⟨_, rfl, rfl⟩⟩
theorem peReader_4_46 : am_pk "PaperedOver$Reader" 4 46 (eC 56 2 3) := ⟨1, rfl, wReader_fail, (gm 588 (by decide +kernel) (by decide +kernel)), vReader_fail.1, vReader_fail.2, Or.inl ⟨_, rfl, rfl⟩⟩
theorem peReader_4_50 : am_pk "PaperedOver$Reader" 4 50 (eC 48 2 3) := ⟨1, rfl, wReader_isFull, (gm 592 (by decide +kernel) (by decide +kernel)), vReader_isFull.1, vReader_isFull.2, Or.inl ⟨_, rfl, rfl⟩⟩
theorem peReader_4_54 : am_pk "PaperedOver$Reader" 4 54 (eC 49 2 3) := ⟨1, rfl, wReader_readOne, (gm 596 (by decide +kernel) (by decide +kernel)), vReader_readOne.1, vReader_readOne.2, Or.inl ⟨_, rfl, rfl⟩⟩
theorem peReader_4_59 : am_pk "PaperedOver$Reader" 4 59 (eC 58 2 3) := ⟨1, rfl, wReader_isName, (gm 534 (by decide +kernel) (by decide +kernel)), vReader_isName.1, vReader_isName.2, Or.inl ⟨_, rfl, rfl⟩⟩
theorem peReader_4_76 : am_pk "PaperedOver$Reader" 4 76 (eC 50 1 3) := ⟨0, rfl, wReader_readWall, (gm 600 (by decide +kernel) (by decide +kernel)), vReader_readWall.1, vReader_readWall.2, Or.inl ⟨_, rfl, rfl⟩⟩
theorem peReader_4_79 : am_pk "PaperedOver$Reader" 4 79 (eC 51 1 3) := ⟨0, rfl, wReader_readPaper, (gm 616 (by decide +kernel) (by decide +kernel)), vReader_readPaper.1, vReader_readPaper.2, Or.inl ⟨_, rfl, rfl⟩⟩
theorem peReader_4_82 : am_pk "PaperedOver$Reader" 4 82 (eC 52 1 3) := ⟨0, rfl, wReader_readTenant, (gm 633 (by decide +kernel) (by decide +kernel)), vReader_readTenant.1, vReader_readTenant.2, Or.inl ⟨_, rfl, rfl⟩⟩
theorem peReader_4_85 : am_pk "PaperedOver$Reader" 4 85 (eC 54 3 3) := ⟨2, rfl, wReader_number, (gm 604 (by decide +kernel) (by decide +kernel)), vReader_number.1, vReader_number.2, Or.inl ⟨_, rfl, rfl⟩⟩
theorem peReader_4_89 : am_pk "PaperedOver$Reader" 4 89 (eC 55 1 3) := ⟨0, rfl, wReader_semicolon, (gm 608 (by decide +kernel) (by decide +kernel)), vReader_semicolon.1, vReader_semicolon.2, Or.inl ⟨_, rfl, rfl⟩⟩
theorem peReader_4_92 : am_pk "PaperedOver$Reader" 4 92 (eC 31 4 4) := ⟨3, rfl, wHouse_addWall, (gm 612 (by decide +kernel) (by decide +kernel)), vHouse_addWall.1, vHouse_addWall.2, Or.inl ⟨_, rfl, rfl⟩⟩
theorem peReader_4_96 : am_pk "PaperedOver$Reader" 4 96 (eC 53 1 3) := ⟨0, rfl, wReader_sortOfPaper, (gm 620 (by decide +kernel) (by decide +kernel)), vReader_sortOfPaper.1, vReader_sortOfPaper.2, Or.inl ⟨_, rfl, rfl⟩⟩
theorem peReader_4_99 : am_pk "PaperedOver$Reader" 4 99 (eC 32 6 4) := ⟨5, rfl, wHouse_addPaper, (gm 629 (by decide +kernel) (by decide +kernel)), vHouse_addPaper.1, vHouse_addPaper.2, Or.inl ⟨_, rfl, rfl⟩⟩
theorem peReader_4_103 : am_pk "PaperedOver$Reader" 4 103 (eC 33 4 4) := ⟨3, rfl, wHouse_addTenant, (gm 637 (by decide +kernel) (by decide +kernel)), vHouse_addTenant.1, vHouse_addTenant.2, Or.inl ⟨_, rfl, rfl⟩⟩
theorem peReader_4_128 : am_pk "PaperedOver$Reader" 4 128 (eC 81 2 2) := ⟨1, rfl, wTape_at, (gm 512 (by decide +kernel) (by decide +kernel)), vTape_at.1, vTape_at.2, Or.inl ⟨_, rfl, rfl⟩⟩
theorem peReader_4_141 : am_pk "PaperedOver$Reader" 4 141 (eC 202 1 13) := ⟨0, rfl, wStr_length, (gm 538 (by decide +kernel) (by decide +kernel)), vStr_length.1, vStr_length.2, Or.inr ⟨rfl, rfl⟩⟩
theorem peReader_4_145 : am_pk "PaperedOver$Reader" 4 145 (eC 203 2 13) := ⟨1, rfl, wStr_charAt, (gm 548 (by decide +kernel) (by decide +kernel)), vStr_charAt.1, vStr_charAt.2, Or.inr ⟨rfl, rfl⟩⟩
theorem peReader_5_132 : am_pk "PaperedOver$Reader" 5 132 (eC 59 1 0) := ⟨wReader_isBlank, sReader_isBlank, Or.inl (gm 516 (by decide +kernel) (by decide +kernel))⟩
theorem peReader_5_135 : am_pk "PaperedOver$Reader" 5 135 (eC 60 1 0) := ⟨wReader_isLetter, sReader_isLetter, Or.inl (gm 519 (by decide +kernel) (by decide +kernel))⟩
theorem peReader_5_138 : am_pk "PaperedOver$Reader" 5 138 (eC 61 1 0) := ⟨wReader_isFigure, sReader_isFigure, Or.inl (gm 522 (by decide +kernel) (by decide +kernel))⟩
def plReader : List (Nat × Nat × am_N) := [(0, 10, eF 3 1), (0, 16, eF 3 0), (0, 23, eF 3 6), (0, 27, eF 3 4), (0, 35, eF 3 2), (0, 67, eF 4 0), (0, 70, eF 4 4), (0, 73, eF 4 10), (0, 116, eF 3 5), (0, 119, eF 3 3), (0, 122, eF 3 7), (0, 125, eF 2 1), (1, 57, eR (aR 13 0 0)), (1, 63, eR (aR 13 0 1)), (1, 65, eR (aR 13 0 2)), (1, 106, eR (aR 13 0 3)), (1, 108, eR (aR 13 0 4)), (1, 110, eR (aR 13 0 5)), (1, 112, eR (aR 13 0 6)), (1, 114, eR (aR 13 0 7)), (4, 20, eC 30 1 4), (4, 30, eC 57 1 3), (4, 38, eC 25 1 4), (4, 42, eC 47 1 3), (4, 46, eC 56 2 3), (4, 50, eC 48 2 3), (4, 54, eC 49 2 3), (4, 59, eC 58 2 3), (4, 76, eC 50 1 3), (4, 79, eC 51 1 3), (4, 82, eC 52 1 3), (4, 85, eC 54 3 3), (4, 89, eC 55 1 3), (4, 92, eC 31 4 4), (4, 96, eC 53 1 3), (4, 99, eC 32 6 4), (4, 103, eC 33 4 4), (4, 128, eC 81 2 2), (4, 141, eC 202 1 13), (4, 145, eC 203 2 13), (5, 132, eC 59 1 0), (5, 135, eC 60 1 0), (5, 138, eC 61 1 0)]
theorem poReader : ∀ q ∈ plReader, am_pk "PaperedOver$Reader" q.1 q.2.1 q.2.2 := List.forall_mem_cons.mpr ⟨peReader_0_10, List.forall_mem_cons.mpr ⟨peReader_0_16, List.forall_mem_cons.mpr ⟨peReader_0_23, List.forall_mem_cons.mpr ⟨peReader_0_27, List.forall_mem_cons.mpr ⟨peReader_0_35, List.forall_mem_cons.mpr ⟨peReader_0_67, List.forall_mem_cons.mpr ⟨peReader_0_70, List.forall_mem_cons.mpr ⟨peReader_0_73, List.forall_mem_cons.mpr ⟨peReader_0_116, List.forall_mem_cons.mpr ⟨peReader_0_119, List.forall_mem_cons.mpr ⟨peReader_0_122, List.forall_mem_cons.mpr ⟨peReader_0_125, List.forall_mem_cons.mpr ⟨peReader_1_57, List.forall_mem_cons.mpr ⟨peReader_1_63, List.forall_mem_cons.mpr ⟨peReader_1_65, List.forall_mem_cons.mpr ⟨peReader_1_106, List.forall_mem_cons.mpr ⟨peReader_1_108, List.forall_mem_cons.mpr ⟨peReader_1_110, List.forall_mem_cons.mpr ⟨peReader_1_112, List.forall_mem_cons.mpr ⟨peReader_1_114, List.forall_mem_cons.mpr ⟨peReader_4_20, List.forall_mem_cons.mpr ⟨peReader_4_30, List.forall_mem_cons.mpr ⟨peReader_4_38, List.forall_mem_cons.mpr ⟨peReader_4_42, List.forall_mem_cons.mpr ⟨peReader_4_46, List.forall_mem_cons.mpr ⟨peReader_4_50, List.forall_mem_cons.mpr ⟨peReader_4_54, List.forall_mem_cons.mpr ⟨peReader_4_59, List.forall_mem_cons.mpr ⟨peReader_4_76, List.forall_mem_cons.mpr ⟨peReader_4_79, List.forall_mem_cons.mpr ⟨peReader_4_82, List.forall_mem_cons.mpr ⟨peReader_4_85, List.forall_mem_cons.mpr ⟨peReader_4_89, List.forall_mem_cons.mpr ⟨peReader_4_92, List.forall_mem_cons.mpr ⟨peReader_4_96, List.forall_mem_cons.mpr ⟨peReader_4_99, List.forall_mem_cons.mpr ⟨peReader_4_103, List.forall_mem_cons.mpr ⟨peReader_4_128, List.forall_mem_cons.mpr ⟨peReader_4_141, List.forall_mem_cons.mpr ⟨peReader_4_145, List.forall_mem_cons.mpr ⟨peReader_5_132, List.forall_mem_cons.mpr ⟨peReader_5_135, List.forall_mem_cons.mpr ⟨peReader_5_138, fun _ h => absurd h List.not_mem_nil⟩⟩⟩⟩⟩⟩⟩⟩⟩⟩⟩⟩⟩⟩⟩⟩⟩⟩⟩⟩⟩⟩⟩⟩⟩⟩⟩⟩⟩⟩⟩⟩⟩⟩⟩⟩⟩⟩⟩⟩⟩⟩⟩
def kReader_read : List am_E := [(0, .aload_n 0, [0], none),
  (1, .getfield 10, [], some (eF 3 1)),
  (4, .invokevirtual 20, [], some (eC 30 1 4)),
  (7, .aload_n 0, [0], none),
  (8, .iconst 0, [], some (eI 0)),
  (9, .putfield 23, [], some (eF 3 6)),
  (12, .aload_n 0, [0], none),
  (13, .iconst 0, [], some (eI 0)),
  (14, .putfield 27, [], some (eF 3 4)),
  (17, .aload_n 0, [0], none),
  (18, .invokevirtual 30, [], some (eC 57 1 3)),
  (21, .iconst 0, [], some (eI 0)),
  (22, .istore_n 1, [1], none),
  (23, .iconst 0, [], some (eI 0)),
  (24, .istore_n 2, [2], none),
  (25, .iload_n 2, [2], none),
  (26, .sipush 500, [], some (eI 500)),
  (29, .if_icmp .gt 86, [115], none),
  (32, .aload_n 0, [0], none),
  (33, .getfield 35, [], some (eF 3 2)),
  (36, .ifCond .ne 15, [51], none),
  (39, .aload_n 0, [0], none),
  (40, .getfield 10, [], some (eF 3 1)),
  (43, .invokevirtual 38, [], some (eC 25 1 4)),
  (46, .ifCond .eq 5, [51], none),
  (49, .iconst 1, [], some (eI 1)),
  (50, .ireturn, [], none),
  (51, .aload_n 0, [0], none),
  (52, .invokevirtual 42, [], some (eC 47 1 3)),
  (55, .istore_n 3, [3], none),
  (56, .iload_n 3, [3], none),
  (57, .iload_n 1, [1], none),
  (58, .if_icmp .lt 17, [75], none),
  (61, .iload_n 3, [3], none),
  (62, .ifCond .le 18, [80], none),
  (65, .aload_n 0, [0], none),
  (66, .getfield 10, [], some (eF 3 1)),
  (69, .invokevirtual 38, [], some (eC 25 1 4)),
  (72, .ifCond .ne 8, [80], none),
  (75, .aload_n 0, [0], none),
  (76, .iconst 1, [], some (eI 1)),
  (77, .invokevirtual 46, [], some (eC 56 2 3)),
  (80, .aload_n 0, [0], none),
  (81, .iload_n 3, [3], none),
  (82, .invokevirtual 50, [], some (eC 48 2 3)),
  (85, .ifCond .eq 8, [93], none),
  (88, .aload_n 0, [0], none),
  (89, .iconst 3, [], some (eI 3)),
  (90, .invokevirtual 46, [], some (eC 56 2 3)),
  (93, .aload_n 0, [0], none),
  (94, .iload_n 3, [3], none),
  (95, .invokevirtual 54, [], some (eC 49 2 3)),
  (98, .aload_n 0, [0], none),
  (99, .getfield 23, [], some (eF 3 6)),
  (102, .ifCond .eq 5, [107], none),
  (105, .iconst 0, [], some (eI 0)),
  (106, .ireturn, [], none),
  (107, .iload_n 3, [3], none),
  (108, .istore_n 1, [1], none),
  (109, .iinc 2 1, [2], some (eI 1)),
  (112, .goto (-87), [25], none),
  (115, .iconst 0, [], some (eI 0)),
  (116, .ireturn, [], none)]
theorem okReader_read : am_mok mReader_read kReader_read := ⟨by decide +kernel, plReader, by decide +kernel, poReader⟩
def kReader_word : List am_E := [(0, .aload_n 0, [0], none),
  (1, .ldc 57, [], some (eR (aR 13 0 0))),
  (3, .invokevirtual 59, [], some (eC 58 2 3)),
  (6, .ifCond .eq 5, [11], none),
  (9, .iconst 0, [], some (eI 0)),
  (10, .ireturn, [], none),
  (11, .aload_n 0, [0], none),
  (12, .ldc 63, [], some (eR (aR 13 0 1))),
  (14, .invokevirtual 59, [], some (eC 58 2 3)),
  (17, .ifCond .eq 5, [22], none),
  (20, .iconst 1, [], some (eI 1)),
  (21, .ireturn, [], none),
  (22, .aload_n 0, [0], none),
  (23, .ldc 65, [], some (eR (aR 13 0 2))),
  (25, .invokevirtual 59, [], some (eC 58 2 3)),
  (28, .ifCond .eq 7, [35], none),
  (31, .iconst 2, [], some (eI 2)),
  (32, .goto 4, [36], none),
  (35, .iconst (-1), [], some (eI (-1))),
  (36, .ireturn, [], none)]
theorem okReader_word : am_mok mReader_word kReader_word := ⟨by decide +kernel, plReader, by decide +kernel, poReader⟩
def kReader_isFull : List am_E := [(0, .iload_n 1, [1], none),
  (1, .ifCond .ne 21, [22], none),
  (4, .aload_n 0, [0], none),
  (5, .getfield 10, [], some (eF 3 1)),
  (8, .getfield 67, [], some (eF 4 0)),
  (11, .bipush 8, [], some (eI 8)),
  (13, .if_icmp .lt 7, [20], none),
  (16, .iconst 1, [], some (eI 1)),
  (17, .goto 4, [21], none),
  (20, .iconst 0, [], some (eI 0)),
  (21, .ireturn, [], none),
  (22, .iload_n 1, [1], none),
  (23, .iconst 1, [], some (eI 1)),
  (24, .if_icmp .ne 21, [45], none),
  (27, .aload_n 0, [0], none),
  (28, .getfield 10, [], some (eF 3 1)),
  (31, .getfield 70, [], some (eF 4 4)),
  (34, .bipush 10, [], some (eI 10)),
  (36, .if_icmp .lt 7, [43], none),
  (39, .iconst 1, [], some (eI 1)),
  (40, .goto 4, [44], none),
  (43, .iconst 0, [], some (eI 0)),
  (44, .ireturn, [], none),
  (45, .iload_n 1, [1], none),
  (46, .iconst 2, [], some (eI 2)),
  (47, .if_icmp .ne 19, [66], none),
  (50, .aload_n 0, [0], none),
  (51, .getfield 10, [], some (eF 3 1)),
  (54, .getfield 73, [], some (eF 4 10)),
  (57, .bipush 10, [], some (eI 10)),
  (59, .if_icmp .lt 7, [66], none),
  (62, .iconst 1, [], some (eI 1)),
  (63, .goto 4, [67], none),
  (66, .iconst 0, [], some (eI 0)),
  (67, .ireturn, [], none)]
theorem okReader_isFull : am_mok mReader_isFull kReader_isFull := ⟨by decide +kernel, plReader, by decide +kernel, poReader⟩
def kReader_readOne : List am_E := [(0, .aload_n 0, [0], none),
  (1, .getfield 23, [], some (eF 3 6)),
  (4, .ifCond .eq 4, [8], none),
  (7, .return_, [], none),
  (8, .aload_n 0, [0], none),
  (9, .invokevirtual 30, [], some (eC 57 1 3)),
  (12, .iload_n 1, [1], none),
  (13, .ifCond .ne 7, [20], none),
  (16, .aload_n 0, [0], none),
  (17, .invokevirtual 76, [], some (eC 50 1 3)),
  (20, .iload_n 1, [1], none),
  (21, .iconst 1, [], some (eI 1)),
  (22, .if_icmp .ne 7, [29], none),
  (25, .aload_n 0, [0], none),
  (26, .invokevirtual 79, [], some (eC 51 1 3)),
  (29, .iload_n 1, [1], none),
  (30, .iconst 2, [], some (eI 2)),
  (31, .if_icmp .ne 7, [38], none),
  (34, .aload_n 0, [0], none),
  (35, .invokevirtual 82, [], some (eC 52 1 3)),
  (38, .return_, [], none)]
theorem okReader_readOne : am_mok mReader_readOne kReader_readOne := ⟨by decide +kernel, plReader, by decide +kernel, poReader⟩
def kReader_readWall : List am_E := [(0, .aload_n 0, [0], none),
  (1, .sipush 1700, [], some (eI 1700)),
  (4, .sipush 1999, [], some (eI 1999)),
  (7, .invokevirtual 85, [], some (eC 54 3 3)),
  (10, .istore_n 1, [1], none),
  (11, .aload_n 0, [0], none),
  (12, .bipush 50, [], some (eI 50)),
  (14, .sipush 999, [], some (eI 999)),
  (17, .invokevirtual 85, [], some (eC 54 3 3)),
  (20, .istore_n 2, [2], none),
  (21, .aload_n 0, [0], none),
  (22, .bipush 100, [], some (eI 100)),
  (24, .sipush 400, [], some (eI 400)),
  (27, .invokevirtual 85, [], some (eC 54 3 3)),
  (30, .istore_n 3, [3], none),
  (31, .aload_n 0, [0], none),
  (32, .invokevirtual 89, [], some (eC 55 1 3)),
  (35, .aload_n 0, [0], none),
  (36, .getfield 23, [], some (eF 3 6)),
  (39, .ifCond .ne 13, [52], none),
  (42, .aload_n 0, [0], none),
  (43, .getfield 10, [], some (eF 3 1)),
  (46, .iload_n 1, [1], none),
  (47, .iload_n 2, [2], none),
  (48, .iload_n 3, [3], none),
  (49, .invokevirtual 92, [], some (eC 31 4 4)),
  (52, .return_, [], none)]
theorem okReader_readWall : am_mok mReader_readWall kReader_readWall := ⟨by decide +kernel, plReader, by decide +kernel, poReader⟩
def kReader_readPaper : List am_E := [(0, .aload_n 0, [0], none),
  (1, .invokevirtual 96, [], some (eC 53 1 3)),
  (4, .istore_n 1, [1], none),
  (5, .aload_n 0, [0], none),
  (6, .sipush 1700, [], some (eI 1700)),
  (9, .sipush 1999, [], some (eI 1999)),
  (12, .invokevirtual 85, [], some (eC 54 3 3)),
  (15, .istore_n 2, [2], none),
  (16, .aload_n 0, [0], none),
  (17, .iload_n 2, [2], none),
  (18, .sipush 1999, [], some (eI 1999)),
  (21, .invokevirtual 85, [], some (eC 54 3 3)),
  (24, .istore_n 3, [3], none),
  (25, .aload_n 0, [0], none),
  (26, .iconst 0, [], some (eI 0)),
  (27, .bipush 99, [], some (eI 99)),
  (29, .invokevirtual 85, [], some (eC 54 3 3)),
  (32, .istore 4, [4], none),
  (34, .aload_n 0, [0], none),
  (35, .iconst 1, [], some (eI 1)),
  (36, .bipush 99, [], some (eI 99)),
  (38, .invokevirtual 85, [], some (eC 54 3 3)),
  (41, .istore 5, [5], none),
  (43, .aload_n 0, [0], none),
  (44, .invokevirtual 89, [], some (eC 55 1 3)),
  (47, .aload_n 0, [0], none),
  (48, .getfield 23, [], some (eF 3 6)),
  (51, .ifCond .ne 17, [68], none),
  (54, .aload_n 0, [0], none),
  (55, .getfield 10, [], some (eF 3 1)),
  (58, .iload_n 1, [1], none),
  (59, .iload_n 2, [2], none),
  (60, .iload_n 3, [3], none),
  (61, .iload 4, [4], none),
  (63, .iload 5, [5], none),
  (65, .invokevirtual 99, [], some (eC 32 6 4)),
  (68, .return_, [], none)]
theorem okReader_readPaper : am_mok mReader_readPaper kReader_readPaper := ⟨by decide +kernel, plReader, by decide +kernel, poReader⟩
def kReader_readTenant : List am_E := [(0, .aload_n 0, [0], none),
  (1, .sipush 1700, [], some (eI 1700)),
  (4, .sipush 1999, [], some (eI 1999)),
  (7, .invokevirtual 85, [], some (eC 54 3 3)),
  (10, .istore_n 1, [1], none),
  (11, .aload_n 0, [0], none),
  (12, .iload_n 1, [1], none),
  (13, .sipush 1999, [], some (eI 1999)),
  (16, .invokevirtual 85, [], some (eC 54 3 3)),
  (19, .istore_n 2, [2], none),
  (20, .aload_n 0, [0], none),
  (21, .iconst 0, [], some (eI 0)),
  (22, .bipush 99, [], some (eI 99)),
  (24, .invokevirtual 85, [], some (eC 54 3 3)),
  (27, .istore_n 3, [3], none),
  (28, .aload_n 0, [0], none),
  (29, .invokevirtual 89, [], some (eC 55 1 3)),
  (32, .aload_n 0, [0], none),
  (33, .getfield 23, [], some (eF 3 6)),
  (36, .ifCond .ne 13, [49], none),
  (39, .aload_n 0, [0], none),
  (40, .getfield 10, [], some (eF 3 1)),
  (43, .iload_n 1, [1], none),
  (44, .iload_n 2, [2], none),
  (45, .iload_n 3, [3], none),
  (46, .invokevirtual 103, [], some (eC 33 4 4)),
  (49, .return_, [], none)]
theorem okReader_readTenant : am_mok mReader_readTenant kReader_readTenant := ⟨by decide +kernel, plReader, by decide +kernel, poReader⟩
def kReader_sortOfPaper : List am_E := [(0, .iconst 0, [], some (eI 0)),
  (1, .istore_n 1, [1], none),
  (2, .aload_n 0, [0], none),
  (3, .ldc 106, [], some (eR (aR 13 0 3))),
  (5, .invokevirtual 59, [], some (eC 58 2 3)),
  (8, .ifCond .eq 5, [13], none),
  (11, .iconst 1, [], some (eI 1)),
  (12, .istore_n 1, [1], none),
  (13, .aload_n 0, [0], none),
  (14, .ldc 108, [], some (eR (aR 13 0 4))),
  (16, .invokevirtual 59, [], some (eC 58 2 3)),
  (19, .ifCond .eq 5, [24], none),
  (22, .iconst 2, [], some (eI 2)),
  (23, .istore_n 1, [1], none),
  (24, .aload_n 0, [0], none),
  (25, .ldc 110, [], some (eR (aR 13 0 5))),
  (27, .invokevirtual 59, [], some (eC 58 2 3)),
  (30, .ifCond .eq 5, [35], none),
  (33, .iconst 3, [], some (eI 3)),
  (34, .istore_n 1, [1], none),
  (35, .aload_n 0, [0], none),
  (36, .ldc 112, [], some (eR (aR 13 0 6))),
  (38, .invokevirtual 59, [], some (eC 58 2 3)),
  (41, .ifCond .eq 5, [46], none),
  (44, .iconst 4, [], some (eI 4)),
  (45, .istore_n 1, [1], none),
  (46, .aload_n 0, [0], none),
  (47, .ldc 114, [], some (eR (aR 13 0 7))),
  (49, .invokevirtual 59, [], some (eC 58 2 3)),
  (52, .ifCond .eq 5, [57], none),
  (55, .iconst 5, [], some (eI 5)),
  (56, .istore_n 1, [1], none),
  (57, .iload_n 1, [1], none),
  (58, .ifCond .ne 8, [66], none),
  (61, .aload_n 0, [0], none),
  (62, .iconst 1, [], some (eI 1)),
  (63, .invokevirtual 46, [], some (eC 56 2 3)),
  (66, .aload_n 0, [0], none),
  (67, .getfield 23, [], some (eF 3 6)),
  (70, .ifCond .ne 7, [77], none),
  (73, .aload_n 0, [0], none),
  (74, .invokevirtual 30, [], some (eC 57 1 3)),
  (77, .iload_n 1, [1], none),
  (78, .ireturn, [], none)]
theorem okReader_sortOfPaper : am_mok mReader_sortOfPaper kReader_sortOfPaper := ⟨by decide +kernel, plReader, by decide +kernel, poReader⟩
def kReader_number : List am_E := [(0, .aload_n 0, [0], none),
  (1, .getfield 23, [], some (eF 3 6)),
  (4, .ifCond .eq 5, [9], none),
  (7, .iconst 0, [], some (eI 0)),
  (8, .ireturn, [], none),
  (9, .aload_n 0, [0], none),
  (10, .getfield 35, [], some (eF 3 2)),
  (13, .iconst 2, [], some (eI 2)),
  (14, .if_icmp .eq 10, [24], none),
  (17, .aload_n 0, [0], none),
  (18, .iconst 1, [], some (eI 1)),
  (19, .invokevirtual 46, [], some (eC 56 2 3)),
  (22, .iconst 0, [], some (eI 0)),
  (23, .ireturn, [], none),
  (24, .aload_n 0, [0], none),
  (25, .getfield 116, [], some (eF 3 5)),
  (28, .iload_n 1, [1], none),
  (29, .if_icmp .lt 11, [40], none),
  (32, .aload_n 0, [0], none),
  (33, .getfield 116, [], some (eF 3 5)),
  (36, .iload_n 2, [2], none),
  (37, .if_icmp .le 10, [47], none),
  (40, .aload_n 0, [0], none),
  (41, .iconst 2, [], some (eI 2)),
  (42, .invokevirtual 46, [], some (eC 56 2 3)),
  (45, .iconst 0, [], some (eI 0)),
  (46, .ireturn, [], none),
  (47, .aload_n 0, [0], none),
  (48, .getfield 116, [], some (eF 3 5)),
  (51, .istore_n 3, [3], none),
  (52, .aload_n 0, [0], none),
  (53, .invokevirtual 30, [], some (eC 57 1 3)),
  (56, .iload_n 3, [3], none),
  (57, .ireturn, [], none)]
theorem okReader_number : am_mok mReader_number kReader_number := ⟨by decide +kernel, plReader, by decide +kernel, poReader⟩
def kReader_semicolon : List am_E := [(0, .aload_n 0, [0], none),
  (1, .getfield 23, [], some (eF 3 6)),
  (4, .ifCond .eq 4, [8], none),
  (7, .return_, [], none),
  (8, .aload_n 0, [0], none),
  (9, .getfield 35, [], some (eF 3 2)),
  (12, .iconst 3, [], some (eI 3)),
  (13, .if_icmp .ne 10, [23], none),
  (16, .aload_n 0, [0], none),
  (17, .invokevirtual 30, [], some (eC 57 1 3)),
  (20, .goto 8, [28], none),
  (23, .aload_n 0, [0], none),
  (24, .iconst 1, [], some (eI 1)),
  (25, .invokevirtual 46, [], some (eC 56 2 3)),
  (28, .return_, [], none)]
theorem okReader_semicolon : am_mok mReader_semicolon kReader_semicolon := ⟨by decide +kernel, plReader, by decide +kernel, poReader⟩
def kReader_fail : List am_E := [(0, .aload_n 0, [0], none),
  (1, .getfield 23, [], some (eF 3 6)),
  (4, .ifCond .eq 4, [8], none),
  (7, .return_, [], none),
  (8, .aload_n 0, [0], none),
  (9, .iload_n 1, [1], none),
  (10, .putfield 23, [], some (eF 3 6)),
  (13, .aload_n 0, [0], none),
  (14, .aload_n 0, [0], none),
  (15, .getfield 119, [], some (eF 3 3)),
  (18, .putfield 122, [], some (eF 3 7)),
  (21, .return_, [], none)]
theorem okReader_fail : am_mok mReader_fail kReader_fail := ⟨by decide +kernel, plReader, by decide +kernel, poReader⟩
def kReader_step : List am_E := [(0, .aload_n 0, [0], none),
  (1, .aload_n 0, [0], none),
  (2, .getfield 27, [], some (eF 3 4)),
  (5, .putfield 119, [], some (eF 3 3)),
  (8, .aload_n 0, [0], none),
  (9, .getfield 119, [], some (eF 3 3)),
  (12, .aload_n 0, [0], none),
  (13, .getfield 16, [], some (eF 3 0)),
  (16, .getfield 125, [], some (eF 2 1)),
  (19, .if_icmp .ge 33, [52], none),
  (22, .aload_n 0, [0], none),
  (23, .getfield 16, [], some (eF 3 0)),
  (26, .aload_n 0, [0], none),
  (27, .getfield 119, [], some (eF 3 3)),
  (30, .invokevirtual 128, [], some (eC 81 2 2)),
  (33, .invokestatic 132, [], some (eC 59 1 0)),
  (36, .ifCond .eq 16, [52], none),
  (39, .aload_n 0, [0], none),
  (40, .dup, [], none),
  (41, .getfield 119, [], some (eF 3 3)),
  (44, .iconst 1, [], some (eI 1)),
  (45, .iadd, [], none),
  (46, .putfield 119, [], some (eF 3 3)),
  (49, .goto (-41), [8], none),
  (52, .aload_n 0, [0], none),
  (53, .aload_n 0, [0], none),
  (54, .getfield 119, [], some (eF 3 3)),
  (57, .iconst 1, [], some (eI 1)),
  (58, .iadd, [], none),
  (59, .putfield 27, [], some (eF 3 4)),
  (62, .aload_n 0, [0], none),
  (63, .getfield 16, [], some (eF 3 0)),
  (66, .aload_n 0, [0], none),
  (67, .getfield 119, [], some (eF 3 3)),
  (70, .invokevirtual 128, [], some (eC 81 2 2)),
  (73, .istore_n 1, [1], none),
  (74, .iload_n 1, [1], none),
  (75, .iconst (-1), [], some (eI (-1))),
  (76, .if_icmp .ne 19, [95], none),
  (79, .aload_n 0, [0], none),
  (80, .iconst 0, [], some (eI 0)),
  (81, .putfield 35, [], some (eF 3 2)),
  (84, .aload_n 0, [0], none),
  (85, .aload_n 0, [0], none),
  (86, .getfield 119, [], some (eF 3 3)),
  (89, .putfield 27, [], some (eF 3 4)),
  (92, .goto 184, [276], none),
  (95, .iload_n 1, [1], none),
  (96, .invokestatic 135, [], some (eC 60 1 0)),
  (99, .ifCond .eq 52, [151], none),
  (102, .aload_n 0, [0], none),
  (103, .iconst 1, [], some (eI 1)),
  (104, .putfield 35, [], some (eF 3 2)),
  (107, .aload_n 0, [0], none),
  (108, .getfield 27, [], some (eF 3 4)),
  (111, .aload_n 0, [0], none),
  (112, .getfield 16, [], some (eF 3 0)),
  (115, .getfield 125, [], some (eF 2 1)),
  (118, .if_icmp .ge 158, [276], none),
  (121, .aload_n 0, [0], none),
  (122, .getfield 16, [], some (eF 3 0)),
  (125, .aload_n 0, [0], none),
  (126, .getfield 27, [], some (eF 3 4)),
  (129, .invokevirtual 128, [], some (eC 81 2 2)),
  (132, .invokestatic 135, [], some (eC 60 1 0)),
  (135, .ifCond .eq 141, [276], none),
  (138, .aload_n 0, [0], none),
  (139, .dup, [], none),
  (140, .getfield 27, [], some (eF 3 4)),
  (143, .iconst 1, [], some (eI 1)),
  (144, .iadd, [], none),
  (145, .putfield 27, [], some (eF 3 4)),
  (148, .goto (-41), [107], none),
  (151, .iload_n 1, [1], none),
  (152, .invokestatic 138, [], some (eC 61 1 0)),
  (155, .ifCond .eq 106, [261], none),
  (158, .aload_n 0, [0], none),
  (159, .iload_n 1, [1], none),
  (160, .bipush 48, [], some (eI 48)),
  (162, .isub, [], none),
  (163, .putfield 116, [], some (eF 3 5)),
  (166, .aload_n 0, [0], none),
  (167, .getfield 27, [], some (eF 3 4)),
  (170, .aload_n 0, [0], none),
  (171, .getfield 16, [], some (eF 3 0)),
  (174, .getfield 125, [], some (eF 2 1)),
  (177, .if_icmp .ge 59, [236], none),
  (180, .aload_n 0, [0], none),
  (181, .getfield 16, [], some (eF 3 0)),
  (184, .aload_n 0, [0], none),
  (185, .getfield 27, [], some (eF 3 4)),
  (188, .invokevirtual 128, [], some (eC 81 2 2)),
  (191, .invokestatic 138, [], some (eC 61 1 0)),
  (194, .ifCond .eq 42, [236], none),
  (197, .aload_n 0, [0], none),
  (198, .aload_n 0, [0], none),
  (199, .getfield 116, [], some (eF 3 5)),
  (202, .bipush 10, [], some (eI 10)),
  (204, .imul, [], none),
  (205, .aload_n 0, [0], none),
  (206, .getfield 16, [], some (eF 3 0)),
  (209, .aload_n 0, [0], none),
  (210, .getfield 27, [], some (eF 3 4)),
  (213, .invokevirtual 128, [], some (eC 81 2 2)),
  (216, .iadd, [], none),
  (217, .bipush 48, [], some (eI 48)),
  (219, .isub, [], none),
  (220, .putfield 116, [], some (eF 3 5)),
  (223, .aload_n 0, [0], none),
  (224, .dup, [], none),
  (225, .getfield 27, [], some (eF 3 4)),
  (228, .iconst 1, [], some (eI 1)),
  (229, .iadd, [], none),
  (230, .putfield 27, [], some (eF 3 4)),
  (233, .goto (-67), [166], none),
  (236, .aload_n 0, [0], none),
  (237, .aload_n 0, [0], none),
  (238, .getfield 27, [], some (eF 3 4)),
  (241, .aload_n 0, [0], none),
  (242, .getfield 119, [], some (eF 3 3)),
  (245, .isub, [], none),
  (246, .iconst 4, [], some (eI 4)),
  (247, .if_icmp .gt 7, [254], none),
  (250, .iconst 2, [], some (eI 2)),
  (251, .goto 4, [255], none),
  (254, .iconst 4, [], some (eI 4)),
  (255, .putfield 35, [], some (eF 3 2)),
  (258, .goto 18, [276], none),
  (261, .aload_n 0, [0], none),
  (262, .iload_n 1, [1], none),
  (263, .bipush 59, [], some (eI 59)),
  (265, .if_icmp .ne 7, [272], none),
  (268, .iconst 3, [], some (eI 3)),
  (269, .goto 4, [273], none),
  (272, .iconst 4, [], some (eI 4)),
  (273, .putfield 35, [], some (eF 3 2)),
  (276, .return_, [], none)]
theorem okReader_step : am_mok mReader_step kReader_step := ⟨by decide +kernel, plReader, by decide +kernel, poReader⟩
def kReader_isName : List am_E := [(0, .aload_n 0, [0], none),
  (1, .getfield 35, [], some (eF 3 2)),
  (4, .iconst 1, [], some (eI 1)),
  (5, .if_icmp .ne 19, [24], none),
  (8, .aload_n 0, [0], none),
  (9, .getfield 27, [], some (eF 3 4)),
  (12, .aload_n 0, [0], none),
  (13, .getfield 119, [], some (eF 3 3)),
  (16, .isub, [], none),
  (17, .aload_n 1, [1], none),
  (18, .invokevirtual 141, [], some (eC 202 1 13)),
  (21, .if_icmp .eq 5, [26], none),
  (24, .iconst 0, [], some (eI 0)),
  (25, .ireturn, [], none),
  (26, .iconst 0, [], some (eI 0)),
  (27, .istore_n 2, [2], none),
  (28, .iload_n 2, [2], none),
  (29, .aload_n 1, [1], none),
  (30, .invokevirtual 141, [], some (eC 202 1 13)),
  (33, .if_icmp .ge 32, [65], none),
  (36, .aload_n 0, [0], none),
  (37, .getfield 16, [], some (eF 3 0)),
  (40, .aload_n 0, [0], none),
  (41, .getfield 119, [], some (eF 3 3)),
  (44, .iload_n 2, [2], none),
  (45, .iadd, [], none),
  (46, .invokevirtual 128, [], some (eC 81 2 2)),
  (49, .aload_n 1, [1], none),
  (50, .iload_n 2, [2], none),
  (51, .invokevirtual 145, [], some (eC 203 2 13)),
  (54, .if_icmp .eq 5, [59], none),
  (57, .iconst 0, [], some (eI 0)),
  (58, .ireturn, [], none),
  (59, .iinc 2 1, [2], some (eI 1)),
  (62, .goto (-34), [28], none),
  (65, .iconst 1, [], some (eI 1)),
  (66, .ireturn, [], none)]
theorem okReader_isName : am_mok mReader_isName kReader_isName := ⟨by decide +kernel, plReader, by decide +kernel, poReader⟩
def kReader_isBlank : List am_E := [(0, .iload_n 0, [0], none),
  (1, .bipush 32, [], some (eI 32)),
  (3, .if_icmp .eq 9, [12], none),
  (6, .iload_n 0, [0], none),
  (7, .bipush 10, [], some (eI 10)),
  (9, .if_icmp .ne 7, [16], none),
  (12, .iconst 1, [], some (eI 1)),
  (13, .goto 4, [17], none),
  (16, .iconst 0, [], some (eI 0)),
  (17, .ireturn, [], none)]
theorem okReader_isBlank : am_mok mReader_isBlank kReader_isBlank := ⟨by decide +kernel, plReader, by decide +kernel, poReader⟩
def kReader_isLetter : List am_E := [(0, .iload_n 0, [0], none),
  (1, .bipush 97, [], some (eI 97)),
  (3, .if_icmp .lt 13, [16], none),
  (6, .iload_n 0, [0], none),
  (7, .bipush 122, [], some (eI 122)),
  (9, .if_icmp .gt 7, [16], none),
  (12, .iconst 1, [], some (eI 1)),
  (13, .goto 4, [17], none),
  (16, .iconst 0, [], some (eI 0)),
  (17, .ireturn, [], none)]
theorem okReader_isLetter : am_mok mReader_isLetter kReader_isLetter := ⟨by decide +kernel, plReader, by decide +kernel, poReader⟩
def kReader_isFigure : List am_E := [(0, .iload_n 0, [0], none),
  (1, .bipush 48, [], some (eI 48)),
  (3, .if_icmp .lt 13, [16], none),
  (6, .iload_n 0, [0], none),
  (7, .bipush 57, [], some (eI 57)),
  (9, .if_icmp .gt 7, [16], none),
  (12, .iconst 1, [], some (eI 1)),
  (13, .goto 4, [17], none),
  (16, .iconst 0, [], some (eI 0)),
  (17, .ireturn, [], none)]
theorem okReader_isFigure : am_mok mReader_isFigure kReader_isFigure := ⟨by decide +kernel, plReader, by decide +kernel, poReader⟩
end
section
theorem peRef_0_7 : am_pk "PaperedOverModel" 0 7 (eF 11 2) := ⟨(rc_11, tc_11, 29), rfl, by decide, (gm 1022 (by decide +kernel) (by decide +kernel))⟩
theorem peRef_0_13 : am_pk "PaperedOverModel" 0 13 (eF 11 3) := ⟨(rc_11, tc_11, 29), rfl, by decide, (gm 1023 (by decide +kernel) (by decide +kernel))⟩
theorem peRef_0_16 : am_pk "PaperedOverModel" 0 16 (eF 11 4) := ⟨(rc_11, tc_11, 29), rfl, by decide, (gm 1024 (by decide +kernel) (by decide +kernel))⟩
theorem peRef_0_19 : am_pk "PaperedOverModel" 0 19 (eF 11 5) := ⟨(rc_11, tc_11, 29), rfl, by decide, (gm 1025 (by decide +kernel) (by decide +kernel))⟩
theorem peRef_0_22 : am_pk "PaperedOverModel" 0 22 (eF 11 6) := ⟨(rc_11, tc_11, 29), rfl, by decide, (gm 1026 (by decide +kernel) (by decide +kernel))⟩
theorem peRef_0_25 : am_pk "PaperedOverModel" 0 25 (eF 11 8) := ⟨(rc_11, tc_11, 29), rfl, by decide, (gm 1028 (by decide +kernel) (by decide +kernel))⟩
theorem peRef_0_28 : am_pk "PaperedOverModel" 0 28 (eF 11 19) := ⟨(rc_11, tc_11, 29), rfl, by decide, (gm 1039 (by decide +kernel) (by decide +kernel))⟩
theorem peRef_0_31 : am_pk "PaperedOverModel" 0 31 (eF 11 20) := ⟨(rc_11, tc_11, 29), rfl, by decide, (gm 1040 (by decide +kernel) (by decide +kernel))⟩
theorem peRef_0_34 : am_pk "PaperedOverModel" 0 34 (eF 11 21) := ⟨(rc_11, tc_11, 29), rfl, by decide, (gm 1041 (by decide +kernel) (by decide +kernel))⟩
theorem peRef_0_37 : am_pk "PaperedOverModel" 0 37 (eF 11 22) := ⟨(rc_11, tc_11, 29), rfl, by decide, (gm 1042 (by decide +kernel) (by decide +kernel))⟩
theorem peRef_0_40 : am_pk "PaperedOverModel" 0 40 (eF 11 23) := ⟨(rc_11, tc_11, 29), rfl, by decide, (gm 1043 (by decide +kernel) (by decide +kernel))⟩
theorem peRef_0_43 : am_pk "PaperedOverModel" 0 43 (eF 11 24) := ⟨(rc_11, tc_11, 29), rfl, by decide, (gm 1044 (by decide +kernel) (by decide +kernel))⟩
theorem peRef_0_46 : am_pk "PaperedOverModel" 0 46 (eF 11 25) := ⟨(rc_11, tc_11, 29), rfl, by decide, (gm 1045 (by decide +kernel) (by decide +kernel))⟩
theorem peRef_0_50 : am_pk "PaperedOverModel" 0 50 (eF 11 26) := ⟨(rc_11, tc_11, 29), rfl, by decide, (gm 1046 (by decide +kernel) (by decide +kernel))⟩
theorem peRef_0_53 : am_pk "PaperedOverModel" 0 53 (eF 11 27) := ⟨(rc_11, tc_11, 29), rfl, by decide, (gm 1047 (by decide +kernel) (by decide +kernel))⟩
theorem peRef_0_56 : am_pk "PaperedOverModel" 0 56 (eF 11 0) := ⟨(rc_11, tc_11, 29), rfl, by decide, (gm 1020 (by decide +kernel) (by decide +kernel))⟩
theorem peRef_0_60 : am_pk "PaperedOverModel" 0 60 (eF 11 1) := ⟨(rc_11, tc_11, 29), rfl, by decide, (gm 1021 (by decide +kernel) (by decide +kernel))⟩
theorem peRef_0_83 : am_pk "PaperedOverModel" 0 83 (eF 11 9) := ⟨(rc_11, tc_11, 29), rfl, by decide, (gm 1029 (by decide +kernel) (by decide +kernel))⟩
theorem peRef_0_89 : am_pk "PaperedOverModel" 0 89 (eF 11 11) := ⟨(rc_11, tc_11, 29), rfl, by decide, (gm 1031 (by decide +kernel) (by decide +kernel))⟩
theorem peRef_0_93 : am_pk "PaperedOverModel" 0 93 (eF 11 12) := ⟨(rc_11, tc_11, 29), rfl, by decide, (gm 1032 (by decide +kernel) (by decide +kernel))⟩
theorem peRef_0_99 : am_pk "PaperedOverModel" 0 99 (eF 11 14) := ⟨(rc_11, tc_11, 29), rfl, by decide, (gm 1034 (by decide +kernel) (by decide +kernel))⟩
theorem peRef_0_102 : am_pk "PaperedOverModel" 0 102 (eF 11 13) := ⟨(rc_11, tc_11, 29), rfl, by decide, (gm 1033 (by decide +kernel) (by decide +kernel))⟩
theorem peRef_0_111 : am_pk "PaperedOverModel" 0 111 (eF 11 15) := ⟨(rc_11, tc_11, 29), rfl, by decide, (gm 1035 (by decide +kernel) (by decide +kernel))⟩
theorem peRef_0_114 : am_pk "PaperedOverModel" 0 114 (eF 11 16) := ⟨(rc_11, tc_11, 29), rfl, by decide, (gm 1036 (by decide +kernel) (by decide +kernel))⟩
theorem peRef_0_120 : am_pk "PaperedOverModel" 0 120 (eF 11 17) := ⟨(rc_11, tc_11, 29), rfl, by decide, (gm 1037 (by decide +kernel) (by decide +kernel))⟩
theorem peRef_0_182 : am_pk "PaperedOverModel" 0 182 (eF 11 10) := ⟨(rc_11, tc_11, 29), rfl, by decide, (gm 1030 (by decide +kernel) (by decide +kernel))⟩
theorem peRef_0_186 : am_pk "PaperedOverModel" 0 186 (eF 11 7) := ⟨(rc_11, tc_11, 29), rfl, by decide, (gm 1027 (by decide +kernel) (by decide +kernel))⟩
theorem peRef_0_193 : am_pk "PaperedOverModel" 0 193 (eF 11 18) := ⟨(rc_11, tc_11, 29), rfl, by decide, (gm 1038 (by decide +kernel) (by decide +kernel))⟩
theorem peRef_0_262 : am_pk "PaperedOverModel" 0 262 (eF 11 28) := ⟨(rc_11, tc_11, 29), rfl, by decide, (gm 1048 (by decide +kernel) (by decide +kernel))⟩
theorem peRef_1_63 : am_pk "PaperedOverModel" 1 63 (eI (-1000010)) := (gm 1125 (by decide +kernel) (by decide +kernel))
theorem peRef_1_76 : am_pk "PaperedOverModel" 1 76 (eI (-1000001)) := (gm 1120 (by decide +kernel) (by decide +kernel))
theorem peRef_1_86 : am_pk "PaperedOverModel" 1 86 (eI (-1000003)) := (gm 1143 (by decide +kernel) (by decide +kernel))
theorem peRef_1_92 : am_pk "PaperedOverModel" 1 92 (eI (-1000000)) := (gm 1161 (by decide +kernel) (by decide +kernel))
theorem peRef_1_185 : am_pk "PaperedOverModel" 1 185 (eI (-1000100)) := (gm 1219 (by decide +kernel) (by decide +kernel))
theorem peRef_1_222 : am_pk "PaperedOverModel" 1 222 (eI (-1000002)) := (gm 1267 (by decide +kernel) (by decide +kernel))
theorem peRef_2_64 : am_pk "PaperedOverModel" 2 64 (eL 7) := (gm 1115 (by decide +kernel) (by decide +kernel))
theorem peRef_2_74 : am_pk "PaperedOverModel" 2 74 (eL 2) := (gm 1119 (by decide +kernel) (by decide +kernel))
theorem peRef_2_81 : am_pk "PaperedOverModel" 2 81 (eL 8) := (gm 1142 (by decide +kernel) (by decide +kernel))
theorem peRef_2_87 : am_pk "PaperedOverModel" 2 87 (eL 255) := (gm 1144 (by decide +kernel) (by decide +kernel))
theorem peRef_2_135 : am_pk "PaperedOverModel" 2 135 (eL 482854660462) := (gm 1209 (by decide +kernel) (by decide +kernel))
theorem peRef_2_137 : am_pk "PaperedOverModel" 2 137 (eL 1852143475) := (gm 1210 (by decide +kernel) (by decide +kernel))
theorem peRef_2_139 : am_pk "PaperedOverModel" 2 139 (eL 495873781104) := (gm 1211 (by decide +kernel) (by decide +kernel))
theorem peRef_2_141 : am_pk "PaperedOverModel" 2 141 (eL 482670636660) := (gm 1212 (by decide +kernel) (by decide +kernel))
theorem peRef_2_143 : am_pk "PaperedOverModel" 2 143 (eL 1919251316) := (gm 1213 (by decide +kernel) (by decide +kernel))
theorem peRef_2_167 : am_pk "PaperedOverModel" 2 167 (eL 2002873452) := (gm 1172 (by decide +kernel) (by decide +kernel))
theorem peRef_2_172 : am_pk "PaperedOverModel" 2 172 (eL 482671093106) := (gm 1201 (by decide +kernel) (by decide +kernel))
theorem peRef_2_177 : am_pk "PaperedOverModel" 2 177 (eL 127978992397940) := (gm 1214 (by decide +kernel) (by decide +kernel))
theorem peRef_2_229 : am_pk "PaperedOverModel" 2 229 (eL 3) := (gm 1288 (by decide +kernel) (by decide +kernel))
theorem peRef_2_249 : am_pk "PaperedOverModel" 2 249 (eL 400) := (gm 1352 (by decide +kernel) (by decide +kernel))
theorem peRef_2_257 : am_pk "PaperedOverModel" 2 257 (eL 5) := (gm 1385 (by decide +kernel) (by decide +kernel))
theorem peRef_4_77 : am_pk "PaperedOverModel" 4 77 (eC 125 2 11) := ⟨1, rfl, wRef_finding, (gm 1121 (by decide +kernel) (by decide +kernel)), vRef_finding.1, vRef_finding.2, Or.inl ⟨_, rfl, rfl⟩⟩
theorem peRef_4_96 : am_pk "PaperedOverModel" 4 96 (eC 132 2 11) := ⟨1, rfl, wRef_byteAt, (gm 1157 (by decide +kernel) (by decide +kernel)), vRef_byteAt.1, vRef_byteAt.2, Or.inl ⟨_, rfl, rfl⟩⟩
theorem peRef_4_117 : am_pk "PaperedOverModel" 4 117 (eC 135 1 11) := ⟨0, rfl, wRef_nextToken, (gm 1153 (by decide +kernel) (by decide +kernel)), vRef_nextToken.1, vRef_nextToken.2, Or.inl ⟨_, rfl, rfl⟩⟩
theorem peRef_4_123 : am_pk "PaperedOverModel" 4 123 (eC 137 2 11) := ⟨1, rfl, wRef_bad, (gm 1173 (by decide +kernel) (by decide +kernel)), vRef_bad.1, vRef_bad.2, Or.inl ⟨_, rfl, rfl⟩⟩
theorem peRef_4_127 : am_pk "PaperedOverModel" 4 127 (eC 140 1 11) := ⟨0, rfl, wRef_figures, (gm 1193 (by decide +kernel) (by decide +kernel)), vRef_figures.1, vRef_figures.2, Or.inl ⟨_, rfl, rfl⟩⟩
theorem peRef_4_131 : am_pk "PaperedOverModel" 4 131 (eC 138 2 11) := ⟨1, rfl, wRef_must, (gm 1185 (by decide +kernel) (by decide +kernel)), vRef_must.1, vRef_must.2, Or.inl ⟨_, rfl, rfl⟩⟩
theorem peRef_4_145 : am_pk "PaperedOverModel" 4 145 (eC 144 3 11) := ⟨2, rfl, wRef_begins, (gm 1181 (by decide +kernel) (by decide +kernel)), vRef_begins.1, vRef_begins.2, Or.inl ⟨_, rfl, rfl⟩⟩
theorem peRef_4_149 : am_pk "PaperedOverModel" 4 149 (eC 141 3 11) := ⟨2, rfl, wRef_number, (gm 1189 (by decide +kernel) (by decide +kernel)), vRef_number.1, vRef_number.2, Or.inl ⟨_, rfl, rfl⟩⟩
theorem peRef_4_153 : am_pk "PaperedOverModel" 4 153 (eC 143 1 11) := ⟨0, rfl, wRef_mustEnd, (gm 1197 (by decide +kernel) (by decide +kernel)), vRef_mustEnd.1, vRef_mustEnd.2, Or.inl ⟨_, rfl, rfl⟩⟩
theorem peRef_4_156 : am_pk "PaperedOverModel" 4 156 (eC 139 1 11) := ⟨0, rfl, wRef_name, (gm 1168 (by decide +kernel) (by decide +kernel)), vRef_name.1, vRef_name.2, Or.inl ⟨_, rfl, rfl⟩⟩
theorem peRef_4_164 : am_pk "PaperedOverModel" 4 164 (eC 136 1 11) := ⟨0, rfl, wRef_begin, (gm 1149 (by decide +kernel) (by decide +kernel)), vRef_begin.1, vRef_begin.2, Or.inl ⟨_, rfl, rfl⟩⟩
theorem peRef_4_169 : am_pk "PaperedOverModel" 4 169 (eC 145 1 11) := ⟨0, rfl, wRef_readWall, (gm 1177 (by decide +kernel) (by decide +kernel)), vRef_readWall.1, vRef_readWall.2, Or.inl ⟨_, rfl, rfl⟩⟩
theorem peRef_4_174 : am_pk "PaperedOverModel" 4 174 (eC 146 1 11) := ⟨0, rfl, wRef_readPaper, (gm 1202 (by decide +kernel) (by decide +kernel)), vRef_readPaper.1, vRef_readPaper.2, Or.inl ⟨_, rfl, rfl⟩⟩
theorem peRef_4_179 : am_pk "PaperedOverModel" 4 179 (eC 147 1 11) := ⟨0, rfl, wRef_readTenant, (gm 1215 (by decide +kernel) (by decide +kernel)), vRef_readTenant.1, vRef_readTenant.2, Or.inl ⟨_, rfl, rfl⟩⟩
theorem peRef_4_190 : am_pk "PaperedOverModel" 4 190 (eC 158 1 11) := ⟨0, rfl, wRef_laySpots, (gm 1220 (by decide +kernel) (by decide +kernel)), vRef_laySpots.1, vRef_laySpots.2, Or.inl ⟨_, rfl, rfl⟩⟩
theorem peRef_4_196 : am_pk "PaperedOverModel" 4 196 (eC 157 2 11) := ⟨1, rfl, wRef_manyAt, (gm 1224 (by decide +kernel) (by decide +kernel)), vRef_manyAt.1, vRef_manyAt.2, Or.inl ⟨_, rfl, rfl⟩⟩
theorem peRef_4_199 : am_pk "PaperedOverModel" 4 199 (eC 155 3 11) := ⟨2, rfl, wRef_lies, (gm 1228 (by decide +kernel) (by decide +kernel)), vRef_lies.1, vRef_lies.2, Or.inl ⟨_, rfl, rfl⟩⟩
theorem peRef_4_202 : am_pk "PaperedOverModel" 4 202 (eC 156 2 11) := ⟨1, rfl, wRef_wallOf, (gm 1232 (by decide +kernel) (by decide +kernel)), vRef_wallOf.1, vRef_wallOf.2, Or.inl ⟨_, rfl, rfl⟩⟩
theorem peRef_4_205 : am_pk "PaperedOverModel" 4 205 (eC 159 1 11) := ⟨0, rfl, wRef_laySure, (gm 1236 (by decide +kernel) (by decide +kernel)), vRef_laySure.1, vRef_laySure.2, Or.inl ⟨_, rfl, rfl⟩⟩
theorem peRef_4_208 : am_pk "PaperedOverModel" 4 208 (eC 151 2 11) := ⟨1, rfl, wRef_isPaper, (gm 1256 (by decide +kernel) (by decide +kernel)), vRef_isPaper.1, vRef_isPaper.2, Or.inl ⟨_, rfl, rfl⟩⟩
theorem peRef_4_215 : am_pk "PaperedOverModel" 4 215 (eC 150 2 11) := ⟨1, rfl, wRef_isWall, (gm 1248 (by decide +kernel) (by decide +kernel)), vRef_isWall.1, vRef_isWall.2, Or.inl ⟨_, rfl, rfl⟩⟩
theorem peRef_4_218 : am_pk "PaperedOverModel" 4 218 (eC 163 4 11) := ⟨3, rfl, wRef_lack, (gm 1252 (by decide +kernel) (by decide +kernel)), vRef_lack.1, vRef_lack.2, Or.inl ⟨_, rfl, rfl⟩⟩
theorem peRef_4_223 : am_pk "PaperedOverModel" 4 223 (eC 152 2 11) := ⟨1, rfl, wRef_isSpot, (gm 1272 (by decide +kernel) (by decide +kernel)), vRef_isSpot.1, vRef_isSpot.2, Or.inl ⟨_, rfl, rfl⟩⟩
theorem peRef_4_226 : am_pk "PaperedOverModel" 4 226 (eC 160 1 11) := ⟨0, rfl, wRef_inRings, (gm 1280 (by decide +kernel) (by decide +kernel)), vRef_inRings.1, vRef_inRings.2, Or.inl ⟨_, rfl, rfl⟩⟩
theorem peRef_4_231 : am_pk "PaperedOverModel" 4 231 (eC 154 3 11) := ⟨2, rfl, wRef_of, (gm 1289 (by decide +kernel) (by decide +kernel)), vRef_of.1, vRef_of.2, Or.inl ⟨_, rfl, rfl⟩⟩
theorem peRef_4_234 : am_pk "PaperedOverModel" 4 234 (eC 169 3 11) := ⟨2, rfl, wRef_ordersWith, (gm 1297 (by decide +kernel) (by decide +kernel)), vRef_ordersWith.1, vRef_ordersWith.2, Or.inl ⟨_, rfl, rfl⟩⟩
theorem peRef_4_237 : am_pk "PaperedOverModel" 4 237 (eC 162 2 11) := ⟨1, rfl, wRef_isSeen, (gm 1309 (by decide +kernel) (by decide +kernel)), vRef_isSeen.1, vRef_isSeen.2, Or.inl ⟨_, rfl, rfl⟩⟩
theorem peRef_4_243 : am_pk "PaperedOverModel" 4 243 (eC 153 3 11) := ⟨2, rfl, wRef_wall, (gm 1328 (by decide +kernel) (by decide +kernel)), vRef_wall.1, vRef_wall.2, Or.inl ⟨_, rfl, rfl⟩⟩
theorem peRef_4_246 : am_pk "PaperedOverModel" 4 246 (eC 175 1 11) := ⟨0, rfl, wRef_layYears, (gm 1324 (by decide +kernel) (by decide +kernel)), vRef_layYears.1, vRef_layYears.2, Or.inl ⟨_, rfl, rfl⟩⟩
theorem peRef_4_251 : am_pk "PaperedOverModel" 4 251 (eC 182 3 11) := ⟨2, rfl, wRef_tellsBy, (gm 1357 (by decide +kernel) (by decide +kernel)), vRef_tellsBy.1, vRef_tellsBy.2, Or.inl ⟨_, rfl, rfl⟩⟩
theorem peRef_4_254 : am_pk "PaperedOverModel" 4 254 (eC 184 3 11) := ⟨2, rfl, wRef_painted, (gm 1365 (by decide +kernel) (by decide +kernel)), vRef_painted.1, vRef_painted.2, Or.inl ⟨_, rfl, rfl⟩⟩
theorem peRef_4_265 : am_pk "PaperedOverModel" 4 265 (eC 191 2 11) := ⟨1, rfl, wRef_began, (gm 1401 (by decide +kernel) (by decide +kernel)), vRef_began.1, vRef_began.2, Or.inl ⟨_, rfl, rfl⟩⟩
theorem peRef_4_268 : am_pk "PaperedOverModel" 4 268 (eC 192 2 11) := ⟨1, rfl, wRef_plainSize, (gm 1397 (by decide +kernel) (by decide +kernel)), vRef_plainSize.1, vRef_plainSize.2, Or.inl ⟨_, rfl, rfl⟩⟩
theorem peRef_4_271 : am_pk "PaperedOverModel" 4 271 (eC 193 2 11) := ⟨1, rfl, wRef_markOf, (gm 1405 (by decide +kernel) (by decide +kernel)), vRef_markOf.1, vRef_markOf.2, Or.inl ⟨_, rfl, rfl⟩⟩
theorem peRef_4_274 : am_pk "PaperedOverModel" 4 274 (eC 194 2 11) := ⟨1, rfl, wRef_sizeOf, (gm 1393 (by decide +kernel) (by decide +kernel)), vRef_sizeOf.1, vRef_sizeOf.2, Or.inl ⟨_, rfl, rfl⟩⟩
theorem peRef_5_66 : am_pk "PaperedOverModel" 5 66 (eC 124 3 0) := ⟨wRef_in, sRef_in, Or.inl (gm 1116 (by decide +kernel) (by decide +kernel))⟩
theorem peRef_5_70 : am_pk "PaperedOverModel" 5 70 (eC 126 1 0) := ⟨wRef_isRow, sRef_isRow, Or.inl (gm 1112 (by decide +kernel) (by decide +kernel))⟩
theorem peRef_5_105 : am_pk "PaperedOverModel" 5 105 (eC 133 1 0) := ⟨wRef_isLetter, sRef_isLetter, Or.inl (gm 1162 (by decide +kernel) (by decide +kernel))⟩
theorem peRef_5_108 : am_pk "PaperedOverModel" 5 108 (eC 134 1 0) := ⟨wRef_isFigure, sRef_isFigure, Or.inl (gm 1165 (by decide +kernel) (by decide +kernel))⟩
theorem peRef_5_160 : am_pk "PaperedOverModel" 5 160 (eC 142 1 0) := ⟨wRef_sortOf, sRef_sortOf, Or.inl (gm 1206 (by decide +kernel) (by decide +kernel))⟩
theorem peRef_5_211 : am_pk "PaperedOverModel" 5 211 (eC 161 2 0) := ⟨wRef_isIn, sRef_isIn, Or.inl (gm 1260 (by decide +kernel) (by decide +kernel))⟩
theorem peRef_5_240 : am_pk "PaperedOverModel" 5 240 (eC 172 2 0) := ⟨wRef_divisor, sRef_divisor, Or.inl (gm 1313 (by decide +kernel) (by decide +kernel))⟩
theorem peRef_5_259 : am_pk "PaperedOverModel" 5 259 (eC 188 2 0) := ⟨wRef_isOf, sRef_isOf, Or.inl (gm 1386 (by decide +kernel) (by decide +kernel))⟩
def plRef : List (Nat × Nat × am_N) := [(0, 7, eF 11 2), (0, 13, eF 11 3), (0, 16, eF 11 4), (0, 19, eF 11 5), (0, 22, eF 11 6), (0, 25, eF 11 8), (0, 28, eF 11 19), (0, 31, eF 11 20), (0, 34, eF 11 21), (0, 37, eF 11 22), (0, 40, eF 11 23), (0, 43, eF 11 24), (0, 46, eF 11 25), (0, 50, eF 11 26), (0, 53, eF 11 27), (0, 56, eF 11 0), (0, 60, eF 11 1), (0, 83, eF 11 9), (0, 89, eF 11 11), (0, 93, eF 11 12), (0, 99, eF 11 14), (0, 102, eF 11 13), (0, 111, eF 11 15), (0, 114, eF 11 16), (0, 120, eF 11 17), (0, 182, eF 11 10), (0, 186, eF 11 7), (0, 193, eF 11 18), (0, 262, eF 11 28), (1, 63, eI (-1000010)), (1, 76, eI (-1000001)), (1, 86, eI (-1000003)), (1, 92, eI (-1000000)), (1, 185, eI (-1000100)), (1, 222, eI (-1000002)), (2, 64, eL 7), (2, 74, eL 2), (2, 81, eL 8), (2, 87, eL 255), (2, 135, eL 482854660462), (2, 137, eL 1852143475), (2, 139, eL 495873781104), (2, 141, eL 482670636660), (2, 143, eL 1919251316), (2, 167, eL 2002873452), (2, 172, eL 482671093106), (2, 177, eL 127978992397940), (2, 229, eL 3), (2, 249, eL 400), (2, 257, eL 5), (4, 77, eC 125 2 11), (4, 96, eC 132 2 11), (4, 117, eC 135 1 11), (4, 123, eC 137 2 11), (4, 127, eC 140 1 11), (4, 131, eC 138 2 11), (4, 145, eC 144 3 11), (4, 149, eC 141 3 11), (4, 153, eC 143 1 11), (4, 156, eC 139 1 11), (4, 164, eC 136 1 11), (4, 169, eC 145 1 11), (4, 174, eC 146 1 11), (4, 179, eC 147 1 11), (4, 190, eC 158 1 11), (4, 196, eC 157 2 11), (4, 199, eC 155 3 11), (4, 202, eC 156 2 11), (4, 205, eC 159 1 11), (4, 208, eC 151 2 11), (4, 215, eC 150 2 11), (4, 218, eC 163 4 11), (4, 223, eC 152 2 11), (4, 226, eC 160 1 11), (4, 231, eC 154 3 11), (4, 234, eC 169 3 11), (4, 237, eC 162 2 11), (4, 243, eC 153 3 11), (4, 246, eC 175 1 11), (4, 251, eC 182 3 11), (4, 254, eC 184 3 11), (4, 265, eC 191 2 11), (4, 268, eC 192 2 11), (4, 271, eC 193 2 11), (4, 274, eC 194 2 11), (5, 66, eC 124 3 0), (5, 70, eC 126 1 0), (5, 105, eC 133 1 0), (5, 108, eC 134 1 0), (5, 160, eC 142 1 0), (5, 211, eC 161 2 0), (5, 240, eC 172 2 0), (5, 259, eC 188 2 0)]
theorem poRef : ∀ q ∈ plRef, am_pk "PaperedOverModel" q.1 q.2.1 q.2.2 := List.forall_mem_cons.mpr ⟨peRef_0_7, List.forall_mem_cons.mpr ⟨peRef_0_13, List.forall_mem_cons.mpr ⟨peRef_0_16, List.forall_mem_cons.mpr ⟨peRef_0_19, List.forall_mem_cons.mpr ⟨peRef_0_22, List.forall_mem_cons.mpr ⟨peRef_0_25, List.forall_mem_cons.mpr ⟨peRef_0_28, List.forall_mem_cons.mpr ⟨peRef_0_31, List.forall_mem_cons.mpr ⟨peRef_0_34, List.forall_mem_cons.mpr ⟨peRef_0_37, List.forall_mem_cons.mpr ⟨peRef_0_40, List.forall_mem_cons.mpr ⟨peRef_0_43, List.forall_mem_cons.mpr ⟨peRef_0_46, List.forall_mem_cons.mpr ⟨peRef_0_50, List.forall_mem_cons.mpr ⟨peRef_0_53, List.forall_mem_cons.mpr ⟨peRef_0_56, List.forall_mem_cons.mpr ⟨peRef_0_60, List.forall_mem_cons.mpr ⟨peRef_0_83, List.forall_mem_cons.mpr ⟨peRef_0_89, List.forall_mem_cons.mpr ⟨peRef_0_93, List.forall_mem_cons.mpr ⟨peRef_0_99, List.forall_mem_cons.mpr ⟨peRef_0_102, List.forall_mem_cons.mpr ⟨peRef_0_111, List.forall_mem_cons.mpr ⟨peRef_0_114, List.forall_mem_cons.mpr ⟨peRef_0_120, List.forall_mem_cons.mpr ⟨peRef_0_182, List.forall_mem_cons.mpr ⟨peRef_0_186, List.forall_mem_cons.mpr ⟨peRef_0_193, List.forall_mem_cons.mpr ⟨peRef_0_262, List.forall_mem_cons.mpr ⟨peRef_1_63, List.forall_mem_cons.mpr ⟨peRef_1_76, List.forall_mem_cons.mpr ⟨peRef_1_86, List.forall_mem_cons.mpr ⟨peRef_1_92, List.forall_mem_cons.mpr ⟨peRef_1_185, List.forall_mem_cons.mpr ⟨peRef_1_222, List.forall_mem_cons.mpr ⟨peRef_2_64, List.forall_mem_cons.mpr ⟨peRef_2_74, List.forall_mem_cons.mpr ⟨peRef_2_81, List.forall_mem_cons.mpr ⟨peRef_2_87, List.forall_mem_cons.mpr ⟨peRef_2_135, List.forall_mem_cons.mpr ⟨peRef_2_137, List.forall_mem_cons.mpr ⟨peRef_2_139, List.forall_mem_cons.mpr ⟨peRef_2_141, List.forall_mem_cons.mpr ⟨peRef_2_143, List.forall_mem_cons.mpr ⟨peRef_2_167, List.forall_mem_cons.mpr ⟨peRef_2_172, List.forall_mem_cons.mpr ⟨peRef_2_177, List.forall_mem_cons.mpr ⟨peRef_2_229, List.forall_mem_cons.mpr ⟨peRef_2_249, List.forall_mem_cons.mpr ⟨peRef_2_257, List.forall_mem_cons.mpr ⟨peRef_4_77, List.forall_mem_cons.mpr ⟨peRef_4_96, List.forall_mem_cons.mpr ⟨peRef_4_117, List.forall_mem_cons.mpr ⟨peRef_4_123, List.forall_mem_cons.mpr ⟨peRef_4_127, List.forall_mem_cons.mpr ⟨peRef_4_131, List.forall_mem_cons.mpr ⟨peRef_4_145, List.forall_mem_cons.mpr ⟨peRef_4_149, List.forall_mem_cons.mpr ⟨peRef_4_153, List.forall_mem_cons.mpr ⟨peRef_4_156, List.forall_mem_cons.mpr ⟨peRef_4_164, List.forall_mem_cons.mpr ⟨peRef_4_169, List.forall_mem_cons.mpr ⟨peRef_4_174, List.forall_mem_cons.mpr ⟨peRef_4_179, List.forall_mem_cons.mpr ⟨peRef_4_190, List.forall_mem_cons.mpr ⟨peRef_4_196, List.forall_mem_cons.mpr ⟨peRef_4_199, List.forall_mem_cons.mpr ⟨peRef_4_202, List.forall_mem_cons.mpr ⟨peRef_4_205, List.forall_mem_cons.mpr ⟨peRef_4_208, List.forall_mem_cons.mpr ⟨peRef_4_215, List.forall_mem_cons.mpr ⟨peRef_4_218, List.forall_mem_cons.mpr ⟨peRef_4_223, List.forall_mem_cons.mpr ⟨peRef_4_226, List.forall_mem_cons.mpr ⟨peRef_4_231, List.forall_mem_cons.mpr ⟨peRef_4_234, List.forall_mem_cons.mpr ⟨peRef_4_237, List.forall_mem_cons.mpr ⟨peRef_4_243, List.forall_mem_cons.mpr ⟨peRef_4_246, List.forall_mem_cons.mpr ⟨peRef_4_251, List.forall_mem_cons.mpr ⟨peRef_4_254, List.forall_mem_cons.mpr ⟨peRef_4_265, List.forall_mem_cons.mpr ⟨peRef_4_268, List.forall_mem_cons.mpr ⟨peRef_4_271, List.forall_mem_cons.mpr ⟨peRef_4_274, List.forall_mem_cons.mpr ⟨peRef_5_66, List.forall_mem_cons.mpr ⟨peRef_5_70, List.forall_mem_cons.mpr ⟨peRef_5_105, List.forall_mem_cons.mpr ⟨peRef_5_108, List.forall_mem_cons.mpr ⟨peRef_5_160, List.forall_mem_cons.mpr ⟨peRef_5_211, List.forall_mem_cons.mpr ⟨peRef_5_240, List.forall_mem_cons.mpr ⟨peRef_5_259, fun _ h => absurd h List.not_mem_nil⟩⟩⟩⟩⟩⟩⟩⟩⟩⟩⟩⟩⟩⟩⟩⟩⟩⟩⟩⟩⟩⟩⟩⟩⟩⟩⟩⟩⟩⟩⟩⟩⟩⟩⟩⟩⟩⟩⟩⟩⟩⟩⟩⟩⟩⟩⟩⟩⟩⟩⟩⟩⟩⟩⟩⟩⟩⟩⟩⟩⟩⟩⟩⟩⟩⟩⟩⟩⟩⟩⟩⟩⟩⟩⟩⟩⟩⟩⟩⟩⟩⟩⟩⟩⟩⟩⟩⟩⟩⟩⟩⟩⟩
def kRef_in : List am_E := [(0, .lload_n 0, [0], none),
  (1, .lload_n 2, [2], none),
  (2, .lcmp, [], none),
  (3, .ifCond .lt 14, [17], none),
  (6, .lload_n 0, [0], none),
  (7, .lload 4, [4], none),
  (9, .lcmp, [], none),
  (10, .ifCond .gt 7, [17], none),
  (13, .iconst 1, [], some (eI 1)),
  (14, .goto 4, [18], none),
  (17, .iconst 0, [], some (eI 0)),
  (18, .ireturn, [], none)]
theorem okRef_in : am_mok mRef_in kRef_in := ⟨by decide +kernel, plRef, by decide +kernel, poRef⟩
def kRef_finding : List am_E := [(0, .aload_n 0, [0], none),
  (1, .iload_n 1, [1], none),
  (2, .putfield 60, [], some (eF 11 1)),
  (5, .ldc 63, [], some (eI (-1000010))),
  (7, .iload_n 1, [1], none),
  (8, .isub, [], none),
  (9, .ireturn, [], none)]
theorem okRef_finding : am_mok mRef_finding kRef_finding := ⟨by decide +kernel, plRef, by decide +kernel, poRef⟩
def kRef_isRow : List am_E := [(0, .iload_n 0, [0], none),
  (1, .i2l, [], none),
  (2, .lconst 0, [], some (eL 0)),
  (3, .ldc2_w 64, [], some (eL 7)),
  (6, .invokestatic 66, [], some (eC 124 3 0)),
  (9, .ireturn, [], none)]
theorem okRef_isRow : am_mok mRef_isRow kRef_isRow := ⟨by decide +kernel, plRef, by decide +kernel, poRef⟩
def kRef_row : List am_E := [(0, .aload_n 0, [0], none),
  (1, .iconst 0, [], some (eI 0)),
  (2, .putfield 56, [], some (eF 11 0)),
  (5, .iload_n 1, [1], none),
  (6, .invokestatic 70, [], some (eC 126 1 0)),
  (9, .ifCond .eq 21, [30], none),
  (12, .iload_n 2, [2], none),
  (13, .i2l, [], none),
  (14, .lconst 0, [], some (eL 0)),
  (15, .ldc2_w 74, [], some (eL 2)),
  (18, .invokestatic 66, [], some (eC 124 3 0)),
  (21, .ifCond .eq 9, [30], none),
  (24, .iload_n 3, [3], none),
  (25, .bipush 40, [], some (eI 40)),
  (27, .if_icmp .le 6, [33], none),
  (30, .ldc 76, [], some (eI (-1000001))),
  (32, .ireturn, [], none),
  (33, .aload_n 0, [0], none),
  (34, .iconst 0, [], some (eI 0)),
  (35, .putfield 60, [], some (eF 11 1)),
  (38, .iload_n 3, [3], none),
  (39, .ifCond .ge 9, [48], none),
  (42, .aload_n 0, [0], none),
  (43, .iconst 4, [], some (eI 4)),
  (44, .invokevirtual 77, [], some (eC 125 2 11)),
  (47, .ireturn, [], none),
  (48, .aload_n 0, [0], none),
  (49, .getfield 7, [], some (eF 11 2)),
  (52, .iload_n 1, [1], none),
  (53, .iload_n 2, [2], none),
  (54, .iastore, [], none),
  (55, .aload_n 0, [0], none),
  (56, .getfield 13, [], some (eF 11 3)),
  (59, .iload_n 1, [1], none),
  (60, .iload_n 3, [3], none),
  (61, .iastore, [], none),
  (62, .iconst 0, [], some (eI 0)),
  (63, .istore 4, [4], none),
  (65, .iload 4, [4], none),
  (67, .bipush 40, [], some (eI 40)),
  (69, .if_icmp .ge 22, [91], none),
  (72, .aload_n 0, [0], none),
  (73, .getfield 16, [], some (eF 11 4)),
  (76, .bipush 40, [], some (eI 40)),
  (78, .iload_n 1, [1], none),
  (79, .imul, [], none),
  (80, .iload 4, [4], none),
  (82, .iadd, [], none),
  (83, .iconst 0, [], some (eI 0)),
  (84, .iastore, [], none),
  (85, .iinc 4 1, [4], some (eI 1)),
  (88, .goto (-23), [65], none),
  (91, .iload_n 3, [3], none),
  (92, .ireturn, [], none)]
theorem okRef_row : am_mok mRef_row kRef_row := ⟨by decide +kernel, plRef, by decide +kernel, poRef⟩
def kRef_set : List am_E := [(0, .aload_n 0, [0], none),
  (1, .iconst 0, [], some (eI 0)),
  (2, .putfield 56, [], some (eF 11 0)),
  (5, .iload_n 1, [1], none),
  (6, .invokestatic 70, [], some (eC 126 1 0)),
  (9, .ifCond .ne 6, [15], none),
  (12, .ldc 76, [], some (eI (-1000001))),
  (14, .ireturn, [], none),
  (15, .aload_n 0, [0], none),
  (16, .iconst 0, [], some (eI 0)),
  (17, .putfield 60, [], some (eF 11 1)),
  (20, .aload_n 0, [0], none),
  (21, .getfield 7, [], some (eF 11 2)),
  (24, .iload_n 1, [1], none),
  (25, .iaload, [], none),
  (26, .ifCond .ge 9, [35], none),
  (29, .aload_n 0, [0], none),
  (30, .iconst 1, [], some (eI 1)),
  (31, .invokevirtual 77, [], some (eC 125 2 11)),
  (34, .ireturn, [], none),
  (35, .iload_n 2, [2], none),
  (36, .i2l, [], none),
  (37, .lconst 0, [], some (eL 0)),
  (38, .aload_n 0, [0], none),
  (39, .getfield 13, [], some (eF 11 3)),
  (42, .iload_n 1, [1], none),
  (43, .iaload, [], none),
  (44, .iconst 1, [], some (eI 1)),
  (45, .isub, [], none),
  (46, .i2l, [], none),
  (47, .invokestatic 66, [], some (eC 124 3 0)),
  (50, .ifCond .ne 9, [59], none),
  (53, .aload_n 0, [0], none),
  (54, .iconst 2, [], some (eI 2)),
  (55, .invokevirtual 77, [], some (eC 125 2 11)),
  (58, .ireturn, [], none),
  (59, .aload_n 0, [0], none),
  (60, .getfield 16, [], some (eF 11 4)),
  (63, .bipush 40, [], some (eI 40)),
  (65, .iload_n 1, [1], none),
  (66, .imul, [], none),
  (67, .iload_n 2, [2], none),
  (68, .iadd, [], none),
  (69, .aload_n 0, [0], none),
  (70, .getfield 7, [], some (eF 11 2)),
  (73, .iload_n 1, [1], none),
  (74, .iaload, [], none),
  (75, .ifCond .ne 8, [83], none),
  (78, .iload_n 3, [3], none),
  (79, .i2b, [], none),
  (80, .goto 19, [99], none),
  (83, .aload_n 0, [0], none),
  (84, .getfield 7, [], some (eF 11 2)),
  (87, .iload_n 1, [1], none),
  (88, .iaload, [], none),
  (89, .iconst 1, [], some (eI 1)),
  (90, .if_icmp .ne 8, [98], none),
  (93, .iload_n 3, [3], none),
  (94, .i2s, [], none),
  (95, .goto 4, [99], none),
  (98, .iload_n 3, [3], none),
  (99, .iastore, [], none),
  (100, .aload_n 0, [0], none),
  (101, .getfield 16, [], some (eF 11 4)),
  (104, .bipush 40, [], some (eI 40)),
  (106, .iload_n 1, [1], none),
  (107, .imul, [], none),
  (108, .iload_n 2, [2], none),
  (109, .iadd, [], none),
  (110, .iaload, [], none),
  (111, .ireturn, [], none)]
theorem okRef_set : am_mok mRef_set kRef_set := ⟨by decide +kernel, plRef, by decide +kernel, poRef⟩
def kRef_copy : List am_E := [(0, .aload_n 0, [0], none),
  (1, .iconst 0, [], some (eI 0)),
  (2, .putfield 56, [], some (eF 11 0)),
  (5, .iload_n 1, [1], none),
  (6, .invokestatic 70, [], some (eC 126 1 0)),
  (9, .ifCond .eq 10, [19], none),
  (12, .iload_n 3, [3], none),
  (13, .invokestatic 70, [], some (eC 126 1 0)),
  (16, .ifCond .ne 6, [22], none),
  (19, .ldc 76, [], some (eI (-1000001))),
  (21, .ireturn, [], none),
  (22, .aload_n 0, [0], none),
  (23, .iconst 0, [], some (eI 0)),
  (24, .putfield 60, [], some (eF 11 1)),
  (27, .aload_n 0, [0], none),
  (28, .getfield 7, [], some (eF 11 2)),
  (31, .iload_n 1, [1], none),
  (32, .iaload, [], none),
  (33, .ifCond .lt 12, [45], none),
  (36, .aload_n 0, [0], none),
  (37, .getfield 7, [], some (eF 11 2)),
  (40, .iload_n 3, [3], none),
  (41, .iaload, [], none),
  (42, .ifCond .ge 9, [51], none),
  (45, .aload_n 0, [0], none),
  (46, .iconst 1, [], some (eI 1)),
  (47, .invokevirtual 77, [], some (eC 125 2 11)),
  (50, .ireturn, [], none),
  (51, .aload_n 0, [0], none),
  (52, .getfield 7, [], some (eF 11 2)),
  (55, .iload_n 1, [1], none),
  (56, .iaload, [], none),
  (57, .aload_n 0, [0], none),
  (58, .getfield 7, [], some (eF 11 2)),
  (61, .iload_n 3, [3], none),
  (62, .iaload, [], none),
  (63, .if_icmp .eq 9, [72], none),
  (66, .aload_n 0, [0], none),
  (67, .iconst 5, [], some (eI 5)),
  (68, .invokevirtual 77, [], some (eC 125 2 11)),
  (71, .ireturn, [], none),
  (72, .iload_n 2, [2], none),
  (73, .ifCond .lt 48, [121], none),
  (76, .iload 4, [4], none),
  (78, .ifCond .lt 43, [121], none),
  (81, .iload 5, [5], none),
  (83, .ifCond .lt 38, [121], none),
  (86, .iload_n 2, [2], none),
  (87, .i2l, [], none),
  (88, .iload 5, [5], none),
  (90, .i2l, [], none),
  (91, .ladd, [], none),
  (92, .aload_n 0, [0], none),
  (93, .getfield 13, [], some (eF 11 3)),
  (96, .iload_n 1, [1], none),
  (97, .iaload, [], none),
  (98, .i2l, [], none),
  (99, .lcmp, [], none),
  (100, .ifCond .gt 21, [121], none),
  (103, .iload 4, [4], none),
  (105, .i2l, [], none),
  (106, .iload 5, [5], none),
  (108, .i2l, [], none),
  (109, .ladd, [], none),
  (110, .aload_n 0, [0], none),
  (111, .getfield 13, [], some (eF 11 3)),
  (114, .iload_n 3, [3], none),
  (115, .iaload, [], none),
  (116, .i2l, [], none),
  (117, .lcmp, [], none),
  (118, .ifCond .le 9, [127], none),
  (121, .aload_n 0, [0], none),
  (122, .iconst 2, [], some (eI 2)),
  (123, .invokevirtual 77, [], some (eC 125 2 11)),
  (126, .ireturn, [], none),
  (127, .iload_n 2, [2], none),
  (128, .iload 4, [4], none),
  (130, .if_icmp .lt 7, [137], none),
  (133, .iconst 1, [], some (eI 1)),
  (134, .goto 4, [138], none),
  (137, .iconst 0, [], some (eI 0)),
  (138, .istore 6, [6], none),
  (140, .iconst 0, [], some (eI 0)),
  (141, .istore 7, [7], none),
  (143, .iload 7, [7], none),
  (145, .iload 5, [5], none),
  (147, .if_icmp .ge 57, [204], none),
  (150, .iload 6, [6], none),
  (152, .ifCond .eq 8, [160], none),
  (155, .iload 7, [7], none),
  (157, .goto 10, [167], none),
  (160, .iload 5, [5], none),
  (162, .iconst 1, [], some (eI 1)),
  (163, .isub, [], none),
  (164, .iload 7, [7], none),
  (166, .isub, [], none),
  (167, .istore 8, [8], none),
  (169, .aload_n 0, [0], none),
  (170, .getfield 16, [], some (eF 11 4)),
  (173, .bipush 40, [], some (eI 40)),
  (175, .iload_n 3, [3], none),
  (176, .imul, [], none),
  (177, .iload 4, [4], none),
  (179, .iadd, [], none),
  (180, .iload 8, [8], none),
  (182, .iadd, [], none),
  (183, .aload_n 0, [0], none),
  (184, .getfield 16, [], some (eF 11 4)),
  (187, .bipush 40, [], some (eI 40)),
  (189, .iload_n 1, [1], none),
  (190, .imul, [], none),
  (191, .iload_n 2, [2], none),
  (192, .iadd, [], none),
  (193, .iload 8, [8], none),
  (195, .iadd, [], none),
  (196, .iaload, [], none),
  (197, .iastore, [], none),
  (198, .iinc 7 1, [7], some (eI 1)),
  (201, .goto (-58), [143], none),
  (204, .iload 5, [5], none),
  (206, .ireturn, [], none)]
theorem okRef_copy : am_mok mRef_copy kRef_copy := ⟨by decide +kernel, plRef, by decide +kernel, poRef⟩
def kRef_drop : List am_E := [(0, .aload_n 0, [0], none),
  (1, .iconst 0, [], some (eI 0)),
  (2, .putfield 56, [], some (eF 11 0)),
  (5, .iload_n 1, [1], none),
  (6, .invokestatic 70, [], some (eC 126 1 0)),
  (9, .ifCond .ne 6, [15], none),
  (12, .ldc 76, [], some (eI (-1000001))),
  (14, .ireturn, [], none),
  (15, .aload_n 0, [0], none),
  (16, .iconst 0, [], some (eI 0)),
  (17, .putfield 60, [], some (eF 11 1)),
  (20, .aload_n 0, [0], none),
  (21, .getfield 7, [], some (eF 11 2)),
  (24, .iload_n 1, [1], none),
  (25, .iaload, [], none),
  (26, .ifCond .ge 9, [35], none),
  (29, .aload_n 0, [0], none),
  (30, .iconst 1, [], some (eI 1)),
  (31, .invokevirtual 77, [], some (eC 125 2 11)),
  (34, .ireturn, [], none),
  (35, .aload_n 0, [0], none),
  (36, .getfield 7, [], some (eF 11 2)),
  (39, .iload_n 1, [1], none),
  (40, .iconst (-1), [], some (eI (-1))),
  (41, .iastore, [], none),
  (42, .aload_n 0, [0], none),
  (43, .getfield 13, [], some (eF 11 3)),
  (46, .iload_n 1, [1], none),
  (47, .iaload, [], none),
  (48, .ireturn, [], none)]
theorem okRef_drop : am_mok mRef_drop kRef_drop := ⟨by decide +kernel, plRef, by decide +kernel, poRef⟩
def kRef_feed : List am_E := [(0, .aload_n 0, [0], none),
  (1, .iconst 0, [], some (eI 0)),
  (2, .putfield 56, [], some (eF 11 0)),
  (5, .iload_n 3, [3], none),
  (6, .i2l, [], none),
  (7, .lconst 1, [], some (eL 1)),
  (8, .ldc2_w 81, [], some (eL 8)),
  (11, .invokestatic 66, [], some (eC 124 3 0)),
  (14, .ifCond .ne 6, [20], none),
  (17, .ldc 76, [], some (eI (-1000001))),
  (19, .ireturn, [], none),
  (20, .aload_n 0, [0], none),
  (21, .getfield 83, [], some (eF 11 9)),
  (24, .iload_n 3, [3], none),
  (25, .iadd, [], none),
  (26, .sipush 500, [], some (eI 500)),
  (29, .if_icmp .le 6, [35], none),
  (32, .ldc 86, [], some (eI (-1000003))),
  (34, .ireturn, [], none),
  (35, .iload_n 3, [3], none),
  (36, .iconst 1, [], some (eI 1)),
  (37, .isub, [], none),
  (38, .istore 4, [4], none),
  (40, .iload 4, [4], none),
  (42, .ifCond .lt 40, [82], none),
  (45, .aload_n 0, [0], none),
  (46, .getfield 25, [], some (eF 11 8)),
  (49, .aload_n 0, [0], none),
  (50, .getfield 83, [], some (eF 11 9)),
  (53, .lload_n 1, [1], none),
  (54, .bipush 8, [], some (eI 8)),
  (56, .iload 4, [4], none),
  (58, .imul, [], none),
  (59, .lshr, [], none),
  (60, .ldc2_w 87, [], some (eL 255)),
  (63, .land, [], none),
  (64, .l2i, [], none),
  (65, .iastore, [], none),
  (66, .aload_n 0, [0], none),
  (67, .dup, [], none),
  (68, .getfield 83, [], some (eF 11 9)),
  (71, .iconst 1, [], some (eI 1)),
  (72, .iadd, [], none),
  (73, .putfield 83, [], some (eF 11 9)),
  (76, .iinc 4 (-1), [4], some (eI (-1))),
  (79, .goto (-39), [40], none),
  (82, .aload_n 0, [0], none),
  (83, .getfield 83, [], some (eF 11 9)),
  (86, .ireturn, [], none)]
theorem okRef_feed : am_mok mRef_feed kRef_feed := ⟨by decide +kernel, plRef, by decide +kernel, poRef⟩
def kRef_byteAt : List am_E := [(0, .iload_n 1, [1], none),
  (1, .aload_n 0, [0], none),
  (2, .getfield 89, [], some (eF 11 11)),
  (5, .if_icmp .ge 12, [17], none),
  (8, .aload_n 0, [0], none),
  (9, .getfield 25, [], some (eF 11 8)),
  (12, .iload_n 1, [1], none),
  (13, .iaload, [], none),
  (14, .goto 5, [19], none),
  (17, .ldc 92, [], some (eI (-1000000))),
  (19, .ireturn, [], none)]
theorem okRef_byteAt : am_mok mRef_byteAt kRef_byteAt := ⟨by decide +kernel, plRef, by decide +kernel, poRef⟩
def kRef_isLetter : List am_E := [(0, .iload_n 0, [0], none),
  (1, .bipush 97, [], some (eI 97)),
  (3, .if_icmp .lt 13, [16], none),
  (6, .iload_n 0, [0], none),
  (7, .bipush 122, [], some (eI 122)),
  (9, .if_icmp .gt 7, [16], none),
  (12, .iconst 1, [], some (eI 1)),
  (13, .goto 4, [17], none),
  (16, .iconst 0, [], some (eI 0)),
  (17, .ireturn, [], none)]
theorem okRef_isLetter : am_mok mRef_isLetter kRef_isLetter := ⟨by decide +kernel, plRef, by decide +kernel, poRef⟩
def kRef_isFigure : List am_E := [(0, .iload_n 0, [0], none),
  (1, .bipush 48, [], some (eI 48)),
  (3, .if_icmp .lt 13, [16], none),
  (6, .iload_n 0, [0], none),
  (7, .bipush 57, [], some (eI 57)),
  (9, .if_icmp .gt 7, [16], none),
  (12, .iconst 1, [], some (eI 1)),
  (13, .goto 4, [17], none),
  (16, .iconst 0, [], some (eI 0)),
  (17, .ireturn, [], none)]
theorem okRef_isFigure : am_mok mRef_isFigure kRef_isFigure := ⟨by decide +kernel, plRef, by decide +kernel, poRef⟩
def kRef_nextToken : List am_E := [(0, .aload_n 0, [0], none),
  (1, .aload_n 0, [0], none),
  (2, .getfield 93, [], some (eF 11 12)),
  (5, .invokevirtual 96, [], some (eC 132 2 11)),
  (8, .bipush 32, [], some (eI 32)),
  (10, .if_icmp .eq 16, [26], none),
  (13, .aload_n 0, [0], none),
  (14, .aload_n 0, [0], none),
  (15, .getfield 93, [], some (eF 11 12)),
  (18, .invokevirtual 96, [], some (eC 132 2 11)),
  (21, .bipush 10, [], some (eI 10)),
  (23, .if_icmp .ne 16, [39], none),
  (26, .aload_n 0, [0], none),
  (27, .dup, [], none),
  (28, .getfield 93, [], some (eF 11 12)),
  (31, .iconst 1, [], some (eI 1)),
  (32, .iadd, [], none),
  (33, .putfield 93, [], some (eF 11 12)),
  (36, .goto (-36), [0], none),
  (39, .aload_n 0, [0], none),
  (40, .aload_n 0, [0], none),
  (41, .getfield 93, [], some (eF 11 12)),
  (44, .putfield 99, [], some (eF 11 14)),
  (47, .aload_n 0, [0], none),
  (48, .aload_n 0, [0], none),
  (49, .getfield 93, [], some (eF 11 12)),
  (52, .invokevirtual 96, [], some (eC 132 2 11)),
  (55, .istore_n 1, [1], none),
  (56, .iload_n 1, [1], none),
  (57, .ldc 92, [], some (eI (-1000000))),
  (59, .if_icmp .ne 11, [70], none),
  (62, .aload_n 0, [0], none),
  (63, .iconst 1, [], some (eI 1)),
  (64, .putfield 102, [], some (eF 11 13)),
  (67, .goto 129, [196], none),
  (70, .iload_n 1, [1], none),
  (71, .invokestatic 105, [], some (eC 133 1 0)),
  (74, .ifCond .eq 38, [112], none),
  (77, .aload_n 0, [0], none),
  (78, .aload_n 0, [0], none),
  (79, .getfield 93, [], some (eF 11 12)),
  (82, .invokevirtual 96, [], some (eC 132 2 11)),
  (85, .invokestatic 105, [], some (eC 133 1 0)),
  (88, .ifCond .eq 16, [104], none),
  (91, .aload_n 0, [0], none),
  (92, .dup, [], none),
  (93, .getfield 93, [], some (eF 11 12)),
  (96, .iconst 1, [], some (eI 1)),
  (97, .iadd, [], none),
  (98, .putfield 93, [], some (eF 11 12)),
  (101, .goto (-24), [77], none),
  (104, .aload_n 0, [0], none),
  (105, .iconst 2, [], some (eI 2)),
  (106, .putfield 102, [], some (eF 11 13)),
  (109, .goto 87, [196], none),
  (112, .iload_n 1, [1], none),
  (113, .invokestatic 108, [], some (eC 134 1 0)),
  (116, .ifCond .eq 55, [171], none),
  (119, .aload_n 0, [0], none),
  (120, .aload_n 0, [0], none),
  (121, .getfield 93, [], some (eF 11 12)),
  (124, .invokevirtual 96, [], some (eC 132 2 11)),
  (127, .invokestatic 108, [], some (eC 134 1 0)),
  (130, .ifCond .eq 16, [146], none),
  (133, .aload_n 0, [0], none),
  (134, .dup, [], none),
  (135, .getfield 93, [], some (eF 11 12)),
  (138, .iconst 1, [], some (eI 1)),
  (139, .iadd, [], none),
  (140, .putfield 93, [], some (eF 11 12)),
  (143, .goto (-24), [119], none),
  (146, .aload_n 0, [0], none),
  (147, .aload_n 0, [0], none),
  (148, .getfield 93, [], some (eF 11 12)),
  (151, .aload_n 0, [0], none),
  (152, .getfield 99, [], some (eF 11 14)),
  (155, .isub, [], none),
  (156, .iconst 4, [], some (eI 4)),
  (157, .if_icmp .le 7, [164], none),
  (160, .iconst 0, [], some (eI 0)),
  (161, .goto 4, [165], none),
  (164, .iconst 3, [], some (eI 3)),
  (165, .putfield 102, [], some (eF 11 13)),
  (168, .goto 28, [196], none),
  (171, .aload_n 0, [0], none),
  (172, .dup, [], none),
  (173, .getfield 93, [], some (eF 11 12)),
  (176, .iconst 1, [], some (eI 1)),
  (177, .iadd, [], none),
  (178, .putfield 93, [], some (eF 11 12)),
  (181, .aload_n 0, [0], none),
  (182, .iload_n 1, [1], none),
  (183, .bipush 59, [], some (eI 59)),
  (185, .if_icmp .ne 7, [192], none),
  (188, .iconst 4, [], some (eI 4)),
  (189, .goto 4, [193], none),
  (192, .iconst 0, [], some (eI 0)),
  (193, .putfield 102, [], some (eF 11 13)),
  (196, .aload_n 0, [0], none),
  (197, .aload_n 0, [0], none),
  (198, .getfield 93, [], some (eF 11 12)),
  (201, .putfield 111, [], some (eF 11 15)),
  (204, .return_, [], none)]
theorem okRef_nextToken : am_mok mRef_nextToken kRef_nextToken := ⟨by decide +kernel, plRef, by decide +kernel, poRef⟩
def kRef_begin : List am_E := [(0, .aload_n 0, [0], none),
  (1, .aload_n 0, [0], none),
  (2, .getfield 83, [], some (eF 11 9)),
  (5, .putfield 89, [], some (eF 11 11)),
  (8, .aload_n 0, [0], none),
  (9, .iconst 0, [], some (eI 0)),
  (10, .putfield 83, [], some (eF 11 9)),
  (13, .aload_n 0, [0], none),
  (14, .iconst 0, [], some (eI 0)),
  (15, .putfield 93, [], some (eF 11 12)),
  (18, .aload_n 0, [0], none),
  (19, .iconst 0, [], some (eI 0)),
  (20, .putfield 114, [], some (eF 11 16)),
  (23, .aload_n 0, [0], none),
  (24, .invokevirtual 117, [], some (eC 135 1 11)),
  (27, .return_, [], none)]
theorem okRef_begin : am_mok mRef_begin kRef_begin := ⟨by decide +kernel, plRef, by decide +kernel, poRef⟩
def kRef_bad : List am_E := [(0, .aload_n 0, [0], none),
  (1, .getfield 114, [], some (eF 11 16)),
  (4, .ifCond .ne 16, [20], none),
  (7, .aload_n 0, [0], none),
  (8, .iload_n 1, [1], none),
  (9, .putfield 114, [], some (eF 11 16)),
  (12, .aload_n 0, [0], none),
  (13, .aload_n 0, [0], none),
  (14, .getfield 99, [], some (eF 11 14)),
  (17, .putfield 120, [], some (eF 11 17)),
  (20, .return_, [], none)]
theorem okRef_bad : am_mok mRef_bad kRef_bad := ⟨by decide +kernel, plRef, by decide +kernel, poRef⟩
def kRef_must : List am_E := [(0, .iload_n 1, [1], none),
  (1, .ifCond .ne 8, [9], none),
  (4, .aload_n 0, [0], none),
  (5, .iconst 1, [], some (eI 1)),
  (6, .invokevirtual 123, [], some (eC 137 2 11)),
  (9, .aload_n 0, [0], none),
  (10, .getfield 114, [], some (eF 11 16)),
  (13, .ifCond .ne 7, [20], none),
  (16, .aload_n 0, [0], none),
  (17, .invokevirtual 117, [], some (eC 135 1 11)),
  (20, .return_, [], none)]
theorem okRef_must : am_mok mRef_must kRef_must := ⟨by decide +kernel, plRef, by decide +kernel, poRef⟩
def kRef_name : List am_E := [(0, .lconst 0, [], some (eL 0)),
  (1, .lstore_n 1, [1], none),
  (2, .aload_n 0, [0], none),
  (3, .getfield 99, [], some (eF 11 14)),
  (6, .istore_n 3, [3], none),
  (7, .iload_n 3, [3], none),
  (8, .aload_n 0, [0], none),
  (9, .getfield 111, [], some (eF 11 15)),
  (12, .if_icmp .ge 44, [56], none),
  (15, .aload_n 0, [0], none),
  (16, .getfield 102, [], some (eF 11 13)),
  (19, .iconst 2, [], some (eI 2)),
  (20, .if_icmp .ne 36, [56], none),
  (23, .aload_n 0, [0], none),
  (24, .getfield 111, [], some (eF 11 15)),
  (27, .aload_n 0, [0], none),
  (28, .getfield 99, [], some (eF 11 14)),
  (31, .isub, [], none),
  (32, .bipush 8, [], some (eI 8)),
  (34, .if_icmp .ge 22, [56], none),
  (37, .lload_n 1, [1], none),
  (38, .bipush 8, [], some (eI 8)),
  (40, .lshl, [], none),
  (41, .aload_n 0, [0], none),
  (42, .getfield 25, [], some (eF 11 8)),
  (45, .iload_n 3, [3], none),
  (46, .iaload, [], none),
  (47, .i2l, [], none),
  (48, .lor, [], none),
  (49, .lstore_n 1, [1], none),
  (50, .iinc 3 1, [3], some (eI 1)),
  (53, .goto (-46), [7], none),
  (56, .aload_n 0, [0], none),
  (57, .getfield 114, [], some (eF 11 16)),
  (60, .ifCond .ne 7, [67], none),
  (63, .lload_n 1, [1], none),
  (64, .goto 4, [68], none),
  (67, .lconst 0, [], some (eL 0)),
  (68, .lreturn, [], none)]
theorem okRef_name : am_mok mRef_name kRef_name := ⟨by decide +kernel, plRef, by decide +kernel, poRef⟩
def kRef_figures : List am_E := [(0, .iconst 0, [], some (eI 0)),
  (1, .istore_n 1, [1], none),
  (2, .aload_n 0, [0], none),
  (3, .getfield 99, [], some (eF 11 14)),
  (6, .istore_n 2, [2], none),
  (7, .iload_n 2, [2], none),
  (8, .aload_n 0, [0], none),
  (9, .getfield 111, [], some (eF 11 15)),
  (12, .if_icmp .ge 32, [44], none),
  (15, .aload_n 0, [0], none),
  (16, .getfield 102, [], some (eF 11 13)),
  (19, .iconst 3, [], some (eI 3)),
  (20, .if_icmp .ne 24, [44], none),
  (23, .bipush 10, [], some (eI 10)),
  (25, .iload_n 1, [1], none),
  (26, .imul, [], none),
  (27, .aload_n 0, [0], none),
  (28, .getfield 25, [], some (eF 11 8)),
  (31, .iload_n 2, [2], none),
  (32, .iaload, [], none),
  (33, .iadd, [], none),
  (34, .bipush 48, [], some (eI 48)),
  (36, .isub, [], none),
  (37, .istore_n 1, [1], none),
  (38, .iinc 2 1, [2], some (eI 1)),
  (41, .goto (-34), [7], none),
  (44, .iload_n 1, [1], none),
  (45, .ireturn, [], none)]
theorem okRef_figures : am_mok mRef_figures kRef_figures := ⟨by decide +kernel, plRef, by decide +kernel, poRef⟩
def kRef_number : List am_E := [(0, .aload_n 0, [0], none),
  (1, .getfield 114, [], some (eF 11 16)),
  (4, .ifCond .le 5, [9], none),
  (7, .iconst 0, [], some (eI 0)),
  (8, .ireturn, [], none),
  (9, .aload_n 0, [0], none),
  (10, .invokevirtual 127, [], some (eC 140 1 11)),
  (13, .istore_n 3, [3], none),
  (14, .aload_n 0, [0], none),
  (15, .getfield 102, [], some (eF 11 13)),
  (18, .iconst 3, [], some (eI 3)),
  (19, .if_icmp .ne 20, [39], none),
  (22, .iload_n 3, [3], none),
  (23, .i2l, [], none),
  (24, .iload_n 1, [1], none),
  (25, .i2l, [], none),
  (26, .iload_n 2, [2], none),
  (27, .i2l, [], none),
  (28, .invokestatic 66, [], some (eC 124 3 0)),
  (31, .ifCond .ne 8, [39], none),
  (34, .aload_n 0, [0], none),
  (35, .iconst 2, [], some (eI 2)),
  (36, .invokevirtual 123, [], some (eC 137 2 11)),
  (39, .aload_n 0, [0], none),
  (40, .aload_n 0, [0], none),
  (41, .getfield 102, [], some (eF 11 13)),
  (44, .iconst 3, [], some (eI 3)),
  (45, .if_icmp .ne 7, [52], none),
  (48, .iconst 1, [], some (eI 1)),
  (49, .goto 4, [53], none),
  (52, .iconst 0, [], some (eI 0)),
  (53, .invokevirtual 131, [], some (eC 138 2 11)),
  (56, .iload_n 3, [3], none),
  (57, .ireturn, [], none)]
theorem okRef_number : am_mok mRef_number kRef_number := ⟨by decide +kernel, plRef, by decide +kernel, poRef⟩
def kRef_sortOf : List am_E := [(0, .lload_n 0, [0], none),
  (1, .ldc2_w 135, [], some (eL 482854660462)),
  (4, .lcmp, [], none),
  (5, .ifCond .ne 7, [12], none),
  (8, .iconst 1, [], some (eI 1)),
  (9, .goto 53, [62], none),
  (12, .lload_n 0, [0], none),
  (13, .ldc2_w 137, [], some (eL 1852143475)),
  (16, .lcmp, [], none),
  (17, .ifCond .ne 7, [24], none),
  (20, .iconst 3, [], some (eI 3)),
  (21, .goto 41, [62], none),
  (24, .lload_n 0, [0], none),
  (25, .ldc2_w 139, [], some (eL 495873781104)),
  (28, .lcmp, [], none),
  (29, .ifCond .ne 7, [36], none),
  (32, .iconst 2, [], some (eI 2)),
  (33, .goto 29, [62], none),
  (36, .lload_n 0, [0], none),
  (37, .ldc2_w 141, [], some (eL 482670636660)),
  (40, .lcmp, [], none),
  (41, .ifCond .ne 7, [48], none),
  (44, .iconst 5, [], some (eI 5)),
  (45, .goto 17, [62], none),
  (48, .lload_n 0, [0], none),
  (49, .ldc2_w 143, [], some (eL 1919251316)),
  (52, .lcmp, [], none),
  (53, .ifCond .ne 7, [60], none),
  (56, .iconst 4, [], some (eI 4)),
  (57, .goto 5, [62], none),
  (60, .ldc 92, [], some (eI (-1000000))),
  (62, .ireturn, [], none)]
theorem okRef_sortOf : am_mok mRef_sortOf kRef_sortOf := ⟨by decide +kernel, plRef, by decide +kernel, poRef⟩
def kRef_mustEnd : List am_E := [(0, .aload_n 0, [0], none),
  (1, .getfield 114, [], some (eF 11 16)),
  (4, .ifCond .ne 20, [24], none),
  (7, .aload_n 0, [0], none),
  (8, .aload_n 0, [0], none),
  (9, .getfield 102, [], some (eF 11 13)),
  (12, .iconst 4, [], some (eI 4)),
  (13, .if_icmp .ne 7, [20], none),
  (16, .iconst 1, [], some (eI 1)),
  (17, .goto 4, [21], none),
  (20, .iconst 0, [], some (eI 0)),
  (21, .invokevirtual 131, [], some (eC 138 2 11)),
  (24, .return_, [], none)]
theorem okRef_mustEnd : am_mok mRef_mustEnd kRef_mustEnd := ⟨by decide +kernel, plRef, by decide +kernel, poRef⟩
def kRef_begins : List am_E := [(0, .aload_n 0, [0], none),
  (1, .getfield 22, [], some (eF 11 6)),
  (4, .iload_n 1, [1], none),
  (5, .iaload, [], none),
  (6, .iload_n 2, [2], none),
  (7, .if_icmp .ne 8, [15], none),
  (10, .aload_n 0, [0], none),
  (11, .iconst 3, [], some (eI 3)),
  (12, .invokevirtual 123, [], some (eC 137 2 11)),
  (15, .aload_n 0, [0], none),
  (16, .iconst 1, [], some (eI 1)),
  (17, .invokevirtual 131, [], some (eC 138 2 11)),
  (20, .return_, [], none)]
theorem okRef_begins : am_mok mRef_begins kRef_begins := ⟨by decide +kernel, plRef, by decide +kernel, poRef⟩
def kRef_readWall : List am_E := [(0, .aload_n 0, [0], none),
  (1, .iconst 0, [], some (eI 0)),
  (2, .bipush 8, [], some (eI 8)),
  (4, .invokevirtual 145, [], some (eC 144 3 11)),
  (7, .aload_n 0, [0], none),
  (8, .sipush 1700, [], some (eI 1700)),
  (11, .sipush 1999, [], some (eI 1999)),
  (14, .invokevirtual 149, [], some (eC 141 3 11)),
  (17, .istore_n 1, [1], none),
  (18, .aload_n 0, [0], none),
  (19, .bipush 50, [], some (eI 50)),
  (21, .sipush 999, [], some (eI 999)),
  (24, .invokevirtual 149, [], some (eC 141 3 11)),
  (27, .istore_n 2, [2], none),
  (28, .aload_n 0, [0], none),
  (29, .bipush 100, [], some (eI 100)),
  (31, .sipush 400, [], some (eI 400)),
  (34, .invokevirtual 149, [], some (eC 141 3 11)),
  (37, .istore_n 3, [3], none),
  (38, .aload_n 0, [0], none),
  (39, .invokevirtual 153, [], some (eC 143 1 11)),
  (42, .aload_n 0, [0], none),
  (43, .getfield 114, [], some (eF 11 16)),
  (46, .ifCond .ne 53, [99], none),
  (49, .iconst 4, [], some (eI 4)),
  (50, .iconst 3, [], some (eI 3)),
  (51, .aload_n 0, [0], none),
  (52, .getfield 22, [], some (eF 11 6)),
  (55, .iconst 0, [], some (eI 0)),
  (56, .iaload, [], none),
  (57, .imul, [], none),
  (58, .iadd, [], none),
  (59, .istore 4, [4], none),
  (61, .aload_n 0, [0], none),
  (62, .getfield 22, [], some (eF 11 6)),
  (65, .iload 4, [4], none),
  (67, .iload_n 1, [1], none),
  (68, .iastore, [], none),
  (69, .aload_n 0, [0], none),
  (70, .getfield 22, [], some (eF 11 6)),
  (73, .iload 4, [4], none),
  (75, .iconst 1, [], some (eI 1)),
  (76, .iadd, [], none),
  (77, .iload_n 2, [2], none),
  (78, .iastore, [], none),
  (79, .aload_n 0, [0], none),
  (80, .getfield 22, [], some (eF 11 6)),
  (83, .iload 4, [4], none),
  (85, .iconst 2, [], some (eI 2)),
  (86, .iadd, [], none),
  (87, .iload_n 3, [3], none),
  (88, .iastore, [], none),
  (89, .aload_n 0, [0], none),
  (90, .getfield 22, [], some (eF 11 6)),
  (93, .iconst 0, [], some (eI 0)),
  (94, .dup2, [], none),
  (95, .iaload, [], none),
  (96, .iconst 1, [], some (eI 1)),
  (97, .iadd, [], none),
  (98, .iastore, [], none),
  (99, .return_, [], none)]
theorem okRef_readWall : am_mok mRef_readWall kRef_readWall := ⟨by decide +kernel, plRef, by decide +kernel, poRef⟩
def kRef_readPaper : List am_E := [(0, .aload_n 0, [0], none),
  (1, .iconst 1, [], some (eI 1)),
  (2, .bipush 10, [], some (eI 10)),
  (4, .invokevirtual 145, [], some (eC 144 3 11)),
  (7, .aload_n 0, [0], none),
  (8, .invokevirtual 156, [], some (eC 139 1 11)),
  (11, .invokestatic 160, [], some (eC 142 1 0)),
  (14, .istore_n 1, [1], none),
  (15, .aload_n 0, [0], none),
  (16, .getfield 114, [], some (eF 11 16)),
  (19, .ifCond .ne 18, [37], none),
  (22, .aload_n 0, [0], none),
  (23, .iload_n 1, [1], none),
  (24, .ldc 92, [], some (eI (-1000000))),
  (26, .if_icmp .eq 7, [33], none),
  (29, .iconst 1, [], some (eI 1)),
  (30, .goto 4, [34], none),
  (33, .iconst 0, [], some (eI 0)),
  (34, .invokevirtual 131, [], some (eC 138 2 11)),
  (37, .aload_n 0, [0], none),
  (38, .sipush 1700, [], some (eI 1700)),
  (41, .sipush 1999, [], some (eI 1999)),
  (44, .invokevirtual 149, [], some (eC 141 3 11)),
  (47, .istore_n 2, [2], none),
  (48, .aload_n 0, [0], none),
  (49, .iload_n 2, [2], none),
  (50, .sipush 1999, [], some (eI 1999)),
  (53, .invokevirtual 149, [], some (eC 141 3 11)),
  (56, .istore_n 3, [3], none),
  (57, .aload_n 0, [0], none),
  (58, .iconst 0, [], some (eI 0)),
  (59, .bipush 99, [], some (eI 99)),
  (61, .invokevirtual 149, [], some (eC 141 3 11)),
  (64, .istore 4, [4], none),
  (66, .aload_n 0, [0], none),
  (67, .iconst 1, [], some (eI 1)),
  (68, .bipush 99, [], some (eI 99)),
  (70, .invokevirtual 149, [], some (eC 141 3 11)),
  (73, .istore 5, [5], none),
  (75, .aload_n 0, [0], none),
  (76, .invokevirtual 153, [], some (eC 143 1 11)),
  (79, .aload_n 0, [0], none),
  (80, .getfield 114, [], some (eF 11 16)),
  (83, .ifCond .ne 76, [159], none),
  (86, .bipush 28, [], some (eI 28)),
  (88, .iconst 5, [], some (eI 5)),
  (89, .aload_n 0, [0], none),
  (90, .getfield 22, [], some (eF 11 6)),
  (93, .iconst 1, [], some (eI 1)),
  (94, .iaload, [], none),
  (95, .imul, [], none),
  (96, .iadd, [], none),
  (97, .istore 6, [6], none),
  (99, .aload_n 0, [0], none),
  (100, .getfield 22, [], some (eF 11 6)),
  (103, .iload 6, [6], none),
  (105, .iload_n 1, [1], none),
  (106, .iastore, [], none),
  (107, .aload_n 0, [0], none),
  (108, .getfield 22, [], some (eF 11 6)),
  (111, .iload 6, [6], none),
  (113, .iconst 1, [], some (eI 1)),
  (114, .iadd, [], none),
  (115, .iload_n 2, [2], none),
  (116, .iastore, [], none),
  (117, .aload_n 0, [0], none),
  (118, .getfield 22, [], some (eF 11 6)),
  (121, .iload 6, [6], none),
  (123, .iconst 2, [], some (eI 2)),
  (124, .iadd, [], none),
  (125, .iload_n 3, [3], none),
  (126, .iastore, [], none),
  (127, .aload_n 0, [0], none),
  (128, .getfield 22, [], some (eF 11 6)),
  (131, .iload 6, [6], none),
  (133, .iconst 3, [], some (eI 3)),
  (134, .iadd, [], none),
  (135, .iload 4, [4], none),
  (137, .iastore, [], none),
  (138, .aload_n 0, [0], none),
  (139, .getfield 22, [], some (eF 11 6)),
  (142, .iload 6, [6], none),
  (144, .iconst 4, [], some (eI 4)),
  (145, .iadd, [], none),
  (146, .iload 5, [5], none),
  (148, .iastore, [], none),
  (149, .aload_n 0, [0], none),
  (150, .getfield 22, [], some (eF 11 6)),
  (153, .iconst 1, [], some (eI 1)),
  (154, .dup2, [], none),
  (155, .iaload, [], none),
  (156, .iconst 1, [], some (eI 1)),
  (157, .iadd, [], none),
  (158, .iastore, [], none),
  (159, .return_, [], none)]
theorem okRef_readPaper : am_mok mRef_readPaper kRef_readPaper := ⟨by decide +kernel, plRef, by decide +kernel, poRef⟩
def kRef_readTenant : List am_E := [(0, .aload_n 0, [0], none),
  (1, .iconst 2, [], some (eI 2)),
  (2, .bipush 10, [], some (eI 10)),
  (4, .invokevirtual 145, [], some (eC 144 3 11)),
  (7, .aload_n 0, [0], none),
  (8, .sipush 1700, [], some (eI 1700)),
  (11, .sipush 1999, [], some (eI 1999)),
  (14, .invokevirtual 149, [], some (eC 141 3 11)),
  (17, .istore_n 1, [1], none),
  (18, .aload_n 0, [0], none),
  (19, .iload_n 1, [1], none),
  (20, .sipush 1999, [], some (eI 1999)),
  (23, .invokevirtual 149, [], some (eC 141 3 11)),
  (26, .istore_n 2, [2], none),
  (27, .aload_n 0, [0], none),
  (28, .iconst 0, [], some (eI 0)),
  (29, .bipush 99, [], some (eI 99)),
  (31, .invokevirtual 149, [], some (eC 141 3 11)),
  (34, .istore_n 3, [3], none),
  (35, .aload_n 0, [0], none),
  (36, .invokevirtual 153, [], some (eC 143 1 11)),
  (39, .aload_n 0, [0], none),
  (40, .getfield 114, [], some (eF 11 16)),
  (43, .ifCond .ne 54, [97], none),
  (46, .bipush 78, [], some (eI 78)),
  (48, .iconst 3, [], some (eI 3)),
  (49, .aload_n 0, [0], none),
  (50, .getfield 22, [], some (eF 11 6)),
  (53, .iconst 2, [], some (eI 2)),
  (54, .iaload, [], none),
  (55, .imul, [], none),
  (56, .iadd, [], none),
  (57, .istore 4, [4], none),
  (59, .aload_n 0, [0], none),
  (60, .getfield 22, [], some (eF 11 6)),
  (63, .iload 4, [4], none),
  (65, .iload_n 1, [1], none),
  (66, .iastore, [], none),
  (67, .aload_n 0, [0], none),
  (68, .getfield 22, [], some (eF 11 6)),
  (71, .iload 4, [4], none),
  (73, .iconst 1, [], some (eI 1)),
  (74, .iadd, [], none),
  (75, .iload_n 2, [2], none),
  (76, .iastore, [], none),
  (77, .aload_n 0, [0], none),
  (78, .getfield 22, [], some (eF 11 6)),
  (81, .iload 4, [4], none),
  (83, .iconst 2, [], some (eI 2)),
  (84, .iadd, [], none),
  (85, .iload_n 3, [3], none),
  (86, .iastore, [], none),
  (87, .aload_n 0, [0], none),
  (88, .getfield 22, [], some (eF 11 6)),
  (91, .iconst 2, [], some (eI 2)),
  (92, .dup2, [], none),
  (93, .iaload, [], none),
  (94, .iconst 1, [], some (eI 1)),
  (95, .iadd, [], none),
  (96, .iastore, [], none),
  (97, .return_, [], none)]
theorem okRef_readTenant : am_mok mRef_readTenant kRef_readTenant := ⟨by decide +kernel, plRef, by decide +kernel, poRef⟩
def kRef_house : List am_E := [(0, .aload_n 0, [0], none),
  (1, .iconst 0, [], some (eI 0)),
  (2, .putfield 56, [], some (eF 11 0)),
  (5, .aload_n 0, [0], none),
  (6, .invokevirtual 164, [], some (eC 136 1 11)),
  (9, .iconst 0, [], some (eI 0)),
  (10, .istore_n 1, [1], none),
  (11, .iload_n 1, [1], none),
  (12, .sipush 198, [], some (eI 198)),
  (15, .if_icmp .ge 16, [31], none),
  (18, .aload_n 0, [0], none),
  (19, .getfield 22, [], some (eF 11 6)),
  (22, .iload_n 1, [1], none),
  (23, .iconst 0, [], some (eI 0)),
  (24, .iastore, [], none),
  (25, .iinc 1 1, [1], some (eI 1)),
  (28, .goto (-17), [11], none),
  (31, .aload_n 0, [0], none),
  (32, .invokevirtual 156, [], some (eC 139 1 11)),
  (35, .ldc2_w 167, [], some (eL 2002873452)),
  (38, .lcmp, [], none),
  (39, .ifCond .eq 8, [47], none),
  (42, .aload_n 0, [0], none),
  (43, .iconst 1, [], some (eI 1)),
  (44, .invokevirtual 123, [], some (eC 137 2 11)),
  (47, .aload_n 0, [0], none),
  (48, .invokevirtual 156, [], some (eC 139 1 11)),
  (51, .ldc2_w 167, [], some (eL 2002873452)),
  (54, .lcmp, [], none),
  (55, .ifCond .ne 10, [65], none),
  (58, .aload_n 0, [0], none),
  (59, .invokevirtual 169, [], some (eC 145 1 11)),
  (62, .goto (-15), [47], none),
  (65, .aload_n 0, [0], none),
  (66, .invokevirtual 156, [], some (eC 139 1 11)),
  (69, .ldc2_w 172, [], some (eL 482671093106)),
  (72, .lcmp, [], none),
  (73, .ifCond .ne 10, [83], none),
  (76, .aload_n 0, [0], none),
  (77, .invokevirtual 174, [], some (eC 146 1 11)),
  (80, .goto (-15), [65], none),
  (83, .aload_n 0, [0], none),
  (84, .invokevirtual 156, [], some (eC 139 1 11)),
  (87, .ldc2_w 177, [], some (eL 127978992397940)),
  (90, .lcmp, [], none),
  (91, .ifCond .ne 10, [101], none),
  (94, .aload_n 0, [0], none),
  (95, .invokevirtual 179, [], some (eC 147 1 11)),
  (98, .goto (-15), [83], none),
  (101, .aload_n 0, [0], none),
  (102, .getfield 114, [], some (eF 11 16)),
  (105, .ifCond .ne 16, [121], none),
  (108, .aload_n 0, [0], none),
  (109, .getfield 102, [], some (eF 11 13)),
  (112, .iconst 1, [], some (eI 1)),
  (113, .if_icmp .eq 8, [121], none),
  (116, .aload_n 0, [0], none),
  (117, .iconst 1, [], some (eI 1)),
  (118, .invokevirtual 123, [], some (eC 137 2 11)),
  (121, .aload_n 0, [0], none),
  (122, .getfield 114, [], some (eF 11 16)),
  (125, .ifCond .le 19, [144], none),
  (128, .aload_n 0, [0], none),
  (129, .aload_n 0, [0], none),
  (130, .getfield 114, [], some (eF 11 16)),
  (133, .putfield 182, [], some (eF 11 10)),
  (136, .ldc 185, [], some (eI (-1000100))),
  (138, .aload_n 0, [0], none),
  (139, .getfield 120, [], some (eF 11 17)),
  (142, .isub, [], none),
  (143, .ireturn, [], none),
  (144, .aload_n 0, [0], none),
  (145, .iconst 1, [], some (eI 1)),
  (146, .putfield 186, [], some (eF 11 7)),
  (149, .iconst 0, [], some (eI 0)),
  (150, .istore_n 1, [1], none),
  (151, .iload_n 1, [1], none),
  (152, .sipush 198, [], some (eI 198)),
  (155, .if_icmp .ge 21, [176], none),
  (158, .aload_n 0, [0], none),
  (159, .getfield 19, [], some (eF 11 5)),
  (162, .iload_n 1, [1], none),
  (163, .aload_n 0, [0], none),
  (164, .getfield 22, [], some (eF 11 6)),
  (167, .iload_n 1, [1], none),
  (168, .iaload, [], none),
  (169, .iastore, [], none),
  (170, .iinc 1 1, [1], some (eI 1)),
  (173, .goto (-22), [151], none),
  (176, .aload_n 0, [0], none),
  (177, .invokevirtual 190, [], some (eC 158 1 11)),
  (180, .aload_n 0, [0], none),
  (181, .getfield 19, [], some (eF 11 5)),
  (184, .iconst 0, [], some (eI 0)),
  (185, .iaload, [], none),
  (186, .ireturn, [], none)]
theorem okRef_house : am_mok mRef_house kRef_house := ⟨by decide +kernel, plRef, by decide +kernel, poRef⟩
def kRef_fault : List am_E := [(0, .aload_n 0, [0], none),
  (1, .iconst 0, [], some (eI 0)),
  (2, .putfield 56, [], some (eF 11 0)),
  (5, .aload_n 0, [0], none),
  (6, .getfield 182, [], some (eF 11 10)),
  (9, .ireturn, [], none)]
theorem okRef_fault : am_mok mRef_fault kRef_fault := ⟨by decide +kernel, plRef, by decide +kernel, poRef⟩
def kRef_isWall : List am_E := [(0, .iload_n 1, [1], none),
  (1, .i2l, [], none),
  (2, .lconst 0, [], some (eL 0)),
  (3, .aload_n 0, [0], none),
  (4, .getfield 19, [], some (eF 11 5)),
  (7, .iconst 0, [], some (eI 0)),
  (8, .iaload, [], none),
  (9, .iconst 1, [], some (eI 1)),
  (10, .isub, [], none),
  (11, .i2l, [], none),
  (12, .invokestatic 66, [], some (eC 124 3 0)),
  (15, .ireturn, [], none)]
theorem okRef_isWall : am_mok mRef_isWall kRef_isWall := ⟨by decide +kernel, plRef, by decide +kernel, poRef⟩
def kRef_isPaper : List am_E := [(0, .iload_n 1, [1], none),
  (1, .i2l, [], none),
  (2, .lconst 0, [], some (eL 0)),
  (3, .aload_n 0, [0], none),
  (4, .getfield 19, [], some (eF 11 5)),
  (7, .iconst 1, [], some (eI 1)),
  (8, .iaload, [], none),
  (9, .iconst 1, [], some (eI 1)),
  (10, .isub, [], none),
  (11, .i2l, [], none),
  (12, .invokestatic 66, [], some (eC 124 3 0)),
  (15, .ireturn, [], none)]
theorem okRef_isPaper : am_mok mRef_isPaper kRef_isPaper := ⟨by decide +kernel, plRef, by decide +kernel, poRef⟩
def kRef_isSpot : List am_E := [(0, .iload_n 1, [1], none),
  (1, .i2l, [], none),
  (2, .lconst 0, [], some (eL 0)),
  (3, .aload_n 0, [0], none),
  (4, .getfield 19, [], some (eF 11 5)),
  (7, .iconst 3, [], some (eI 3)),
  (8, .iaload, [], none),
  (9, .iconst 1, [], some (eI 1)),
  (10, .isub, [], none),
  (11, .i2l, [], none),
  (12, .invokestatic 66, [], some (eC 124 3 0)),
  (15, .ireturn, [], none)]
theorem okRef_isSpot : am_mok mRef_isSpot kRef_isSpot := ⟨by decide +kernel, plRef, by decide +kernel, poRef⟩
def kRef_wall : List am_E := [(0, .aload_n 0, [0], none),
  (1, .getfield 19, [], some (eF 11 5)),
  (4, .iconst 4, [], some (eI 4)),
  (5, .iconst 3, [], some (eI 3)),
  (6, .iload_n 1, [1], none),
  (7, .imul, [], none),
  (8, .iadd, [], none),
  (9, .iload_n 2, [2], none),
  (10, .iadd, [], none),
  (11, .iaload, [], none),
  (12, .ireturn, [], none)]
theorem okRef_wall : am_mok mRef_wall kRef_wall := ⟨by decide +kernel, plRef, by decide +kernel, poRef⟩
def kRef_of : List am_E := [(0, .aload_n 0, [0], none),
  (1, .getfield 19, [], some (eF 11 5)),
  (4, .bipush 28, [], some (eI 28)),
  (6, .iconst 5, [], some (eI 5)),
  (7, .iload_n 1, [1], none),
  (8, .imul, [], none),
  (9, .iadd, [], none),
  (10, .iload_n 2, [2], none),
  (11, .iadd, [], none),
  (12, .iaload, [], none),
  (13, .ireturn, [], none)]
theorem okRef_of : am_mok mRef_of kRef_of := ⟨by decide +kernel, plRef, by decide +kernel, poRef⟩
def kRef_lies : List am_E := [(0, .aload_n 0, [0], none),
  (1, .getfield 19, [], some (eF 11 5)),
  (4, .bipush 108, [], some (eI 108)),
  (6, .bipush 10, [], some (eI 10)),
  (8, .iload_n 1, [1], none),
  (9, .imul, [], none),
  (10, .iadd, [], none),
  (11, .iconst 2, [], some (eI 2)),
  (12, .iadd, [], none),
  (13, .iload_n 2, [2], none),
  (14, .iadd, [], none),
  (15, .iaload, [], none),
  (16, .ireturn, [], none)]
theorem okRef_lies : am_mok mRef_lies kRef_lies := ⟨by decide +kernel, plRef, by decide +kernel, poRef⟩
def kRef_wallOf : List am_E := [(0, .aload_n 0, [0], none),
  (1, .getfield 19, [], some (eF 11 5)),
  (4, .bipush 108, [], some (eI 108)),
  (6, .bipush 10, [], some (eI 10)),
  (8, .iload_n 1, [1], none),
  (9, .imul, [], none),
  (10, .iadd, [], none),
  (11, .iaload, [], none),
  (12, .ireturn, [], none)]
theorem okRef_wallOf : am_mok mRef_wallOf kRef_wallOf := ⟨by decide +kernel, plRef, by decide +kernel, poRef⟩
def kRef_manyAt : List am_E := [(0, .aload_n 0, [0], none),
  (1, .getfield 19, [], some (eF 11 5)),
  (4, .bipush 108, [], some (eI 108)),
  (6, .bipush 10, [], some (eI 10)),
  (8, .iload_n 1, [1], none),
  (9, .imul, [], none),
  (10, .iadd, [], none),
  (11, .iconst 1, [], some (eI 1)),
  (12, .iadd, [], none),
  (13, .iaload, [], none),
  (14, .ireturn, [], none)]
theorem okRef_manyAt : am_mok mRef_manyAt kRef_manyAt := ⟨by decide +kernel, plRef, by decide +kernel, poRef⟩
def kRef_laySpots : List am_E := [(0, .aload_n 0, [0], none),
  (1, .iconst 0, [], some (eI 0)),
  (2, .putfield 193, [], some (eF 11 18)),
  (5, .iconst 0, [], some (eI 0)),
  (6, .istore_n 1, [1], none),
  (7, .iload_n 1, [1], none),
  (8, .bipush 10, [], some (eI 10)),
  (10, .if_icmp .ge 26, [36], none),
  (13, .aload_n 0, [0], none),
  (14, .getfield 28, [], some (eF 11 19)),
  (17, .iload_n 1, [1], none),
  (18, .bipush 8, [], some (eI 8)),
  (20, .irem, [], none),
  (21, .iconst 0, [], some (eI 0)),
  (22, .iastore, [], none),
  (23, .aload_n 0, [0], none),
  (24, .getfield 31, [], some (eF 11 20)),
  (27, .iload_n 1, [1], none),
  (28, .iconst 0, [], some (eI 0)),
  (29, .iastore, [], none),
  (30, .iinc 1 1, [1], some (eI 1)),
  (33, .goto (-26), [7], none),
  (36, .iconst 0, [], some (eI 0)),
  (37, .istore_n 1, [1], none),
  (38, .iload_n 1, [1], none),
  (39, .aload_n 0, [0], none),
  (40, .getfield 19, [], some (eF 11 5)),
  (43, .iconst 3, [], some (eI 3)),
  (44, .iaload, [], none),
  (45, .if_icmp .ge 92, [137], none),
  (48, .iconst 0, [], some (eI 0)),
  (49, .istore_n 2, [2], none),
  (50, .iload_n 2, [2], none),
  (51, .aload_n 0, [0], none),
  (52, .iload_n 1, [1], none),
  (53, .invokevirtual 196, [], some (eC 157 2 11)),
  (56, .if_icmp .ge 75, [131], none),
  (59, .aload_n 0, [0], none),
  (60, .dup, [], none),
  (61, .getfield 193, [], some (eF 11 18)),
  (64, .iconst 1, [], some (eI 1)),
  (65, .aload_n 0, [0], none),
  (66, .iload_n 1, [1], none),
  (67, .iload_n 2, [2], none),
  (68, .invokevirtual 199, [], some (eC 155 3 11)),
  (71, .ishl, [], none),
  (72, .ior, [], none),
  (73, .putfield 193, [], some (eF 11 18)),
  (76, .aload_n 0, [0], none),
  (77, .getfield 28, [], some (eF 11 19)),
  (80, .aload_n 0, [0], none),
  (81, .iload_n 1, [1], none),
  (82, .invokevirtual 202, [], some (eC 156 2 11)),
  (85, .dup2, [], none),
  (86, .iaload, [], none),
  (87, .iconst 1, [], some (eI 1)),
  (88, .aload_n 0, [0], none),
  (89, .iload_n 1, [1], none),
  (90, .iload_n 2, [2], none),
  (91, .invokevirtual 199, [], some (eC 155 3 11)),
  (94, .ishl, [], none),
  (95, .ior, [], none),
  (96, .iastore, [], none),
  (97, .iload_n 2, [2], none),
  (98, .ifCond .le 27, [125], none),
  (101, .aload_n 0, [0], none),
  (102, .getfield 31, [], some (eF 11 20)),
  (105, .aload_n 0, [0], none),
  (106, .iload_n 1, [1], none),
  (107, .iload_n 2, [2], none),
  (108, .invokevirtual 199, [], some (eC 155 3 11)),
  (111, .dup2, [], none),
  (112, .iaload, [], none),
  (113, .iconst 1, [], some (eI 1)),
  (114, .aload_n 0, [0], none),
  (115, .iload_n 1, [1], none),
  (116, .iload_n 2, [2], none),
  (117, .iconst 1, [], some (eI 1)),
  (118, .isub, [], none),
  (119, .invokevirtual 199, [], some (eC 155 3 11)),
  (122, .ishl, [], none),
  (123, .ior, [], none),
  (124, .iastore, [], none),
  (125, .iinc 2 1, [2], some (eI 1)),
  (128, .goto (-78), [50], none),
  (131, .iinc 1 1, [1], some (eI 1)),
  (134, .goto (-96), [38], none),
  (137, .aload_n 0, [0], none),
  (138, .invokevirtual 205, [], some (eC 159 1 11)),
  (141, .return_, [], none)]
theorem okRef_laySpots : am_mok mRef_laySpots kRef_laySpots := ⟨by decide +kernel, plRef, by decide +kernel, poRef⟩
def kRef_laySure : List am_E := [(0, .iconst 0, [], some (eI 0)),
  (1, .istore_n 1, [1], none),
  (2, .iload_n 1, [1], none),
  (3, .bipush 10, [], some (eI 10)),
  (5, .if_icmp .ge 21, [26], none),
  (8, .aload_n 0, [0], none),
  (9, .getfield 34, [], some (eF 11 21)),
  (12, .iload_n 1, [1], none),
  (13, .aload_n 0, [0], none),
  (14, .getfield 31, [], some (eF 11 20)),
  (17, .iload_n 1, [1], none),
  (18, .iaload, [], none),
  (19, .iastore, [], none),
  (20, .iinc 1 1, [1], some (eI 1)),
  (23, .goto (-21), [2], none),
  (26, .iconst 0, [], some (eI 0)),
  (27, .istore_n 1, [1], none),
  (28, .iload_n 1, [1], none),
  (29, .bipush 10, [], some (eI 10)),
  (31, .if_icmp .ge 70, [101], none),
  (34, .iconst 0, [], some (eI 0)),
  (35, .istore_n 2, [2], none),
  (36, .iload_n 2, [2], none),
  (37, .bipush 10, [], some (eI 10)),
  (39, .if_icmp .ge 56, [95], none),
  (42, .iconst 0, [], some (eI 0)),
  (43, .istore_n 3, [3], none),
  (44, .iload_n 3, [3], none),
  (45, .bipush 10, [], some (eI 10)),
  (47, .if_icmp .ge 42, [89], none),
  (50, .aload_n 0, [0], none),
  (51, .getfield 34, [], some (eF 11 21)),
  (54, .iload_n 2, [2], none),
  (55, .dup2, [], none),
  (56, .iaload, [], none),
  (57, .aload_n 0, [0], none),
  (58, .getfield 34, [], some (eF 11 21)),
  (61, .iload_n 2, [2], none),
  (62, .iaload, [], none),
  (63, .iload_n 3, [3], none),
  (64, .ishr, [], none),
  (65, .iconst 1, [], some (eI 1)),
  (66, .iand, [], none),
  (67, .iconst 1, [], some (eI 1)),
  (68, .if_icmp .ne 12, [80], none),
  (71, .aload_n 0, [0], none),
  (72, .getfield 34, [], some (eF 11 21)),
  (75, .iload_n 3, [3], none),
  (76, .iaload, [], none),
  (77, .goto 4, [81], none),
  (80, .iconst 0, [], some (eI 0)),
  (81, .ior, [], none),
  (82, .iastore, [], none),
  (83, .iinc 3 1, [3], some (eI 1)),
  (86, .goto (-42), [44], none),
  (89, .iinc 2 1, [2], some (eI 1)),
  (92, .goto (-56), [36], none),
  (95, .iinc 1 1, [1], some (eI 1)),
  (98, .goto (-70), [28], none),
  (101, .return_, [], none)]
theorem okRef_laySure : am_mok mRef_laySure kRef_laySure := ⟨by decide +kernel, plRef, by decide +kernel, poRef⟩
def kRef_inRings : List am_E := [(0, .iconst 0, [], some (eI 0)),
  (1, .istore_n 1, [1], none),
  (2, .iconst 0, [], some (eI 0)),
  (3, .istore_n 2, [2], none),
  (4, .iload_n 2, [2], none),
  (5, .bipush 10, [], some (eI 10)),
  (7, .if_icmp .ge 22, [29], none),
  (10, .iload_n 1, [1], none),
  (11, .aload_n 0, [0], none),
  (12, .getfield 34, [], some (eF 11 21)),
  (15, .iload_n 2, [2], none),
  (16, .iaload, [], none),
  (17, .iconst 1, [], some (eI 1)),
  (18, .iload_n 2, [2], none),
  (19, .ishl, [], none),
  (20, .iand, [], none),
  (21, .ior, [], none),
  (22, .istore_n 1, [1], none),
  (23, .iinc 2 1, [2], some (eI 1)),
  (26, .goto (-22), [4], none),
  (29, .iload_n 1, [1], none),
  (30, .ireturn, [], none)]
theorem okRef_inRings : am_mok mRef_inRings kRef_inRings := ⟨by decide +kernel, plRef, by decide +kernel, poRef⟩
def kRef_isIn : List am_E := [(0, .iload_n 0, [0], none),
  (1, .iload_n 1, [1], none),
  (2, .ishr, [], none),
  (3, .iconst 1, [], some (eI 1)),
  (4, .iand, [], none),
  (5, .iconst 1, [], some (eI 1)),
  (6, .if_icmp .ne 7, [13], none),
  (9, .iconst 1, [], some (eI 1)),
  (10, .goto 4, [14], none),
  (13, .iconst 0, [], some (eI 0)),
  (14, .ireturn, [], none)]
theorem okRef_isIn : am_mok mRef_isIn kRef_isIn := ⟨by decide +kernel, plRef, by decide +kernel, poRef⟩
def kRef_isSeen : List am_E := [(0, .aload_n 0, [0], none),
  (1, .iload_n 1, [1], none),
  (2, .invokevirtual 208, [], some (eC 151 2 11)),
  (5, .ifCond .eq 18, [23], none),
  (8, .aload_n 0, [0], none),
  (9, .getfield 193, [], some (eF 11 18)),
  (12, .iload_n 1, [1], none),
  (13, .invokestatic 211, [], some (eC 161 2 0)),
  (16, .ifCond .eq 7, [23], none),
  (19, .iconst 1, [], some (eI 1)),
  (20, .goto 4, [24], none),
  (23, .iconst 0, [], some (eI 0)),
  (24, .ireturn, [], none)]
theorem okRef_isSeen : am_mok mRef_isSeen kRef_isSeen := ⟨by decide +kernel, plRef, by decide +kernel, poRef⟩
def kRef_lack : List am_E := [(0, .aload_n 0, [0], none),
  (1, .getfield 7, [], some (eF 11 2)),
  (4, .iload_n 1, [1], none),
  (5, .iaload, [], none),
  (6, .ifCond .ge 7, [13], none),
  (9, .iconst 1, [], some (eI 1)),
  (10, .goto 28, [38], none),
  (13, .iload_n 2, [2], none),
  (14, .ifCond .lt 19, [33], none),
  (17, .iload_n 2, [2], none),
  (18, .i2l, [], none),
  (19, .iload_n 3, [3], none),
  (20, .i2l, [], none),
  (21, .ladd, [], none),
  (22, .aload_n 0, [0], none),
  (23, .getfield 13, [], some (eF 11 3)),
  (26, .iload_n 1, [1], none),
  (27, .iaload, [], none),
  (28, .i2l, [], none),
  (29, .lcmp, [], none),
  (30, .ifCond .le 7, [37], none),
  (33, .iconst 2, [], some (eI 2)),
  (34, .goto 4, [38], none),
  (37, .iconst 0, [], some (eI 0)),
  (38, .ireturn, [], none)]
theorem okRef_lack : am_mok mRef_lack kRef_lack := ⟨by decide +kernel, plRef, by decide +kernel, poRef⟩
def kRef_lift : List am_E := [(0, .aload_n 0, [0], none),
  (1, .iconst 0, [], some (eI 0)),
  (2, .putfield 56, [], some (eF 11 0)),
  (5, .aload_n 0, [0], none),
  (6, .iload_n 1, [1], none),
  (7, .invokevirtual 215, [], some (eC 150 2 11)),
  (10, .ifCond .eq 23, [33], none),
  (13, .iload_n 2, [2], none),
  (14, .invokestatic 70, [], some (eC 126 1 0)),
  (17, .ifCond .eq 16, [33], none),
  (20, .iload 4, [4], none),
  (22, .i2l, [], none),
  (23, .lconst 1, [], some (eL 1)),
  (24, .ldc2_w 81, [], some (eL 8)),
  (27, .invokestatic 66, [], some (eC 124 3 0)),
  (30, .ifCond .ne 6, [36], none),
  (33, .ldc 76, [], some (eI (-1000001))),
  (35, .ireturn, [], none),
  (36, .aload_n 0, [0], none),
  (37, .getfield 19, [], some (eF 11 5)),
  (40, .iconst 3, [], some (eI 3)),
  (41, .iaload, [], none),
  (42, .bipush 9, [], some (eI 9)),
  (44, .if_icmp .ne 6, [50], none),
  (47, .ldc 86, [], some (eI (-1000003))),
  (49, .ireturn, [], none),
  (50, .aload_n 0, [0], none),
  (51, .iload_n 2, [2], none),
  (52, .iload_n 3, [3], none),
  (53, .iload 4, [4], none),
  (55, .invokevirtual 218, [], some (eC 163 4 11)),
  (58, .istore 5, [5], none),
  (60, .iload 5, [5], none),
  (62, .ifCond .le 10, [72], none),
  (65, .aload_n 0, [0], none),
  (66, .iload 5, [5], none),
  (68, .invokevirtual 77, [], some (eC 125 2 11)),
  (71, .ireturn, [], none),
  (72, .iconst 0, [], some (eI 0)),
  (73, .istore 6, [6], none),
  (75, .iconst 0, [], some (eI 0)),
  (76, .istore 7, [7], none),
  (78, .iload 7, [7], none),
  (80, .iload 4, [4], none),
  (82, .if_icmp .ge 56, [138], none),
  (85, .aload_n 0, [0], none),
  (86, .getfield 16, [], some (eF 11 4)),
  (89, .bipush 40, [], some (eI 40)),
  (91, .iload_n 2, [2], none),
  (92, .imul, [], none),
  (93, .iload_n 3, [3], none),
  (94, .iadd, [], none),
  (95, .iload 7, [7], none),
  (97, .iadd, [], none),
  (98, .iaload, [], none),
  (99, .istore 8, [8], none),
  (101, .aload_n 0, [0], none),
  (102, .iload 8, [8], none),
  (104, .invokevirtual 208, [], some (eC 151 2 11)),
  (107, .ifCond .eq 13, [120], none),
  (110, .iload 6, [6], none),
  (112, .iload 8, [8], none),
  (114, .invokestatic 211, [], some (eC 161 2 0)),
  (117, .ifCond .eq 6, [123], none),
  (120, .ldc 76, [], some (eI (-1000001))),
  (122, .ireturn, [], none),
  (123, .iload 6, [6], none),
  (125, .iconst 1, [], some (eI 1)),
  (126, .iload 8, [8], none),
  (128, .ishl, [], none),
  (129, .ior, [], none),
  (130, .istore 6, [6], none),
  (132, .iinc 7 1, [7], some (eI 1)),
  (135, .goto (-57), [78], none),
  (138, .aload_n 0, [0], none),
  (139, .iconst 0, [], some (eI 0)),
  (140, .putfield 60, [], some (eF 11 1)),
  (143, .bipush 108, [], some (eI 108)),
  (145, .bipush 10, [], some (eI 10)),
  (147, .aload_n 0, [0], none),
  (148, .getfield 19, [], some (eF 11 5)),
  (151, .iconst 3, [], some (eI 3)),
  (152, .iaload, [], none),
  (153, .imul, [], none),
  (154, .iadd, [], none),
  (155, .istore 7, [7], none),
  (157, .aload_n 0, [0], none),
  (158, .getfield 19, [], some (eF 11 5)),
  (161, .iload 7, [7], none),
  (163, .iload_n 1, [1], none),
  (164, .iastore, [], none),
  (165, .aload_n 0, [0], none),
  (166, .getfield 19, [], some (eF 11 5)),
  (169, .iload 7, [7], none),
  (171, .iconst 1, [], some (eI 1)),
  (172, .iadd, [], none),
  (173, .iload 4, [4], none),
  (175, .iastore, [], none),
  (176, .iconst 0, [], some (eI 0)),
  (177, .istore 8, [8], none),
  (179, .iload 8, [8], none),
  (181, .iload 4, [4], none),
  (183, .if_icmp .ge 35, [218], none),
  (186, .aload_n 0, [0], none),
  (187, .getfield 19, [], some (eF 11 5)),
  (190, .iload 7, [7], none),
  (192, .iconst 2, [], some (eI 2)),
  (193, .iadd, [], none),
  (194, .iload 8, [8], none),
  (196, .iadd, [], none),
  (197, .aload_n 0, [0], none),
  (198, .getfield 16, [], some (eF 11 4)),
  (201, .bipush 40, [], some (eI 40)),
  (203, .iload_n 2, [2], none),
  (204, .imul, [], none),
  (205, .iload_n 3, [3], none),
  (206, .iadd, [], none),
  (207, .iload 8, [8], none),
  (209, .iadd, [], none),
  (210, .iaload, [], none),
  (211, .iastore, [], none),
  (212, .iinc 8 1, [8], some (eI 1)),
  (215, .goto (-36), [179], none),
  (218, .aload_n 0, [0], none),
  (219, .getfield 19, [], some (eF 11 5)),
  (222, .iconst 3, [], some (eI 3)),
  (223, .dup2, [], none),
  (224, .iaload, [], none),
  (225, .iconst 1, [], some (eI 1)),
  (226, .iadd, [], none),
  (227, .iastore, [], none),
  (228, .aload_n 0, [0], none),
  (229, .invokevirtual 190, [], some (eC 158 1 11)),
  (232, .aload_n 0, [0], none),
  (233, .getfield 19, [], some (eF 11 5)),
  (236, .iconst 3, [], some (eI 3)),
  (237, .iaload, [], none),
  (238, .iconst 1, [], some (eI 1)),
  (239, .isub, [], none),
  (240, .ireturn, [], none)]
theorem okRef_lift : am_mok mRef_lift kRef_lift := ⟨by decide +kernel, plRef, by decide +kernel, poRef⟩
def kRef_forget : List am_E := [(0, .aload_n 0, [0], none),
  (1, .iconst 0, [], some (eI 0)),
  (2, .putfield 56, [], some (eF 11 0)),
  (5, .aload_n 0, [0], none),
  (6, .getfield 19, [], some (eF 11 5)),
  (9, .iconst 3, [], some (eI 3)),
  (10, .iaload, [], none),
  (11, .ifCond .ne 6, [17], none),
  (14, .ldc 222, [], some (eI (-1000002))),
  (16, .ireturn, [], none),
  (17, .aload_n 0, [0], none),
  (18, .getfield 19, [], some (eF 11 5)),
  (21, .iconst 3, [], some (eI 3)),
  (22, .dup2, [], none),
  (23, .iaload, [], none),
  (24, .iconst 1, [], some (eI 1)),
  (25, .isub, [], none),
  (26, .iastore, [], none),
  (27, .aload_n 0, [0], none),
  (28, .invokevirtual 190, [], some (eC 158 1 11)),
  (31, .aload_n 0, [0], none),
  (32, .getfield 19, [], some (eF 11 5)),
  (35, .iconst 3, [], some (eI 3)),
  (36, .iaload, [], none),
  (37, .ireturn, [], none)]
theorem okRef_forget : am_mok mRef_forget kRef_forget := ⟨by decide +kernel, plRef, by decide +kernel, poRef⟩
def kRef_spot : List am_E := [(0, .aload_n 0, [0], none),
  (1, .iconst 0, [], some (eI 0)),
  (2, .putfield 56, [], some (eF 11 0)),
  (5, .aload_n 0, [0], none),
  (6, .iload_n 1, [1], none),
  (7, .invokevirtual 223, [], some (eC 152 2 11)),
  (10, .ifCond .eq 8, [18], none),
  (13, .iload_n 2, [2], none),
  (14, .iconst (-1), [], some (eI (-1))),
  (15, .if_icmp .ge 6, [21], none),
  (18, .ldc 76, [], some (eI (-1000001))),
  (20, .ireturn, [], none),
  (21, .iload_n 2, [2], none),
  (22, .ifCond .ge 11, [33], none),
  (25, .aload_n 0, [0], none),
  (26, .iload_n 1, [1], none),
  (27, .invokevirtual 202, [], some (eC 156 2 11)),
  (30, .goto 23, [53], none),
  (33, .iload_n 2, [2], none),
  (34, .aload_n 0, [0], none),
  (35, .iload_n 1, [1], none),
  (36, .invokevirtual 196, [], some (eC 157 2 11)),
  (39, .if_icmp .ge 12, [51], none),
  (42, .aload_n 0, [0], none),
  (43, .iload_n 1, [1], none),
  (44, .iload_n 2, [2], none),
  (45, .invokevirtual 199, [], some (eC 155 3 11)),
  (48, .goto 5, [53], none),
  (51, .ldc 92, [], some (eI (-1000000))),
  (53, .ireturn, [], none)]
theorem okRef_spot : am_mok mRef_spot kRef_spot := ⟨by decide +kernel, plRef, by decide +kernel, poRef⟩
def kRef_papers : List am_E := [(0, .aload_n 0, [0], none),
  (1, .iconst 0, [], some (eI 0)),
  (2, .putfield 56, [], some (eF 11 0)),
  (5, .aload_n 0, [0], none),
  (6, .getfield 186, [], some (eF 11 7)),
  (9, .ifCond .ne 6, [15], none),
  (12, .ldc 222, [], some (eI (-1000002))),
  (14, .ireturn, [], none),
  (15, .iload_n 1, [1], none),
  (16, .ifCond .eq 8, [24], none),
  (19, .iload_n 1, [1], none),
  (20, .iconst 1, [], some (eI 1)),
  (21, .if_icmp .ne 19, [40], none),
  (24, .iload_n 1, [1], none),
  (25, .ifCond .ne 10, [35], none),
  (28, .aload_n 0, [0], none),
  (29, .getfield 193, [], some (eF 11 18)),
  (32, .goto 7, [39], none),
  (35, .aload_n 0, [0], none),
  (36, .invokevirtual 226, [], some (eC 160 1 11)),
  (39, .ireturn, [], none),
  (40, .aload_n 0, [0], none),
  (41, .iload_n 1, [1], none),
  (42, .bipush 10, [], some (eI 10)),
  (44, .isub, [], none),
  (45, .invokevirtual 208, [], some (eC 151 2 11)),
  (48, .ifCond .eq 15, [63], none),
  (51, .aload_n 0, [0], none),
  (52, .getfield 34, [], some (eF 11 21)),
  (55, .iload_n 1, [1], none),
  (56, .bipush 10, [], some (eI 10)),
  (58, .isub, [], none),
  (59, .iaload, [], none),
  (60, .goto 28, [88], none),
  (63, .aload_n 0, [0], none),
  (64, .iload_n 1, [1], none),
  (65, .bipush 30, [], some (eI 30)),
  (67, .isub, [], none),
  (68, .invokevirtual 215, [], some (eC 150 2 11)),
  (71, .ifCond .eq 15, [86], none),
  (74, .aload_n 0, [0], none),
  (75, .getfield 28, [], some (eF 11 19)),
  (78, .iload_n 1, [1], none),
  (79, .bipush 30, [], some (eI 30)),
  (81, .isub, [], none),
  (82, .iaload, [], none),
  (83, .goto 5, [88], none),
  (86, .ldc 76, [], some (eI (-1000001))),
  (88, .ireturn, [], none)]
theorem okRef_papers : am_mok mRef_papers kRef_papers := ⟨by decide +kernel, plRef, by decide +kernel, poRef⟩
def kRef_paper : List am_E := [(0, .aload_n 0, [0], none),
  (1, .iconst 0, [], some (eI 0)),
  (2, .putfield 56, [], some (eF 11 0)),
  (5, .aload_n 0, [0], none),
  (6, .iload_n 1, [1], none),
  (7, .invokevirtual 208, [], some (eC 151 2 11)),
  (10, .ifCond .eq 26, [36], none),
  (13, .iload_n 2, [2], none),
  (14, .i2l, [], none),
  (15, .lconst 0, [], some (eL 0)),
  (16, .ldc2_w 229, [], some (eL 3)),
  (19, .invokestatic 66, [], some (eC 124 3 0)),
  (22, .ifCond .eq 14, [36], none),
  (25, .aload_n 0, [0], none),
  (26, .iload_n 1, [1], none),
  (27, .iconst 1, [], some (eI 1)),
  (28, .iload_n 2, [2], none),
  (29, .iadd, [], none),
  (30, .invokevirtual 231, [], some (eC 154 3 11)),
  (33, .goto 5, [38], none),
  (36, .ldc 76, [], some (eI (-1000001))),
  (38, .ireturn, [], none)]
theorem okRef_paper : am_mok mRef_paper kRef_paper := ⟨by decide +kernel, plRef, by decide +kernel, poRef⟩
def kRef_ordersWith : List am_E := [(0, .iconst 0, [], some (eI 0)),
  (1, .istore_n 3, [3], none),
  (2, .iload_n 3, [3], none),
  (3, .sipush 1024, [], some (eI 1024)),
  (6, .if_icmp .ge 145, [151], none),
  (9, .aload_n 0, [0], none),
  (10, .getfield 37, [], some (eF 11 22)),
  (13, .iload_n 3, [3], none),
  (14, .iload_n 3, [3], none),
  (15, .ifCond .ne 7, [22], none),
  (18, .iconst 1, [], some (eI 1)),
  (19, .goto 4, [23], none),
  (22, .iconst 0, [], some (eI 0)),
  (23, .iastore, [], none),
  (24, .iconst 0, [], some (eI 0)),
  (25, .istore 4, [4], none),
  (27, .iload 4, [4], none),
  (29, .bipush 10, [], some (eI 10)),
  (31, .if_icmp .ge 114, [145], none),
  (34, .iload_n 3, [3], none),
  (35, .ifCond .le 110, [145], none),
  (38, .iload_n 3, [3], none),
  (39, .aload_n 0, [0], none),
  (40, .getfield 193, [], some (eF 11 18)),
  (43, .iconst (-1), [], some (eI (-1))),
  (44, .ixor, [], none),
  (45, .iand, [], none),
  (46, .ifCond .ne 99, [145], none),
  (49, .aload_n 0, [0], none),
  (50, .getfield 31, [], some (eF 11 20)),
  (53, .iload 4, [4], none),
  (55, .iaload, [], none),
  (56, .iload 4, [4], none),
  (58, .iload_n 2, [2], none),
  (59, .if_icmp .ne 13, [72], none),
  (62, .iload_n 1, [1], none),
  (63, .ifCond .lt 9, [72], none),
  (66, .iconst 1, [], some (eI 1)),
  (67, .iload_n 1, [1], none),
  (68, .ishl, [], none),
  (69, .goto 4, [73], none),
  (72, .iconst 0, [], some (eI 0)),
  (73, .ior, [], none),
  (74, .istore 5, [5], none),
  (76, .iload_n 3, [3], none),
  (77, .iload 4, [4], none),
  (79, .invokestatic 211, [], some (eC 161 2 0)),
  (82, .ifCond .eq 23, [105], none),
  (85, .iload 5, [5], none),
  (87, .iload_n 3, [3], none),
  (88, .iconst 1, [], some (eI 1)),
  (89, .iload 4, [4], none),
  (91, .ishl, [], none),
  (92, .iconst (-1), [], some (eI (-1))),
  (93, .ixor, [], none),
  (94, .iand, [], none),
  (95, .iconst (-1), [], some (eI (-1))),
  (96, .ixor, [], none),
  (97, .iand, [], none),
  (98, .ifCond .ne 7, [105], none),
  (101, .iconst 1, [], some (eI 1)),
  (102, .goto 4, [106], none),
  (105, .iconst 0, [], some (eI 0)),
  (106, .istore 6, [6], none),
  (108, .aload_n 0, [0], none),
  (109, .getfield 37, [], some (eF 11 22)),
  (112, .iload_n 3, [3], none),
  (113, .dup2, [], none),
  (114, .iaload, [], none),
  (115, .iload 6, [6], none),
  (117, .ifCond .eq 19, [136], none),
  (120, .aload_n 0, [0], none),
  (121, .getfield 37, [], some (eF 11 22)),
  (124, .iload_n 3, [3], none),
  (125, .iconst 1, [], some (eI 1)),
  (126, .iload 4, [4], none),
  (128, .ishl, [], none),
  (129, .iconst (-1), [], some (eI (-1))),
  (130, .ixor, [], none),
  (131, .iand, [], none),
  (132, .iaload, [], none),
  (133, .goto 4, [137], none),
  (136, .iconst 0, [], some (eI 0)),
  (137, .iadd, [], none),
  (138, .iastore, [], none),
  (139, .iinc 4 1, [4], some (eI 1)),
  (142, .goto (-115), [27], none),
  (145, .iinc 3 1, [3], some (eI 1)),
  (148, .goto (-146), [2], none),
  (151, .aload_n 0, [0], none),
  (152, .getfield 37, [], some (eF 11 22)),
  (155, .aload_n 0, [0], none),
  (156, .getfield 193, [], some (eF 11 18)),
  (159, .iaload, [], none),
  (160, .ireturn, [], none)]
theorem okRef_ordersWith : am_mok mRef_ordersWith kRef_ordersWith := ⟨by decide +kernel, plRef, by decide +kernel, poRef⟩
def kRef_orders : List am_E := [(0, .aload_n 0, [0], none),
  (1, .iconst 0, [], some (eI 0)),
  (2, .putfield 56, [], some (eF 11 0)),
  (5, .aload_n 0, [0], none),
  (6, .getfield 186, [], some (eF 11 7)),
  (9, .ifCond .eq 12, [21], none),
  (12, .aload_n 0, [0], none),
  (13, .iconst (-1), [], some (eI (-1))),
  (14, .iconst (-1), [], some (eI (-1))),
  (15, .invokevirtual 234, [], some (eC 169 3 11)),
  (18, .goto 5, [23], none),
  (21, .ldc 222, [], some (eI (-1000002))),
  (23, .ireturn, [], none)]
theorem okRef_orders : am_mok mRef_orders kRef_orders := ⟨by decide +kernel, plRef, by decide +kernel, poRef⟩
def kRef_first : List am_E := [(0, .aload_n 0, [0], none),
  (1, .iconst 0, [], some (eI 0)),
  (2, .putfield 56, [], some (eF 11 0)),
  (5, .aload_n 0, [0], none),
  (6, .getfield 186, [], some (eF 11 7)),
  (9, .ifCond .ne 6, [15], none),
  (12, .ldc 222, [], some (eI (-1000002))),
  (14, .ireturn, [], none),
  (15, .iload_n 1, [1], none),
  (16, .ifCond .ge 6, [22], none),
  (19, .ldc 76, [], some (eI (-1000001))),
  (21, .ireturn, [], none),
  (22, .aload_n 0, [0], none),
  (23, .invokevirtual 226, [], some (eC 160 1 11)),
  (26, .ifCond .eq 6, [32], none),
  (29, .ldc 92, [], some (eI (-1000000))),
  (31, .ireturn, [], none),
  (32, .iconst 0, [], some (eI 0)),
  (33, .istore_n 2, [2], none),
  (34, .iconst 0, [], some (eI 0)),
  (35, .istore_n 3, [3], none),
  (36, .iload_n 2, [2], none),
  (37, .aload_n 0, [0], none),
  (38, .getfield 193, [], some (eF 11 18)),
  (41, .if_icmp .eq 63, [104], none),
  (44, .iconst 0, [], some (eI 0)),
  (45, .istore 4, [4], none),
  (47, .aload_n 0, [0], none),
  (48, .getfield 193, [], some (eF 11 18)),
  (51, .iload_n 2, [2], none),
  (52, .iconst (-1), [], some (eI (-1))),
  (53, .ixor, [], none),
  (54, .iand, [], none),
  (55, .iload 4, [4], none),
  (57, .invokestatic 211, [], some (eC 161 2 0)),
  (60, .ifCond .eq 17, [77], none),
  (63, .aload_n 0, [0], none),
  (64, .getfield 31, [], some (eF 11 20)),
  (67, .iload 4, [4], none),
  (69, .iaload, [], none),
  (70, .iload_n 2, [2], none),
  (71, .iconst (-1), [], some (eI (-1))),
  (72, .ixor, [], none),
  (73, .iand, [], none),
  (74, .ifCond .eq 9, [83], none),
  (77, .iinc 4 1, [4], some (eI 1)),
  (80, .goto (-33), [47], none),
  (83, .iload_n 3, [3], none),
  (84, .iload_n 1, [1], none),
  (85, .if_icmp .ne 6, [91], none),
  (88, .iload 4, [4], none),
  (90, .ireturn, [], none),
  (91, .iload_n 2, [2], none),
  (92, .iconst 1, [], some (eI 1)),
  (93, .iload 4, [4], none),
  (95, .ishl, [], none),
  (96, .ior, [], none),
  (97, .istore_n 2, [2], none),
  (98, .iinc 3 1, [3], some (eI 1)),
  (101, .goto (-65), [36], none),
  (104, .ldc 92, [], some (eI (-1000000))),
  (106, .ireturn, [], none)]
theorem okRef_first : am_mok mRef_first kRef_first := ⟨by decide +kernel, plRef, by decide +kernel, poRef⟩
def kRef_divisor : List am_E := [(0, .iload_n 0, [0], none),
  (1, .istore_n 2, [2], none),
  (2, .iload_n 1, [1], none),
  (3, .istore_n 3, [3], none),
  (4, .iload_n 3, [3], none),
  (5, .ifCond .eq 16, [21], none),
  (8, .iload_n 2, [2], none),
  (9, .iload_n 3, [3], none),
  (10, .irem, [], none),
  (11, .istore 4, [4], none),
  (13, .iload_n 3, [3], none),
  (14, .istore_n 2, [2], none),
  (15, .iload 4, [4], none),
  (17, .istore_n 3, [3], none),
  (18, .goto (-14), [4], none),
  (21, .iload_n 2, [2], none),
  (22, .ireturn, [], none)]
theorem okRef_divisor : am_mok mRef_divisor kRef_divisor := ⟨by decide +kernel, plRef, by decide +kernel, poRef⟩
def kRef_odds : List am_E := [(0, .aload_n 0, [0], none),
  (1, .iconst 0, [], some (eI 0)),
  (2, .putfield 56, [], some (eF 11 0)),
  (5, .aload_n 0, [0], none),
  (6, .iload_n 1, [1], none),
  (7, .invokevirtual 237, [], some (eC 162 2 11)),
  (10, .ifCond .eq 26, [36], none),
  (13, .aload_n 0, [0], none),
  (14, .iload_n 2, [2], none),
  (15, .invokevirtual 237, [], some (eC 162 2 11)),
  (18, .ifCond .eq 18, [36], none),
  (21, .iload_n 1, [1], none),
  (22, .iload_n 2, [2], none),
  (23, .if_icmp .eq 13, [36], none),
  (26, .iload_n 3, [3], none),
  (27, .i2l, [], none),
  (28, .lconst 0, [], some (eL 0)),
  (29, .lconst 1, [], some (eL 1)),
  (30, .invokestatic 66, [], some (eC 124 3 0)),
  (33, .ifCond .ne 6, [39], none),
  (36, .ldc 76, [], some (eI (-1000001))),
  (38, .ireturn, [], none),
  (39, .aload_n 0, [0], none),
  (40, .invokevirtual 226, [], some (eC 160 1 11)),
  (43, .ifCond .eq 6, [49], none),
  (46, .ldc 222, [], some (eI (-1000002))),
  (48, .ireturn, [], none),
  (49, .aload_n 0, [0], none),
  (50, .iconst (-1), [], some (eI (-1))),
  (51, .iconst (-1), [], some (eI (-1))),
  (52, .invokevirtual 234, [], some (eC 169 3 11)),
  (55, .istore 4, [4], none),
  (57, .aload_n 0, [0], none),
  (58, .iload_n 1, [1], none),
  (59, .iload_n 2, [2], none),
  (60, .invokevirtual 234, [], some (eC 169 3 11)),
  (63, .istore 5, [5], none),
  (65, .iload_n 3, [3], none),
  (66, .ifCond .ne 8, [74], none),
  (69, .iload 5, [5], none),
  (71, .goto 5, [76], none),
  (74, .iload 4, [4], none),
  (76, .iload 5, [5], none),
  (78, .iload 4, [4], none),
  (80, .invokestatic 240, [], some (eC 172 2 0)),
  (83, .idiv, [], none),
  (84, .ireturn, [], none)]
theorem okRef_odds : am_mok mRef_odds kRef_odds := ⟨by decide +kernel, plRef, by decide +kernel, poRef⟩
def kRef_next : List am_E := [(0, .aload_n 0, [0], none),
  (1, .iconst 0, [], some (eI 0)),
  (2, .putfield 56, [], some (eF 11 0)),
  (5, .aload_n 0, [0], none),
  (6, .getfield 186, [], some (eF 11 7)),
  (9, .ifCond .eq 10, [19], none),
  (12, .aload_n 0, [0], none),
  (13, .invokevirtual 226, [], some (eC 160 1 11)),
  (16, .ifCond .eq 6, [22], none),
  (19, .ldc 222, [], some (eI (-1000002))),
  (21, .ireturn, [], none),
  (22, .aload_n 0, [0], none),
  (23, .iconst (-1), [], some (eI (-1))),
  (24, .iconst (-1), [], some (eI (-1))),
  (25, .invokevirtual 234, [], some (eC 169 3 11)),
  (28, .istore_n 1, [1], none),
  (29, .ldc 92, [], some (eI (-1000000))),
  (31, .istore_n 2, [2], none),
  (32, .iconst 0, [], some (eI 0)),
  (33, .istore_n 3, [3], none),
  (34, .iconst 0, [], some (eI 0)),
  (35, .istore 4, [4], none),
  (37, .iload 4, [4], none),
  (39, .bipush 10, [], some (eI 10)),
  (41, .if_icmp .ge 161, [202], none),
  (44, .iload 4, [4], none),
  (46, .iconst 1, [], some (eI 1)),
  (47, .iadd, [], none),
  (48, .istore 5, [5], none),
  (50, .iload 5, [5], none),
  (52, .bipush 10, [], some (eI 10)),
  (54, .if_icmp .ge 142, [196], none),
  (57, .aload_n 0, [0], none),
  (58, .getfield 193, [], some (eF 11 18)),
  (61, .iload 4, [4], none),
  (63, .invokestatic 211, [], some (eC 161 2 0)),
  (66, .ifCond .eq 124, [190], none),
  (69, .aload_n 0, [0], none),
  (70, .getfield 193, [], some (eF 11 18)),
  (73, .iload 5, [5], none),
  (75, .invokestatic 211, [], some (eC 161 2 0)),
  (78, .ifCond .eq 112, [190], none),
  (81, .aload_n 0, [0], none),
  (82, .getfield 34, [], some (eF 11 21)),
  (85, .iload 4, [4], none),
  (87, .iaload, [], none),
  (88, .iload 5, [5], none),
  (90, .invokestatic 211, [], some (eC 161 2 0)),
  (93, .ifCond .ne 97, [190], none),
  (96, .aload_n 0, [0], none),
  (97, .getfield 34, [], some (eF 11 21)),
  (100, .iload 5, [5], none),
  (102, .iaload, [], none),
  (103, .iload 4, [4], none),
  (105, .invokestatic 211, [], some (eC 161 2 0)),
  (108, .ifCond .ne 82, [190], none),
  (111, .aload_n 0, [0], none),
  (112, .iload 4, [4], none),
  (114, .iload 5, [5], none),
  (116, .invokevirtual 234, [], some (eC 169 3 11)),
  (119, .istore 6, [6], none),
  (121, .iload 6, [6], none),
  (123, .iload_n 1, [1], none),
  (124, .iload 6, [6], none),
  (126, .isub, [], none),
  (127, .if_icmp .le 8, [135], none),
  (130, .iload 6, [6], none),
  (132, .goto 7, [139], none),
  (135, .iload_n 1, [1], none),
  (136, .iload 6, [6], none),
  (138, .isub, [], none),
  (139, .istore 7, [7], none),
  (141, .iload_n 2, [2], none),
  (142, .ldc 92, [], some (eI (-1000000))),
  (144, .if_icmp .eq 9, [153], none),
  (147, .iload 7, [7], none),
  (149, .iload_n 3, [3], none),
  (150, .if_icmp .ge 7, [157], none),
  (153, .iconst 1, [], some (eI 1)),
  (154, .goto 4, [158], none),
  (157, .iconst 0, [], some (eI 0)),
  (158, .istore 8, [8], none),
  (160, .iload 8, [8], none),
  (162, .ifCond .eq 14, [176], none),
  (165, .bipush 10, [], some (eI 10)),
  (167, .iload 4, [4], none),
  (169, .imul, [], none),
  (170, .iload 5, [5], none),
  (172, .iadd, [], none),
  (173, .goto 4, [177], none),
  (176, .iload_n 2, [2], none),
  (177, .istore_n 2, [2], none),
  (178, .iload 8, [8], none),
  (180, .ifCond .eq 8, [188], none),
  (183, .iload 7, [7], none),
  (185, .goto 4, [189], none),
  (188, .iload_n 3, [3], none),
  (189, .istore_n 3, [3], none),
  (190, .iinc 5 1, [5], some (eI 1)),
  (193, .goto (-143), [50], none),
  (196, .iinc 4 1, [4], some (eI 1)),
  (199, .goto (-162), [37], none),
  (202, .iload_n 2, [2], none),
  (203, .ireturn, [], none)]
theorem okRef_next : am_mok mRef_next kRef_next := ⟨by decide +kernel, plRef, by decide +kernel, poRef⟩
def kRef_layYears : List am_E := [(0, .iconst 0, [], some (eI 0)),
  (1, .istore_n 1, [1], none),
  (2, .iload_n 1, [1], none),
  (3, .aload_n 0, [0], none),
  (4, .getfield 19, [], some (eF 11 5)),
  (7, .iconst 1, [], some (eI 1)),
  (8, .iaload, [], none),
  (9, .if_icmp .ge 136, [145], none),
  (12, .aload_n 0, [0], none),
  (13, .iload_n 1, [1], none),
  (14, .iconst 0, [], some (eI 0)),
  (15, .invokevirtual 231, [], some (eC 154 3 11)),
  (18, .iconst 3, [], some (eI 3)),
  (19, .if_icmp .eq 13, [32], none),
  (22, .aload_n 0, [0], none),
  (23, .iload_n 1, [1], none),
  (24, .iconst 0, [], some (eI 0)),
  (25, .invokevirtual 231, [], some (eC 154 3 11)),
  (28, .iconst 2, [], some (eI 2)),
  (29, .if_icmp .ne 7, [36], none),
  (32, .iconst 1, [], some (eI 1)),
  (33, .goto 4, [37], none),
  (36, .iconst 0, [], some (eI 0)),
  (37, .istore_n 2, [2], none),
  (38, .aload_n 0, [0], none),
  (39, .getfield 40, [], some (eF 11 23)),
  (42, .iload_n 1, [1], none),
  (43, .aload_n 0, [0], none),
  (44, .iload_n 1, [1], none),
  (45, .iconst 1, [], some (eI 1)),
  (46, .invokevirtual 231, [], some (eC 154 3 11)),
  (49, .iastore, [], none),
  (50, .aload_n 0, [0], none),
  (51, .getfield 43, [], some (eF 11 24)),
  (54, .iload_n 1, [1], none),
  (55, .iload_n 2, [2], none),
  (56, .ifCond .eq 12, [68], none),
  (59, .aload_n 0, [0], none),
  (60, .iload_n 1, [1], none),
  (61, .iconst 2, [], some (eI 2)),
  (62, .invokevirtual 231, [], some (eC 154 3 11)),
  (65, .goto 6, [71], none),
  (68, .sipush 1999, [], some (eI 1999)),
  (71, .iastore, [], none),
  (72, .iconst 0, [], some (eI 0)),
  (73, .istore_n 3, [3], none),
  (74, .iload_n 3, [3], none),
  (75, .aload_n 0, [0], none),
  (76, .getfield 19, [], some (eF 11 5)),
  (79, .iconst 0, [], some (eI 0)),
  (80, .iaload, [], none),
  (81, .if_icmp .ge 58, [139], none),
  (84, .aload_n 0, [0], none),
  (85, .getfield 40, [], some (eF 11 23)),
  (88, .iload_n 1, [1], none),
  (89, .aload_n 0, [0], none),
  (90, .getfield 28, [], some (eF 11 19)),
  (93, .iload_n 3, [3], none),
  (94, .iaload, [], none),
  (95, .iload_n 1, [1], none),
  (96, .invokestatic 211, [], some (eC 161 2 0)),
  (99, .ifCond .eq 27, [126], none),
  (102, .aload_n 0, [0], none),
  (103, .iload_n 3, [3], none),
  (104, .iconst 0, [], some (eI 0)),
  (105, .invokevirtual 243, [], some (eC 153 3 11)),
  (108, .aload_n 0, [0], none),
  (109, .getfield 40, [], some (eF 11 23)),
  (112, .iload_n 1, [1], none),
  (113, .iaload, [], none),
  (114, .if_icmp .le 12, [126], none),
  (117, .aload_n 0, [0], none),
  (118, .iload_n 3, [3], none),
  (119, .iconst 0, [], some (eI 0)),
  (120, .invokevirtual 243, [], some (eC 153 3 11)),
  (123, .goto 9, [132], none),
  (126, .aload_n 0, [0], none),
  (127, .getfield 40, [], some (eF 11 23)),
  (130, .iload_n 1, [1], none),
  (131, .iaload, [], none),
  (132, .iastore, [], none),
  (133, .iinc 3 1, [3], some (eI 1)),
  (136, .goto (-62), [74], none),
  (139, .iinc 1 1, [1], some (eI 1)),
  (142, .goto (-140), [2], none),
  (145, .iconst 0, [], some (eI 0)),
  (146, .istore_n 1, [1], none),
  (147, .iload_n 1, [1], none),
  (148, .bipush 10, [], some (eI 10)),
  (150, .if_icmp .ge 130, [280], none),
  (153, .iconst 0, [], some (eI 0)),
  (154, .istore_n 2, [2], none),
  (155, .iload_n 2, [2], none),
  (156, .bipush 10, [], some (eI 10)),
  (158, .if_icmp .ge 116, [274], none),
  (161, .iconst 0, [], some (eI 0)),
  (162, .istore_n 3, [3], none),
  (163, .iload_n 3, [3], none),
  (164, .bipush 10, [], some (eI 10)),
  (166, .if_icmp .ge 102, [268], none),
  (169, .aload_n 0, [0], none),
  (170, .getfield 31, [], some (eF 11 20)),
  (173, .iload_n 2, [2], none),
  (174, .iaload, [], none),
  (175, .iload_n 3, [3], none),
  (176, .invokestatic 211, [], some (eC 161 2 0)),
  (179, .ifCond .eq 83, [262], none),
  (182, .aload_n 0, [0], none),
  (183, .getfield 40, [], some (eF 11 23)),
  (186, .iload_n 2, [2], none),
  (187, .aload_n 0, [0], none),
  (188, .getfield 40, [], some (eF 11 23)),
  (191, .iload_n 3, [3], none),
  (192, .iaload, [], none),
  (193, .iconst 1, [], some (eI 1)),
  (194, .iadd, [], none),
  (195, .aload_n 0, [0], none),
  (196, .getfield 40, [], some (eF 11 23)),
  (199, .iload_n 2, [2], none),
  (200, .iaload, [], none),
  (201, .if_icmp .le 14, [215], none),
  (204, .aload_n 0, [0], none),
  (205, .getfield 40, [], some (eF 11 23)),
  (208, .iload_n 3, [3], none),
  (209, .iaload, [], none),
  (210, .iconst 1, [], some (eI 1)),
  (211, .iadd, [], none),
  (212, .goto 9, [221], none),
  (215, .aload_n 0, [0], none),
  (216, .getfield 40, [], some (eF 11 23)),
  (219, .iload_n 2, [2], none),
  (220, .iaload, [], none),
  (221, .iastore, [], none),
  (222, .aload_n 0, [0], none),
  (223, .getfield 43, [], some (eF 11 24)),
  (226, .iload_n 3, [3], none),
  (227, .aload_n 0, [0], none),
  (228, .getfield 43, [], some (eF 11 24)),
  (231, .iload_n 2, [2], none),
  (232, .iaload, [], none),
  (233, .iconst 1, [], some (eI 1)),
  (234, .isub, [], none),
  (235, .aload_n 0, [0], none),
  (236, .getfield 43, [], some (eF 11 24)),
  (239, .iload_n 3, [3], none),
  (240, .iaload, [], none),
  (241, .if_icmp .ge 14, [255], none),
  (244, .aload_n 0, [0], none),
  (245, .getfield 43, [], some (eF 11 24)),
  (248, .iload_n 2, [2], none),
  (249, .iaload, [], none),
  (250, .iconst 1, [], some (eI 1)),
  (251, .isub, [], none),
  (252, .goto 9, [261], none),
  (255, .aload_n 0, [0], none),
  (256, .getfield 43, [], some (eF 11 24)),
  (259, .iload_n 3, [3], none),
  (260, .iaload, [], none),
  (261, .iastore, [], none),
  (262, .iinc 3 1, [3], some (eI 1)),
  (265, .goto (-102), [163], none),
  (268, .iinc 2 1, [2], some (eI 1)),
  (271, .goto (-116), [155], none),
  (274, .iinc 1 1, [1], some (eI 1)),
  (277, .goto (-130), [147], none),
  (280, .return_, [], none)]
theorem okRef_layYears : am_mok mRef_layYears kRef_layYears := ⟨by decide +kernel, plRef, by decide +kernel, poRef⟩
def kRef_years : List am_E := [(0, .aload_n 0, [0], none),
  (1, .iconst 0, [], some (eI 0)),
  (2, .putfield 56, [], some (eF 11 0)),
  (5, .aload_n 0, [0], none),
  (6, .iload_n 1, [1], none),
  (7, .invokevirtual 237, [], some (eC 162 2 11)),
  (10, .ifCond .eq 15, [25], none),
  (13, .iload_n 2, [2], none),
  (14, .i2l, [], none),
  (15, .lconst 0, [], some (eL 0)),
  (16, .ldc2_w 74, [], some (eL 2)),
  (19, .invokestatic 66, [], some (eC 124 3 0)),
  (22, .ifCond .ne 6, [28], none),
  (25, .ldc 76, [], some (eI (-1000001))),
  (27, .ireturn, [], none),
  (28, .aload_n 0, [0], none),
  (29, .invokevirtual 226, [], some (eC 160 1 11)),
  (32, .ifCond .eq 6, [38], none),
  (35, .ldc 222, [], some (eI (-1000002))),
  (37, .ireturn, [], none),
  (38, .aload_n 0, [0], none),
  (39, .invokevirtual 246, [], some (eC 175 1 11)),
  (42, .iload_n 2, [2], none),
  (43, .ifCond .ne 12, [55], none),
  (46, .aload_n 0, [0], none),
  (47, .getfield 40, [], some (eF 11 23)),
  (50, .iload_n 1, [1], none),
  (51, .iaload, [], none),
  (52, .goto 37, [89], none),
  (55, .iload_n 2, [2], none),
  (56, .iconst 1, [], some (eI 1)),
  (57, .if_icmp .ne 12, [69], none),
  (60, .aload_n 0, [0], none),
  (61, .getfield 43, [], some (eF 11 24)),
  (64, .iload_n 1, [1], none),
  (65, .iaload, [], none),
  (66, .goto 23, [89], none),
  (69, .aload_n 0, [0], none),
  (70, .getfield 40, [], some (eF 11 23)),
  (73, .iload_n 1, [1], none),
  (74, .iaload, [], none),
  (75, .aload_n 0, [0], none),
  (76, .getfield 43, [], some (eF 11 24)),
  (79, .iload_n 1, [1], none),
  (80, .iaload, [], none),
  (81, .if_icmp .le 7, [88], none),
  (84, .iconst 1, [], some (eI 1)),
  (85, .goto 4, [89], none),
  (88, .iconst 0, [], some (eI 0)),
  (89, .ireturn, [], none)]
theorem okRef_years : am_mok mRef_years kRef_years := ⟨by decide +kernel, plRef, by decide +kernel, poRef⟩
def kRef_younger : List am_E := [(0, .aload_n 0, [0], none),
  (1, .iconst 0, [], some (eI 0)),
  (2, .putfield 56, [], some (eF 11 0)),
  (5, .aload_n 0, [0], none),
  (6, .iload_n 1, [1], none),
  (7, .invokevirtual 215, [], some (eC 150 2 11)),
  (10, .ifCond .eq 16, [26], none),
  (13, .aload_n 0, [0], none),
  (14, .iload_n 2, [2], none),
  (15, .invokevirtual 215, [], some (eC 150 2 11)),
  (18, .ifCond .eq 8, [26], none),
  (21, .iload_n 1, [1], none),
  (22, .iload_n 2, [2], none),
  (23, .if_icmp .ne 6, [29], none),
  (26, .ldc 76, [], some (eI (-1000001))),
  (28, .ireturn, [], none),
  (29, .aload_n 0, [0], none),
  (30, .invokevirtual 226, [], some (eC 160 1 11)),
  (33, .ifCond .eq 6, [39], none),
  (36, .ldc 222, [], some (eI (-1000002))),
  (38, .ireturn, [], none),
  (39, .aload_n 0, [0], none),
  (40, .invokevirtual 246, [], some (eC 175 1 11)),
  (43, .iconst 0, [], some (eI 0)),
  (44, .istore_n 3, [3], none),
  (45, .iconst 0, [], some (eI 0)),
  (46, .istore 4, [4], none),
  (48, .iload 4, [4], none),
  (50, .aload_n 0, [0], none),
  (51, .getfield 19, [], some (eF 11 5)),
  (54, .iconst 3, [], some (eI 3)),
  (55, .iaload, [], none),
  (56, .if_icmp .ge 50, [106], none),
  (59, .iload_n 3, [3], none),
  (60, .ifCond .ne 34, [94], none),
  (63, .aload_n 0, [0], none),
  (64, .iload 4, [4], none),
  (66, .invokevirtual 202, [], some (eC 156 2 11)),
  (69, .iload_n 2, [2], none),
  (70, .if_icmp .ne 28, [98], none),
  (73, .aload_n 0, [0], none),
  (74, .getfield 43, [], some (eF 11 24)),
  (77, .aload_n 0, [0], none),
  (78, .iload 4, [4], none),
  (80, .iconst 0, [], some (eI 0)),
  (81, .invokevirtual 199, [], some (eC 155 3 11)),
  (84, .iaload, [], none),
  (85, .aload_n 0, [0], none),
  (86, .iload_n 1, [1], none),
  (87, .iconst 0, [], some (eI 0)),
  (88, .invokevirtual 243, [], some (eC 153 3 11)),
  (91, .if_icmp .ge 7, [98], none),
  (94, .iconst 1, [], some (eI 1)),
  (95, .goto 4, [99], none),
  (98, .iconst 0, [], some (eI 0)),
  (99, .istore_n 3, [3], none),
  (100, .iinc 4 1, [4], some (eI 1)),
  (103, .goto (-55), [48], none),
  (106, .iload_n 3, [3], none),
  (107, .ifCond .eq 7, [114], none),
  (110, .iconst 1, [], some (eI 1)),
  (111, .goto 4, [115], none),
  (114, .iconst 0, [], some (eI 0)),
  (115, .ireturn, [], none)]
theorem okRef_younger : am_mok mRef_younger kRef_younger := ⟨by decide +kernel, plRef, by decide +kernel, poRef⟩
def kRef_lacks : List am_E := [(0, .aload_n 0, [0], none),
  (1, .iconst 0, [], some (eI 0)),
  (2, .putfield 56, [], some (eF 11 0)),
  (5, .aload_n 0, [0], none),
  (6, .iload_n 1, [1], none),
  (7, .invokevirtual 215, [], some (eC 150 2 11)),
  (10, .ifCond .eq 13, [23], none),
  (13, .iload_n 2, [2], none),
  (14, .i2l, [], none),
  (15, .lconst 0, [], some (eL 0)),
  (16, .lconst 1, [], some (eL 1)),
  (17, .invokestatic 66, [], some (eC 124 3 0)),
  (20, .ifCond .ne 6, [26], none),
  (23, .ldc 76, [], some (eI (-1000001))),
  (25, .ireturn, [], none),
  (26, .aload_n 0, [0], none),
  (27, .invokevirtual 226, [], some (eC 160 1 11)),
  (30, .ifCond .eq 6, [36], none),
  (33, .ldc 222, [], some (eI (-1000002))),
  (35, .ireturn, [], none),
  (36, .aload_n 0, [0], none),
  (37, .invokevirtual 246, [], some (eC 175 1 11)),
  (40, .iconst 0, [], some (eI 0)),
  (41, .istore_n 3, [3], none),
  (42, .iconst 0, [], some (eI 0)),
  (43, .istore 4, [4], none),
  (45, .iload 4, [4], none),
  (47, .bipush 10, [], some (eI 10)),
  (49, .if_icmp .ge 167, [216], none),
  (52, .aload_n 0, [0], none),
  (53, .getfield 193, [], some (eF 11 18)),
  (56, .aload_n 0, [0], none),
  (57, .getfield 28, [], some (eF 11 19)),
  (60, .iload_n 1, [1], none),
  (61, .iaload, [], none),
  (62, .iconst (-1), [], some (eI (-1))),
  (63, .ixor, [], none),
  (64, .iand, [], none),
  (65, .iload 4, [4], none),
  (67, .invokestatic 211, [], some (eC 161 2 0)),
  (70, .istore 5, [5], none),
  (72, .iconst 0, [], some (eI 0)),
  (73, .istore 6, [6], none),
  (75, .iconst 0, [], some (eI 0)),
  (76, .istore 7, [7], none),
  (78, .iload 7, [7], none),
  (80, .bipush 10, [], some (eI 10)),
  (82, .if_icmp .ge 50, [132], none),
  (85, .iload 6, [6], none),
  (87, .ifCond .ne 32, [119], none),
  (90, .aload_n 0, [0], none),
  (91, .getfield 28, [], some (eF 11 19)),
  (94, .iload_n 1, [1], none),
  (95, .iaload, [], none),
  (96, .iload 7, [7], none),
  (98, .invokestatic 211, [], some (eC 161 2 0)),
  (101, .ifCond .eq 22, [123], none),
  (104, .aload_n 0, [0], none),
  (105, .getfield 34, [], some (eF 11 21)),
  (108, .iload 7, [7], none),
  (110, .iaload, [], none),
  (111, .iload 4, [4], none),
  (113, .invokestatic 211, [], some (eC 161 2 0)),
  (116, .ifCond .eq 7, [123], none),
  (119, .iconst 1, [], some (eI 1)),
  (120, .goto 4, [124], none),
  (123, .iconst 0, [], some (eI 0)),
  (124, .istore 6, [6], none),
  (126, .iinc 7 1, [7], some (eI 1)),
  (129, .goto (-51), [78], none),
  (132, .iload_n 2, [2], none),
  (133, .ifCond .ne 33, [166], none),
  (136, .iload 6, [6], none),
  (138, .ifCond .eq 24, [162], none),
  (141, .aload_n 0, [0], none),
  (142, .getfield 34, [], some (eF 11 21)),
  (145, .iload 4, [4], none),
  (147, .iaload, [], none),
  (148, .aload_n 0, [0], none),
  (149, .getfield 28, [], some (eF 11 19)),
  (152, .iload_n 1, [1], none),
  (153, .iaload, [], none),
  (154, .iand, [], none),
  (155, .ifCond .eq 7, [162], none),
  (158, .iconst 1, [], some (eI 1)),
  (159, .goto 28, [187], none),
  (162, .iconst 0, [], some (eI 0)),
  (163, .goto 24, [187], none),
  (166, .aload_n 0, [0], none),
  (167, .getfield 43, [], some (eF 11 24)),
  (170, .iload 4, [4], none),
  (172, .iaload, [], none),
  (173, .aload_n 0, [0], none),
  (174, .iload_n 1, [1], none),
  (175, .iconst 0, [], some (eI 0)),
  (176, .invokevirtual 243, [], some (eC 153 3 11)),
  (179, .if_icmp .ge 7, [186], none),
  (182, .iconst 1, [], some (eI 1)),
  (183, .goto 4, [187], none),
  (186, .iconst 0, [], some (eI 0)),
  (187, .istore 7, [7], none),
  (189, .iload_n 3, [3], none),
  (190, .iload 5, [5], none),
  (192, .ifCond .eq 15, [207], none),
  (195, .iload 7, [7], none),
  (197, .ifCond .eq 10, [207], none),
  (200, .iconst 1, [], some (eI 1)),
  (201, .iload 4, [4], none),
  (203, .ishl, [], none),
  (204, .goto 4, [208], none),
  (207, .iconst 0, [], some (eI 0)),
  (208, .ior, [], none),
  (209, .istore_n 3, [3], none),
  (210, .iinc 4 1, [4], some (eI 1)),
  (213, .goto (-168), [45], none),
  (216, .iload_n 3, [3], none),
  (217, .ireturn, [], none)]
theorem okRef_lacks : am_mok mRef_lacks kRef_lacks := ⟨by decide +kernel, plRef, by decide +kernel, poRef⟩
def kRef_tenants : List am_E := [(0, .aload_n 0, [0], none),
  (1, .iconst 0, [], some (eI 0)),
  (2, .putfield 56, [], some (eF 11 0)),
  (5, .aload_n 0, [0], none),
  (6, .iload_n 1, [1], none),
  (7, .invokevirtual 237, [], some (eC 162 2 11)),
  (10, .ifCond .ne 6, [16], none),
  (13, .ldc 76, [], some (eI (-1000001))),
  (15, .ireturn, [], none),
  (16, .aload_n 0, [0], none),
  (17, .invokevirtual 226, [], some (eC 160 1 11)),
  (20, .ifCond .eq 6, [26], none),
  (23, .ldc 222, [], some (eI (-1000002))),
  (25, .ireturn, [], none),
  (26, .aload_n 0, [0], none),
  (27, .invokevirtual 246, [], some (eC 175 1 11)),
  (30, .iconst 0, [], some (eI 0)),
  (31, .istore_n 2, [2], none),
  (32, .iconst 0, [], some (eI 0)),
  (33, .istore_n 3, [3], none),
  (34, .iload_n 3, [3], none),
  (35, .aload_n 0, [0], none),
  (36, .getfield 19, [], some (eF 11 5)),
  (39, .iconst 2, [], some (eI 2)),
  (40, .iaload, [], none),
  (41, .if_icmp .ge 124, [165], none),
  (44, .bipush 78, [], some (eI 78)),
  (46, .iconst 3, [], some (eI 3)),
  (47, .iload_n 3, [3], none),
  (48, .imul, [], none),
  (49, .iadd, [], none),
  (50, .istore 4, [4], none),
  (52, .aload_n 0, [0], none),
  (53, .getfield 19, [], some (eF 11 5)),
  (56, .iload 4, [4], none),
  (58, .iaload, [], none),
  (59, .aload_n 0, [0], none),
  (60, .getfield 40, [], some (eF 11 23)),
  (63, .iload_n 1, [1], none),
  (64, .iaload, [], none),
  (65, .if_icmp .le 13, [78], none),
  (68, .aload_n 0, [0], none),
  (69, .getfield 19, [], some (eF 11 5)),
  (72, .iload 4, [4], none),
  (74, .iaload, [], none),
  (75, .goto 9, [84], none),
  (78, .aload_n 0, [0], none),
  (79, .getfield 40, [], some (eF 11 23)),
  (82, .iload_n 1, [1], none),
  (83, .iaload, [], none),
  (84, .istore 5, [5], none),
  (86, .aload_n 0, [0], none),
  (87, .getfield 19, [], some (eF 11 5)),
  (90, .iload 4, [4], none),
  (92, .iconst 1, [], some (eI 1)),
  (93, .iadd, [], none),
  (94, .iaload, [], none),
  (95, .aload_n 0, [0], none),
  (96, .getfield 43, [], some (eF 11 24)),
  (99, .iload_n 1, [1], none),
  (100, .iaload, [], none),
  (101, .if_icmp .ge 15, [116], none),
  (104, .aload_n 0, [0], none),
  (105, .getfield 19, [], some (eF 11 5)),
  (108, .iload 4, [4], none),
  (110, .iconst 1, [], some (eI 1)),
  (111, .iadd, [], none),
  (112, .iaload, [], none),
  (113, .goto 9, [122], none),
  (116, .aload_n 0, [0], none),
  (117, .getfield 43, [], some (eF 11 24)),
  (120, .iload_n 1, [1], none),
  (121, .iaload, [], none),
  (122, .istore 6, [6], none),
  (124, .iload_n 2, [2], none),
  (125, .iload 5, [5], none),
  (127, .iload 6, [6], none),
  (129, .if_icmp .gt 27, [156], none),
  (132, .aload_n 0, [0], none),
  (133, .getfield 19, [], some (eF 11 5)),
  (136, .iload 4, [4], none),
  (138, .iconst 2, [], some (eI 2)),
  (139, .iadd, [], none),
  (140, .iaload, [], none),
  (141, .aload_n 0, [0], none),
  (142, .iload_n 1, [1], none),
  (143, .iconst 3, [], some (eI 3)),
  (144, .invokevirtual 231, [], some (eC 154 3 11)),
  (147, .if_icmp .lt 9, [156], none),
  (150, .iconst 1, [], some (eI 1)),
  (151, .iload_n 3, [3], none),
  (152, .ishl, [], none),
  (153, .goto 4, [157], none),
  (156, .iconst 0, [], some (eI 0)),
  (157, .ior, [], none),
  (158, .istore_n 2, [2], none),
  (159, .iinc 3 1, [3], some (eI 1)),
  (162, .goto (-128), [34], none),
  (165, .iload_n 2, [2], none),
  (166, .ireturn, [], none)]
theorem okRef_tenants : am_mok mRef_tenants kRef_tenants := ⟨by decide +kernel, plRef, by decide +kernel, poRef⟩
def kRef_cupboard : List am_E := [(0, .aload_n 0, [0], none),
  (1, .iconst 0, [], some (eI 0)),
  (2, .putfield 56, [], some (eF 11 0)),
  (5, .aload_n 0, [0], none),
  (6, .iload_n 1, [1], none),
  (7, .invokevirtual 223, [], some (eC 152 2 11)),
  (10, .ifCond .eq 13, [23], none),
  (13, .iload_n 2, [2], none),
  (14, .i2l, [], none),
  (15, .lconst 0, [], some (eL 0)),
  (16, .lconst 1, [], some (eL 1)),
  (17, .invokestatic 66, [], some (eC 124 3 0)),
  (20, .ifCond .ne 6, [26], none),
  (23, .ldc 76, [], some (eI (-1000001))),
  (25, .ireturn, [], none),
  (26, .aload_n 0, [0], none),
  (27, .invokevirtual 226, [], some (eC 160 1 11)),
  (30, .ifCond .eq 6, [36], none),
  (33, .ldc 222, [], some (eI (-1000002))),
  (35, .ireturn, [], none),
  (36, .aload_n 0, [0], none),
  (37, .invokevirtual 246, [], some (eC 175 1 11)),
  (40, .aload_n 0, [0], none),
  (41, .getfield 28, [], some (eF 11 19)),
  (44, .aload_n 0, [0], none),
  (45, .iload_n 1, [1], none),
  (46, .invokevirtual 202, [], some (eC 156 2 11)),
  (49, .iaload, [], none),
  (50, .istore_n 3, [3], none),
  (51, .iconst 0, [], some (eI 0)),
  (52, .istore 4, [4], none),
  (54, .iload 4, [4], none),
  (56, .aload_n 0, [0], none),
  (57, .iload_n 1, [1], none),
  (58, .invokevirtual 196, [], some (eC 157 2 11)),
  (61, .if_icmp .ge 23, [84], none),
  (64, .iload_n 3, [3], none),
  (65, .iconst 1, [], some (eI 1)),
  (66, .aload_n 0, [0], none),
  (67, .iload_n 1, [1], none),
  (68, .iload 4, [4], none),
  (70, .invokevirtual 199, [], some (eC 155 3 11)),
  (73, .ishl, [], none),
  (74, .iconst (-1), [], some (eI (-1))),
  (75, .ixor, [], none),
  (76, .iand, [], none),
  (77, .istore_n 3, [3], none),
  (78, .iinc 4 1, [4], some (eI 1)),
  (81, .goto (-27), [54], none),
  (84, .sipush 9999, [], some (eI 9999)),
  (87, .istore 4, [4], none),
  (89, .iconst 0, [], some (eI 0)),
  (90, .istore 5, [5], none),
  (92, .iconst 0, [], some (eI 0)),
  (93, .istore 6, [6], none),
  (95, .iload 6, [6], none),
  (97, .bipush 10, [], some (eI 10)),
  (99, .if_icmp .ge 70, [169], none),
  (102, .iload_n 3, [3], none),
  (103, .iload 6, [6], none),
  (105, .invokestatic 211, [], some (eC 161 2 0)),
  (108, .ifCond .eq 55, [163], none),
  (111, .aload_n 0, [0], none),
  (112, .getfield 40, [], some (eF 11 23)),
  (115, .iload 6, [6], none),
  (117, .iaload, [], none),
  (118, .iload 4, [4], none),
  (120, .if_icmp .ge 13, [133], none),
  (123, .aload_n 0, [0], none),
  (124, .getfield 40, [], some (eF 11 23)),
  (127, .iload 6, [6], none),
  (129, .iaload, [], none),
  (130, .goto 5, [135], none),
  (133, .iload 4, [4], none),
  (135, .istore 4, [4], none),
  (137, .aload_n 0, [0], none),
  (138, .getfield 43, [], some (eF 11 24)),
  (141, .iload 6, [6], none),
  (143, .iaload, [], none),
  (144, .iload 5, [5], none),
  (146, .if_icmp .le 13, [159], none),
  (149, .aload_n 0, [0], none),
  (150, .getfield 43, [], some (eF 11 24)),
  (153, .iload 6, [6], none),
  (155, .iaload, [], none),
  (156, .goto 5, [161], none),
  (159, .iload 5, [5], none),
  (161, .istore 5, [5], none),
  (163, .iinc 6 1, [6], some (eI 1)),
  (166, .goto (-71), [95], none),
  (169, .iload_n 3, [3], none),
  (170, .ifCond .ne 8, [178], none),
  (173, .ldc 92, [], some (eI (-1000000))),
  (175, .goto 14, [189], none),
  (178, .iload_n 2, [2], none),
  (179, .ifCond .ne 8, [187], none),
  (182, .iload 4, [4], none),
  (184, .goto 5, [189], none),
  (187, .iload 5, [5], none),
  (189, .ireturn, [], none)]
theorem okRef_cupboard : am_mok mRef_cupboard kRef_cupboard := ⟨by decide +kernel, plRef, by decide +kernel, poRef⟩
def kRef_scrap : List am_E := [(0, .aload_n 0, [0], none),
  (1, .iconst 0, [], some (eI 0)),
  (2, .putfield 56, [], some (eF 11 0)),
  (5, .aload_n 0, [0], none),
  (6, .getfield 186, [], some (eF 11 7)),
  (9, .ifCond .ne 6, [15], none),
  (12, .ldc 222, [], some (eI (-1000002))),
  (14, .ireturn, [], none),
  (15, .iload_n 1, [1], none),
  (16, .i2l, [], none),
  (17, .lconst 0, [], some (eL 0)),
  (18, .ldc2_w 249, [], some (eL 400)),
  (21, .invokestatic 66, [], some (eC 124 3 0)),
  (24, .ifCond .eq 15, [39], none),
  (27, .iload_n 2, [2], none),
  (28, .i2l, [], none),
  (29, .lconst 0, [], some (eL 0)),
  (30, .ldc2_w 249, [], some (eL 400)),
  (33, .invokestatic 66, [], some (eC 124 3 0)),
  (36, .ifCond .ne 6, [42], none),
  (39, .ldc 76, [], some (eI (-1000001))),
  (41, .ireturn, [], none),
  (42, .iconst 0, [], some (eI 0)),
  (43, .istore_n 3, [3], none),
  (44, .iconst 0, [], some (eI 0)),
  (45, .istore 4, [4], none),
  (47, .iload 4, [4], none),
  (49, .aload_n 0, [0], none),
  (50, .getfield 19, [], some (eF 11 5)),
  (53, .iconst 1, [], some (eI 1)),
  (54, .iaload, [], none),
  (55, .if_icmp .ge 45, [100], none),
  (58, .iload_n 3, [3], none),
  (59, .aload_n 0, [0], none),
  (60, .iload 4, [4], none),
  (62, .iconst 0, [], some (eI 0)),
  (63, .invokevirtual 231, [], some (eC 154 3 11)),
  (66, .iconst 5, [], some (eI 5)),
  (67, .if_icmp .eq 24, [91], none),
  (70, .iload_n 1, [1], none),
  (71, .iload_n 2, [2], none),
  (72, .isub, [], none),
  (73, .aload_n 0, [0], none),
  (74, .iload 4, [4], none),
  (76, .iconst 4, [], some (eI 4)),
  (77, .invokevirtual 231, [], some (eC 154 3 11)),
  (80, .irem, [], none),
  (81, .ifCond .ne 10, [91], none),
  (84, .iconst 1, [], some (eI 1)),
  (85, .iload 4, [4], none),
  (87, .ishl, [], none),
  (88, .goto 4, [92], none),
  (91, .iconst 0, [], some (eI 0)),
  (92, .ior, [], none),
  (93, .istore_n 3, [3], none),
  (94, .iinc 4 1, [4], some (eI 1)),
  (97, .goto (-50), [47], none),
  (100, .iload_n 3, [3], none),
  (101, .ireturn, [], none)]
theorem okRef_scrap : am_mok mRef_scrap kRef_scrap := ⟨by decide +kernel, plRef, by decide +kernel, poRef⟩
def kRef_tellsBy : List am_E := [(0, .iconst 1, [], some (eI 1)),
  (1, .istore_n 3, [3], none),
  (2, .iconst 0, [], some (eI 0)),
  (3, .istore 4, [4], none),
  (5, .iload 4, [4], none),
  (7, .aload_n 0, [0], none),
  (8, .getfield 19, [], some (eF 11 5)),
  (11, .iconst 1, [], some (eI 1)),
  (12, .iaload, [], none),
  (13, .if_icmp .ge 86, [99], none),
  (16, .iconst 0, [], some (eI 0)),
  (17, .istore 5, [5], none),
  (19, .iload 5, [5], none),
  (21, .iload 4, [4], none),
  (23, .if_icmp .ge 70, [93], none),
  (26, .iload_n 1, [1], none),
  (27, .iload 4, [4], none),
  (29, .invokestatic 211, [], some (eC 161 2 0)),
  (32, .ifCond .eq 16, [48], none),
  (35, .iload_n 1, [1], none),
  (36, .iload 5, [5], none),
  (38, .invokestatic 211, [], some (eC 161 2 0)),
  (41, .ifCond .eq 7, [48], none),
  (44, .iconst 1, [], some (eI 1)),
  (45, .goto 4, [49], none),
  (48, .iconst 0, [], some (eI 0)),
  (49, .istore 6, [6], none),
  (51, .iload_n 3, [3], none),
  (52, .ifCond .eq 33, [85], none),
  (55, .iload 6, [6], none),
  (57, .ifCond .eq 24, [81], none),
  (60, .aload_n 0, [0], none),
  (61, .iload 4, [4], none),
  (63, .iconst 4, [], some (eI 4)),
  (64, .invokevirtual 231, [], some (eC 154 3 11)),
  (67, .iload_n 2, [2], none),
  (68, .irem, [], none),
  (69, .aload_n 0, [0], none),
  (70, .iload 5, [5], none),
  (72, .iconst 4, [], some (eI 4)),
  (73, .invokevirtual 231, [], some (eC 154 3 11)),
  (76, .iload_n 2, [2], none),
  (77, .irem, [], none),
  (78, .if_icmp .eq 7, [85], none),
  (81, .iconst 1, [], some (eI 1)),
  (82, .goto 4, [86], none),
  (85, .iconst 0, [], some (eI 0)),
  (86, .istore_n 3, [3], none),
  (87, .iinc 5 1, [5], some (eI 1)),
  (90, .goto (-71), [19], none),
  (93, .iinc 4 1, [4], some (eI 1)),
  (96, .goto (-91), [5], none),
  (99, .iload_n 3, [3], none),
  (100, .ireturn, [], none)]
theorem okRef_tellsBy : am_mok mRef_tellsBy kRef_tellsBy := ⟨by decide +kernel, plRef, by decide +kernel, poRef⟩
def kRef_tells : List am_E := [(0, .aload_n 0, [0], none),
  (1, .iconst 0, [], some (eI 0)),
  (2, .putfield 56, [], some (eF 11 0)),
  (5, .aload_n 0, [0], none),
  (6, .getfield 186, [], some (eF 11 7)),
  (9, .ifCond .ne 6, [15], none),
  (12, .ldc 222, [], some (eI (-1000002))),
  (14, .ireturn, [], none),
  (15, .iload_n 1, [1], none),
  (16, .i2l, [], none),
  (17, .lconst 0, [], some (eL 0)),
  (18, .iconst 1, [], some (eI 1)),
  (19, .aload_n 0, [0], none),
  (20, .getfield 19, [], some (eF 11 5)),
  (23, .iconst 1, [], some (eI 1)),
  (24, .iaload, [], none),
  (25, .ishl, [], none),
  (26, .iconst 1, [], some (eI 1)),
  (27, .isub, [], none),
  (28, .i2l, [], none),
  (29, .invokestatic 66, [], some (eC 124 3 0)),
  (32, .ifCond .ne 6, [38], none),
  (35, .ldc 76, [], some (eI (-1000001))),
  (37, .ireturn, [], none),
  (38, .iconst 1, [], some (eI 1)),
  (39, .istore_n 2, [2], none),
  (40, .iload_n 2, [2], none),
  (41, .bipush 100, [], some (eI 100)),
  (43, .if_icmp .ge 20, [63], none),
  (46, .aload_n 0, [0], none),
  (47, .iload_n 1, [1], none),
  (48, .iload_n 2, [2], none),
  (49, .invokevirtual 251, [], some (eC 182 3 11)),
  (52, .ifCond .eq 5, [57], none),
  (55, .iload_n 2, [2], none),
  (56, .ireturn, [], none),
  (57, .iinc 2 1, [2], some (eI 1)),
  (60, .goto (-20), [40], none),
  (63, .ldc 92, [], some (eI (-1000000))),
  (65, .ireturn, [], none)]
theorem okRef_tells : am_mok mRef_tells kRef_tells := ⟨by decide +kernel, plRef, by decide +kernel, poRef⟩
def kRef_painted : List am_E := [(0, .iconst 0, [], some (eI 0)),
  (1, .istore_n 3, [3], none),
  (2, .iconst 0, [], some (eI 0)),
  (3, .istore 4, [4], none),
  (5, .iload 4, [4], none),
  (7, .aload_n 0, [0], none),
  (8, .getfield 19, [], some (eF 11 5)),
  (11, .iconst 0, [], some (eI 0)),
  (12, .iaload, [], none),
  (13, .if_icmp .ge 32, [45], none),
  (16, .iload_n 3, [3], none),
  (17, .iload_n 1, [1], none),
  (18, .iload 4, [4], none),
  (20, .invokestatic 211, [], some (eC 161 2 0)),
  (23, .ifCond .eq 13, [36], none),
  (26, .aload_n 0, [0], none),
  (27, .iload 4, [4], none),
  (29, .iconst 1, [], some (eI 1)),
  (30, .invokevirtual 243, [], some (eC 153 3 11)),
  (33, .goto 4, [37], none),
  (36, .iconst 0, [], some (eI 0)),
  (37, .iadd, [], none),
  (38, .istore_n 3, [3], none),
  (39, .iinc 4 1, [4], some (eI 1)),
  (42, .goto (-37), [5], none),
  (45, .iload_n 2, [2], none),
  (46, .iconst 1, [], some (eI 1)),
  (47, .if_icmp .ne 15, [62], none),
  (50, .iload_n 3, [3], none),
  (51, .sipush 499, [], some (eI 499)),
  (54, .iadd, [], none),
  (55, .sipush 500, [], some (eI 500)),
  (58, .idiv, [], none),
  (59, .goto 4, [63], none),
  (62, .iconst 0, [], some (eI 0)),
  (63, .ireturn, [], none)]
theorem okRef_painted : am_mok mRef_painted kRef_painted := ⟨by decide +kernel, plRef, by decide +kernel, poRef⟩
def kRef_rolls : List am_E := [(0, .aload_n 0, [0], none),
  (1, .iconst 0, [], some (eI 0)),
  (2, .putfield 56, [], some (eF 11 0)),
  (5, .aload_n 0, [0], none),
  (6, .iload_n 1, [1], none),
  (7, .invokevirtual 208, [], some (eC 151 2 11)),
  (10, .ifCond .eq 35, [45], none),
  (13, .iload_n 2, [2], none),
  (14, .i2l, [], none),
  (15, .lconst 0, [], some (eL 0)),
  (16, .iconst 1, [], some (eI 1)),
  (17, .aload_n 0, [0], none),
  (18, .getfield 19, [], some (eF 11 5)),
  (21, .iconst 0, [], some (eI 0)),
  (22, .iaload, [], none),
  (23, .ishl, [], none),
  (24, .iconst 1, [], some (eI 1)),
  (25, .isub, [], none),
  (26, .i2l, [], none),
  (27, .invokestatic 66, [], some (eC 124 3 0)),
  (30, .ifCond .eq 15, [45], none),
  (33, .iload_n 3, [3], none),
  (34, .i2l, [], none),
  (35, .lconst 0, [], some (eL 0)),
  (36, .ldc2_w 74, [], some (eL 2)),
  (39, .invokestatic 66, [], some (eC 124 3 0)),
  (42, .ifCond .ne 6, [48], none),
  (45, .ldc 76, [], some (eI (-1000001))),
  (47, .ireturn, [], none),
  (48, .aload_n 0, [0], none),
  (49, .iload_n 1, [1], none),
  (50, .iconst 0, [], some (eI 0)),
  (51, .invokevirtual 231, [], some (eC 154 3 11)),
  (54, .iconst 5, [], some (eI 5)),
  (55, .if_icmp .ne 10, [65], none),
  (58, .aload_n 0, [0], none),
  (59, .iload_n 2, [2], none),
  (60, .iload_n 3, [3], none),
  (61, .invokevirtual 254, [], some (eC 184 3 11)),
  (64, .ireturn, [], none),
  (65, .aload_n 0, [0], none),
  (66, .iload_n 1, [1], none),
  (67, .iconst 4, [], some (eI 4)),
  (68, .invokevirtual 231, [], some (eC 154 3 11)),
  (71, .istore 4, [4], none),
  (73, .iconst 0, [], some (eI 0)),
  (74, .istore 5, [5], none),
  (76, .iconst 0, [], some (eI 0)),
  (77, .istore 6, [6], none),
  (79, .iconst 0, [], some (eI 0)),
  (80, .istore 7, [7], none),
  (82, .iconst 0, [], some (eI 0)),
  (83, .istore 8, [8], none),
  (85, .iload 8, [8], none),
  (87, .aload_n 0, [0], none),
  (88, .getfield 19, [], some (eF 11 5)),
  (91, .iconst 0, [], some (eI 0)),
  (92, .iaload, [], none),
  (93, .if_icmp .ge 102, [195], none),
  (96, .aload_n 0, [0], none),
  (97, .iload 8, [8], none),
  (99, .iconst 2, [], some (eI 2)),
  (100, .invokevirtual 243, [], some (eC 153 3 11)),
  (103, .iload 4, [4], none),
  (105, .iadd, [], none),
  (106, .iconst 1, [], some (eI 1)),
  (107, .isub, [], none),
  (108, .iload 4, [4], none),
  (110, .idiv, [], none),
  (111, .iload 4, [4], none),
  (113, .imul, [], none),
  (114, .istore 9, [9], none),
  (116, .iconst 0, [], some (eI 0)),
  (117, .istore 10, [10], none),
  (119, .iload 10, [10], none),
  (121, .aload_n 0, [0], none),
  (122, .iload 8, [8], none),
  (124, .iconst 1, [], some (eI 1)),
  (125, .invokevirtual 243, [], some (eC 153 3 11)),
  (128, .if_icmp .ge 61, [189], none),
  (131, .iload_n 2, [2], none),
  (132, .iload 8, [8], none),
  (134, .invokestatic 211, [], some (eC 161 2 0)),
  (137, .ifCond .eq 52, [189], none),
  (140, .iinc 5 1, [5], some (eI 1)),
  (143, .iload 6, [6], none),
  (145, .iload 7, [7], none),
  (147, .iload 9, [9], none),
  (149, .if_icmp .ge 7, [156], none),
  (152, .iconst 1, [], some (eI 1)),
  (153, .goto 4, [157], none),
  (156, .iconst 0, [], some (eI 0)),
  (157, .iadd, [], none),
  (158, .istore 6, [6], none),
  (160, .iload 7, [7], none),
  (162, .iload 9, [9], none),
  (164, .if_icmp .ge 12, [176], none),
  (167, .sipush 1000, [], some (eI 1000)),
  (170, .iload 9, [9], none),
  (172, .isub, [], none),
  (173, .goto 8, [181], none),
  (176, .iload 7, [7], none),
  (178, .iload 9, [9], none),
  (180, .isub, [], none),
  (181, .istore 7, [7], none),
  (183, .iinc 10 50, [10], some (eI 50)),
  (186, .goto (-67), [119], none),
  (189, .iinc 8 1, [8], some (eI 1)),
  (192, .goto (-107), [85], none),
  (195, .iload_n 3, [3], none),
  (196, .ifCond .ne 8, [204], none),
  (199, .iload 5, [5], none),
  (201, .goto 15, [216], none),
  (204, .iload_n 3, [3], none),
  (205, .iconst 1, [], some (eI 1)),
  (206, .if_icmp .ne 8, [214], none),
  (209, .iload 6, [6], none),
  (211, .goto 5, [216], none),
  (214, .iload 7, [7], none),
  (216, .ireturn, [], none)]
theorem okRef_rolls : am_mok mRef_rolls kRef_rolls := ⟨by decide +kernel, plRef, by decide +kernel, poRef⟩
def kRef_image : List am_E := [(0, .aload_n 0, [0], none),
  (1, .iconst 0, [], some (eI 0)),
  (2, .putfield 56, [], some (eF 11 0)),
  (5, .iload_n 1, [1], none),
  (6, .i2l, [], none),
  (7, .lconst 0, [], some (eL 0)),
  (8, .lconst 1, [], some (eL 1)),
  (9, .invokestatic 66, [], some (eC 124 3 0)),
  (12, .ifCond .ne 6, [18], none),
  (15, .ldc 76, [], some (eI (-1000001))),
  (17, .ireturn, [], none),
  (18, .aload_n 0, [0], none),
  (19, .getfield 186, [], some (eF 11 7)),
  (22, .ifCond .ne 6, [28], none),
  (25, .ldc 222, [], some (eI (-1000002))),
  (27, .ireturn, [], none),
  (28, .iconst 0, [], some (eI 0)),
  (29, .istore_n 2, [2], none),
  (30, .iload_n 2, [2], none),
  (31, .sipush 198, [], some (eI 198)),
  (34, .if_icmp .ge 27, [61], none),
  (37, .aload_n 0, [0], none),
  (38, .getfield 50, [], some (eF 11 26)),
  (41, .sipush 198, [], some (eI 198)),
  (44, .iload_n 1, [1], none),
  (45, .imul, [], none),
  (46, .iload_n 2, [2], none),
  (47, .iadd, [], none),
  (48, .aload_n 0, [0], none),
  (49, .getfield 19, [], some (eF 11 5)),
  (52, .iload_n 2, [2], none),
  (53, .iaload, [], none),
  (54, .iastore, [], none),
  (55, .iinc 2 1, [2], some (eI 1)),
  (58, .goto (-28), [30], none),
  (61, .aload_n 0, [0], none),
  (62, .getfield 46, [], some (eF 11 25)),
  (65, .iload_n 1, [1], none),
  (66, .iconst 1, [], some (eI 1)),
  (67, .bastore, [], none),
  (68, .iconst 1, [], some (eI 1)),
  (69, .ireturn, [], none)]
theorem okRef_image : am_mok mRef_image kRef_image := ⟨by decide +kernel, plRef, by decide +kernel, poRef⟩
def kRef_restore : List am_E := [(0, .aload_n 0, [0], none),
  (1, .iconst 0, [], some (eI 0)),
  (2, .putfield 56, [], some (eF 11 0)),
  (5, .iload_n 1, [1], none),
  (6, .i2l, [], none),
  (7, .lconst 0, [], some (eL 0)),
  (8, .lconst 1, [], some (eL 1)),
  (9, .invokestatic 66, [], some (eC 124 3 0)),
  (12, .ifCond .ne 6, [18], none),
  (15, .ldc 76, [], some (eI (-1000001))),
  (17, .ireturn, [], none),
  (18, .aload_n 0, [0], none),
  (19, .getfield 46, [], some (eF 11 25)),
  (22, .iload_n 1, [1], none),
  (23, .baload, [], none),
  (24, .ifCond .ne 6, [30], none),
  (27, .ldc 222, [], some (eI (-1000002))),
  (29, .ireturn, [], none),
  (30, .iconst 0, [], some (eI 0)),
  (31, .istore_n 2, [2], none),
  (32, .iload_n 2, [2], none),
  (33, .sipush 198, [], some (eI 198)),
  (36, .if_icmp .ge 27, [63], none),
  (39, .aload_n 0, [0], none),
  (40, .getfield 19, [], some (eF 11 5)),
  (43, .iload_n 2, [2], none),
  (44, .aload_n 0, [0], none),
  (45, .getfield 50, [], some (eF 11 26)),
  (48, .sipush 198, [], some (eI 198)),
  (51, .iload_n 1, [1], none),
  (52, .imul, [], none),
  (53, .iload_n 2, [2], none),
  (54, .iadd, [], none),
  (55, .iaload, [], none),
  (56, .iastore, [], none),
  (57, .iinc 2 1, [2], some (eI 1)),
  (60, .goto (-28), [32], none),
  (63, .aload_n 0, [0], none),
  (64, .invokevirtual 190, [], some (eC 158 1 11)),
  (67, .iconst 1, [], some (eI 1)),
  (68, .ireturn, [], none)]
theorem okRef_restore : am_mok mRef_restore kRef_restore := ⟨by decide +kernel, plRef, by decide +kernel, poRef⟩
def kRef_isOf : List am_E := [(0, .iload_n 1, [1], none),
  (1, .ifCond .eq 28, [29], none),
  (4, .iload_n 0, [0], none),
  (5, .iload_n 1, [1], none),
  (6, .if_icmp .eq 23, [29], none),
  (9, .iload_n 1, [1], none),
  (10, .iconst 1, [], some (eI 1)),
  (11, .if_icmp .ne 8, [19], none),
  (14, .iload_n 0, [0], none),
  (15, .iconst 4, [], some (eI 4)),
  (16, .if_icmp .eq 13, [29], none),
  (19, .iload_n 1, [1], none),
  (20, .iconst 2, [], some (eI 2)),
  (21, .if_icmp .ne 12, [33], none),
  (24, .iload_n 0, [0], none),
  (25, .iconst 3, [], some (eI 3)),
  (26, .if_icmp .ne 7, [33], none),
  (29, .iconst 1, [], some (eI 1)),
  (30, .goto 4, [34], none),
  (33, .iconst 0, [], some (eI 0)),
  (34, .ireturn, [], none)]
theorem okRef_isOf : am_mok mRef_isOf kRef_isOf := ⟨by decide +kernel, plRef, by decide +kernel, poRef⟩
def kRef_kind : List am_E := [(0, .aload_n 0, [0], none),
  (1, .iconst 0, [], some (eI 0)),
  (2, .putfield 56, [], some (eF 11 0)),
  (5, .aload_n 0, [0], none),
  (6, .iload_n 1, [1], none),
  (7, .invokevirtual 208, [], some (eC 151 2 11)),
  (10, .ifCond .eq 12, [22], none),
  (13, .aload_n 0, [0], none),
  (14, .iload_n 1, [1], none),
  (15, .iconst 0, [], some (eI 0)),
  (16, .invokevirtual 231, [], some (eC 154 3 11)),
  (19, .goto 5, [24], none),
  (22, .ldc 76, [], some (eI (-1000001))),
  (24, .ireturn, [], none)]
theorem okRef_kind : am_mok mRef_kind kRef_kind := ⟨by decide +kernel, plRef, by decide +kernel, poRef⟩
def kRef_as : List am_E := [(0, .aload_n 0, [0], none),
  (1, .iconst 0, [], some (eI 0)),
  (2, .putfield 56, [], some (eF 11 0)),
  (5, .aload_n 0, [0], none),
  (6, .iload_n 1, [1], none),
  (7, .invokevirtual 208, [], some (eC 151 2 11)),
  (10, .ifCond .eq 15, [25], none),
  (13, .iload_n 2, [2], none),
  (14, .i2l, [], none),
  (15, .lconst 0, [], some (eL 0)),
  (16, .ldc2_w 257, [], some (eL 5)),
  (19, .invokestatic 66, [], some (eC 124 3 0)),
  (22, .ifCond .ne 6, [28], none),
  (25, .ldc 76, [], some (eI (-1000001))),
  (27, .ireturn, [], none),
  (28, .aload_n 0, [0], none),
  (29, .iconst 0, [], some (eI 0)),
  (30, .putfield 60, [], some (eF 11 1)),
  (33, .aload_n 0, [0], none),
  (34, .iload_n 1, [1], none),
  (35, .iconst 0, [], some (eI 0)),
  (36, .invokevirtual 231, [], some (eC 154 3 11)),
  (39, .iload_n 2, [2], none),
  (40, .invokestatic 259, [], some (eC 188 2 0)),
  (43, .ifCond .eq 7, [50], none),
  (46, .iload_n 1, [1], none),
  (47, .goto 8, [55], none),
  (50, .aload_n 0, [0], none),
  (51, .iconst 3, [], some (eI 3)),
  (52, .invokevirtual 77, [], some (eC 125 2 11)),
  (55, .ireturn, [], none)]
theorem okRef_as : am_mok mRef_as kRef_as := ⟨by decide +kernel, plRef, by decide +kernel, poRef⟩
def kRef_began : List am_E := [(0, .aload_n 0, [0], none),
  (1, .getfield 262, [], some (eF 11 28)),
  (4, .bipush 16, [], some (eI 16)),
  (6, .if_icmp .ge 23, [29], none),
  (9, .aload_n 0, [0], none),
  (10, .getfield 53, [], some (eF 11 27)),
  (13, .aload_n 0, [0], none),
  (14, .getfield 262, [], some (eF 11 28)),
  (17, .iload_n 1, [1], none),
  (18, .iastore, [], none),
  (19, .aload_n 0, [0], none),
  (20, .dup, [], none),
  (21, .getfield 262, [], some (eF 11 28)),
  (24, .iconst 1, [], some (eI 1)),
  (25, .iadd, [], none),
  (26, .putfield 262, [], some (eF 11 28)),
  (29, .return_, [], none)]
theorem okRef_began : am_mok mRef_began kRef_began := ⟨by decide +kernel, plRef, by decide +kernel, poRef⟩
def kRef_plainSize : List am_E := [(0, .aload_n 0, [0], none),
  (1, .bipush 10, [], some (eI 10)),
  (3, .invokevirtual 265, [], some (eC 191 2 11)),
  (6, .aload_n 0, [0], none),
  (7, .iload_n 1, [1], none),
  (8, .iconst 4, [], some (eI 4)),
  (9, .invokevirtual 231, [], some (eC 154 3 11)),
  (12, .ireturn, [], none)]
theorem okRef_plainSize : am_mok mRef_plainSize kRef_plainSize := ⟨by decide +kernel, plRef, by decide +kernel, poRef⟩
def kRef_markOf : List am_E := [(0, .aload_n 0, [0], none),
  (1, .iload_n 1, [1], none),
  (2, .iconst 0, [], some (eI 0)),
  (3, .invokevirtual 231, [], some (eC 154 3 11)),
  (6, .istore_n 2, [2], none),
  (7, .iload_n 2, [2], none),
  (8, .iconst 4, [], some (eI 4)),
  (9, .if_icmp .ne 9, [18], none),
  (12, .aload_n 0, [0], none),
  (13, .bipush 24, [], some (eI 24)),
  (15, .invokevirtual 265, [], some (eC 191 2 11)),
  (18, .aload_n 0, [0], none),
  (19, .iload_n 2, [2], none),
  (20, .iconst 1, [], some (eI 1)),
  (21, .invokestatic 259, [], some (eC 188 2 0)),
  (24, .ifCond .eq 8, [32], none),
  (27, .bipush 21, [], some (eI 21)),
  (29, .goto 15, [44], none),
  (32, .iload_n 2, [2], none),
  (33, .iconst 5, [], some (eI 5)),
  (34, .if_icmp .ne 8, [42], none),
  (37, .bipush 23, [], some (eI 23)),
  (39, .goto 5, [44], none),
  (42, .bipush 22, [], some (eI 22)),
  (44, .invokevirtual 265, [], some (eC 191 2 11)),
  (47, .aload_n 0, [0], none),
  (48, .bipush 20, [], some (eI 20)),
  (50, .invokevirtual 265, [], some (eC 191 2 11)),
  (53, .iload_n 2, [2], none),
  (54, .tableswitch 64 1 5 #[42, 64, 64, 51, 34], [118, 96, 1, 118, 2, 118, 3, 105, 4, 88, 5], none),
  (88, .iload_n 1, [1], none),
  (89, .aload_n 0, [0], none),
  (90, .iload_n 1, [1], none),
  (91, .invokevirtual 268, [], some (eC 192 2 11)),
  (94, .isub, [], none),
  (95, .ireturn, [], none),
  (96, .iload_n 1, [1], none),
  (97, .aload_n 0, [0], none),
  (98, .iload_n 1, [1], none),
  (99, .iconst 3, [], some (eI 3)),
  (100, .invokevirtual 231, [], some (eC 154 3 11)),
  (103, .iadd, [], none),
  (104, .ireturn, [], none),
  (105, .iload_n 1, [1], none),
  (106, .aload_n 0, [0], none),
  (107, .iload_n 1, [1], none),
  (108, .iconst 3, [], some (eI 3)),
  (109, .invokevirtual 231, [], some (eC 154 3 11)),
  (112, .iadd, [], none),
  (113, .sipush 1000, [], some (eI 1000)),
  (116, .isub, [], none),
  (117, .ireturn, [], none),
  (118, .iload_n 1, [1], none),
  (119, .aload_n 0, [0], none),
  (120, .iload_n 1, [1], none),
  (121, .iconst 1, [], some (eI 1)),
  (122, .invokevirtual 231, [], some (eC 154 3 11)),
  (125, .iadd, [], none),
  (126, .ireturn, [], none)]
theorem okRef_markOf : am_mok mRef_markOf kRef_markOf := ⟨by decide +kernel, plRef, by decide +kernel, poRef⟩
def kRef_sizeOf : List am_E := [(0, .aload_n 0, [0], none),
  (1, .iload_n 1, [1], none),
  (2, .iconst 0, [], some (eI 0)),
  (3, .invokevirtual 231, [], some (eC 154 3 11)),
  (6, .istore_n 2, [2], none),
  (7, .iload_n 2, [2], none),
  (8, .iconst 5, [], some (eI 5)),
  (9, .if_icmp .ne 9, [18], none),
  (12, .aload_n 0, [0], none),
  (13, .iload_n 1, [1], none),
  (14, .invokevirtual 268, [], some (eC 192 2 11)),
  (17, .ireturn, [], none),
  (18, .iload_n 2, [2], none),
  (19, .iconst 3, [], some (eI 3)),
  (20, .if_icmp .eq 8, [28], none),
  (23, .iload_n 2, [2], none),
  (24, .iconst 4, [], some (eI 4)),
  (25, .if_icmp .ne 19, [44], none),
  (28, .aload_n 0, [0], none),
  (29, .iload_n 2, [2], none),
  (30, .iconst 3, [], some (eI 3)),
  (31, .if_icmp .ne 8, [39], none),
  (34, .bipush 14, [], some (eI 14)),
  (36, .goto 5, [41], none),
  (39, .bipush 12, [], some (eI 12)),
  (41, .invokevirtual 265, [], some (eC 191 2 11)),
  (44, .aload_n 0, [0], none),
  (45, .iload_n 2, [2], none),
  (46, .iconst 1, [], some (eI 1)),
  (47, .invokestatic 259, [], some (eC 188 2 0)),
  (50, .ifCond .eq 8, [58], none),
  (53, .bipush 11, [], some (eI 11)),
  (55, .goto 5, [60], none),
  (58, .bipush 13, [], some (eI 13)),
  (60, .invokevirtual 265, [], some (eC 191 2 11)),
  (63, .aload_n 0, [0], none),
  (64, .iload_n 1, [1], none),
  (65, .invokevirtual 268, [], some (eC 192 2 11)),
  (68, .istore_n 3, [3], none),
  (69, .iload_n 2, [2], none),
  (70, .iconst 2, [], some (eI 2)),
  (71, .invokestatic 259, [], some (eC 188 2 0)),
  (74, .ifCond .eq 25, [99], none),
  (77, .iload_n 3, [3], none),
  (78, .aload_n 0, [0], none),
  (79, .iload_n 1, [1], none),
  (80, .iconst 3, [], some (eI 3)),
  (81, .invokevirtual 231, [], some (eC 154 3 11)),
  (84, .isub, [], none),
  (85, .istore_n 3, [3], none),
  (86, .iload_n 2, [2], none),
  (87, .iconst 3, [], some (eI 3)),
  (88, .if_icmp .ne 9, [97], none),
  (91, .iconst 2, [], some (eI 2)),
  (92, .iload_n 3, [3], none),
  (93, .imul, [], none),
  (94, .goto 4, [98], none),
  (97, .iload_n 3, [3], none),
  (98, .ireturn, [], none),
  (99, .iload_n 3, [3], none),
  (100, .aload_n 0, [0], none),
  (101, .iload_n 1, [1], none),
  (102, .invokevirtual 271, [], some (eC 193 2 11)),
  (105, .iadd, [], none),
  (106, .istore_n 3, [3], none),
  (107, .iload_n 2, [2], none),
  (108, .iconst 4, [], some (eI 4)),
  (109, .if_icmp .ne 8, [117], none),
  (112, .iload_n 3, [3], none),
  (113, .ineg, [], none),
  (114, .goto 4, [118], none),
  (117, .iload_n 3, [3], none),
  (118, .ireturn, [], none)]
theorem okRef_sizeOf : am_mok mRef_sizeOf kRef_sizeOf := ⟨by decide +kernel, plRef, by decide +kernel, poRef⟩
def kRef_ask : List am_E := [(0, .aload_n 0, [0], none),
  (1, .iconst 0, [], some (eI 0)),
  (2, .putfield 56, [], some (eF 11 0)),
  (5, .aload_n 0, [0], none),
  (6, .iload_n 1, [1], none),
  (7, .invokevirtual 208, [], some (eC 151 2 11)),
  (10, .ifCond .eq 13, [23], none),
  (13, .iload_n 2, [2], none),
  (14, .i2l, [], none),
  (15, .lconst 0, [], some (eL 0)),
  (16, .lconst 1, [], some (eL 1)),
  (17, .invokestatic 66, [], some (eC 124 3 0)),
  (20, .ifCond .ne 6, [26], none),
  (23, .ldc 76, [], some (eI (-1000001))),
  (25, .ireturn, [], none),
  (26, .aload_n 0, [0], none),
  (27, .iconst 0, [], some (eI 0)),
  (28, .putfield 262, [], some (eF 11 28)),
  (31, .iload_n 2, [2], none),
  (32, .ifCond .ne 11, [43], none),
  (35, .aload_n 0, [0], none),
  (36, .iload_n 1, [1], none),
  (37, .invokevirtual 274, [], some (eC 194 2 11)),
  (40, .goto 8, [48], none),
  (43, .aload_n 0, [0], none),
  (44, .iload_n 1, [1], none),
  (45, .invokevirtual 271, [], some (eC 193 2 11)),
  (48, .ireturn, [], none)]
theorem okRef_ask : am_mok mRef_ask kRef_ask := ⟨by decide +kernel, plRef, by decide +kernel, poRef⟩
def kRef_trace : List am_E := [(0, .aload_n 0, [0], none),
  (1, .iconst 0, [], some (eI 0)),
  (2, .putfield 56, [], some (eF 11 0)),
  (5, .iload_n 1, [1], none),
  (6, .i2l, [], none),
  (7, .lconst 0, [], some (eL 0)),
  (8, .aload_n 0, [0], none),
  (9, .getfield 262, [], some (eF 11 28)),
  (12, .iconst 1, [], some (eI 1)),
  (13, .isub, [], none),
  (14, .i2l, [], none),
  (15, .invokestatic 66, [], some (eC 124 3 0)),
  (18, .ifCond .eq 12, [30], none),
  (21, .aload_n 0, [0], none),
  (22, .getfield 53, [], some (eF 11 27)),
  (25, .iload_n 1, [1], none),
  (26, .iaload, [], none),
  (27, .goto 5, [32], none),
  (30, .ldc 92, [], some (eI (-1000000))),
  (32, .ireturn, [], none)]
theorem okRef_trace : am_mok mRef_trace kRef_trace := ⟨by decide +kernel, plRef, by decide +kernel, poRef⟩
def kRef_count : List am_E := [(0, .aload_n 0, [0], none),
  (1, .iconst 0, [], some (eI 0)),
  (2, .putfield 56, [], some (eF 11 0)),
  (5, .iconst 0, [], some (eI 0)),
  (6, .istore_n 2, [2], none),
  (7, .iload_n 1, [1], none),
  (8, .tableswitch 87 0 5 #[40, 73, 73, 73, 73, 82], [95, 48, 0, 81, 1, 81, 2, 81, 3, 81, 4, 90, 5], none),
  (48, .iconst 0, [], some (eI 0)),
  (49, .istore_n 3, [3], none),
  (50, .iload_n 3, [3], none),
  (51, .bipush 8, [], some (eI 8)),
  (53, .if_icmp .ge 26, [79], none),
  (56, .iload_n 2, [2], none),
  (57, .aload_n 0, [0], none),
  (58, .getfield 7, [], some (eF 11 2)),
  (61, .iload_n 3, [3], none),
  (62, .iaload, [], none),
  (63, .ifCond .lt 7, [70], none),
  (66, .iconst 1, [], some (eI 1)),
  (67, .goto 4, [71], none),
  (70, .iconst 0, [], some (eI 0)),
  (71, .iadd, [], none),
  (72, .istore_n 2, [2], none),
  (73, .iinc 3 1, [3], some (eI 1)),
  (76, .goto (-26), [50], none),
  (79, .iload_n 2, [2], none),
  (80, .ireturn, [], none),
  (81, .aload_n 0, [0], none),
  (82, .getfield 19, [], some (eF 11 5)),
  (85, .iload_n 1, [1], none),
  (86, .iconst 1, [], some (eI 1)),
  (87, .isub, [], none),
  (88, .iaload, [], none),
  (89, .ireturn, [], none),
  (90, .aload_n 0, [0], none),
  (91, .getfield 83, [], some (eF 11 9)),
  (94, .ireturn, [], none),
  (95, .ldc 76, [], some (eI (-1000001))),
  (97, .ireturn, [], none)]
theorem okRef_count : am_mok mRef_count kRef_count := ⟨by decide +kernel, plRef, by decide +kernel, poRef⟩
def kRef_status : List am_E := [(0, .aload_n 0, [0], none),
  (1, .iconst 0, [], some (eI 0)),
  (2, .putfield 56, [], some (eF 11 0)),
  (5, .aload_n 0, [0], none),
  (6, .getfield 60, [], some (eF 11 1)),
  (9, .ireturn, [], none)]
theorem okRef_status : am_mok mRef_status kRef_status := ⟨by decide +kernel, plRef, by decide +kernel, poRef⟩
end
section
theorem peRows_0_11 : am_pk "PaperedOver$Rows" 0 11 (eF 1 0) := ⟨(rc_1, tc_1, 4), rfl, by decide, (gm 74 (by decide +kernel) (by decide +kernel))⟩
theorem peRows_0_15 : am_pk "PaperedOver$Rows" 0 15 (eF 1 1) := ⟨(rc_1, tc_1, 4), rfl, by decide, (gm 75 (by decide +kernel) (by decide +kernel))⟩
theorem peRows_0_19 : am_pk "PaperedOver$Rows" 0 19 (eF 1 2) := ⟨(rc_1, tc_1, 4), rfl, by decide, (gm 76 (by decide +kernel) (by decide +kernel))⟩
theorem peRows_0_22 : am_pk "PaperedOver$Rows" 0 22 (eF 1 3) := ⟨(rc_1, tc_1, 4), rfl, by decide, (gm 77 (by decide +kernel) (by decide +kernel))⟩
theorem peRows_1_39 : am_pk "PaperedOver$Rows" 1 39 (eI (-1000000)) := (gm 458 (by decide +kernel) (by decide +kernel))
theorem peRows_4_25 : am_pk "PaperedOver$Rows" 4 25 (eC 62 2 1) := ⟨1, rfl, wRows_isRow, (gm 430 (by decide +kernel) (by decide +kernel)), vRows_isRow.1, vRows_isRow.2, Or.inl ⟨_, rfl, rfl⟩⟩
theorem peRows_4_35 : am_pk "PaperedOver$Rows" 4 35 (eC 66 4 1) := ⟨3, rfl, wRows_holds, (gm 457 (by decide +kernel) (by decide +kernel)), vRows_holds.1, vRows_holds.2, Or.inl ⟨_, rfl, rfl⟩⟩
theorem peRows_4_46 : am_pk "PaperedOver$Rows" 4 46 (eC 64 2 1) := ⟨1, rfl, wRows_isThere, (gm 482 (by decide +kernel) (by decide +kernel)), vRows_isThere.1, vRows_isThere.2, Or.inl ⟨_, rfl, rfl⟩⟩
theorem peRows_5_29 : am_pk "PaperedOver$Rows" 5 29 (eC 210 4 0) := ⟨wArr_fill4, sArr_fill4, Or.inl (gm 431 (by decide +kernel) (by decide +kernel))⟩
theorem peRows_5_40 : am_pk "PaperedOver$Rows" 5 40 (eX) := ⟨(gm 471 (by decide +kernel) (by decide +kernel)), (gm 473 (by decide +kernel) (by decide +kernel)), (gm 472 (by decide +kernel) (by decide +kernel)), (gm 54 (by decide +kernel) (by decide +kernel))⟩
def plRows : List (Nat × Nat × am_N) := [(0, 11, eF 1 0), (0, 15, eF 1 1), (0, 19, eF 1 2), (0, 22, eF 1 3), (1, 39, eI (-1000000)), (4, 25, eC 62 2 1), (4, 35, eC 66 4 1), (4, 46, eC 64 2 1), (5, 29, eC 210 4 0), (5, 40, eX)]
theorem poRows : ∀ q ∈ plRows, am_pk "PaperedOver$Rows" q.1 q.2.1 q.2.2 := List.forall_mem_cons.mpr ⟨peRows_0_11, List.forall_mem_cons.mpr ⟨peRows_0_15, List.forall_mem_cons.mpr ⟨peRows_0_19, List.forall_mem_cons.mpr ⟨peRows_0_22, List.forall_mem_cons.mpr ⟨peRows_1_39, List.forall_mem_cons.mpr ⟨peRows_4_25, List.forall_mem_cons.mpr ⟨peRows_4_35, List.forall_mem_cons.mpr ⟨peRows_4_46, List.forall_mem_cons.mpr ⟨peRows_5_29, List.forall_mem_cons.mpr ⟨peRows_5_40, fun _ h => absurd h List.not_mem_nil⟩⟩⟩⟩⟩⟩⟩⟩⟩⟩
def kRows_isRow : List am_E := [(0, .iload_n 1, [1], none),
  (1, .ifCond .lt 13, [14], none),
  (4, .iload_n 1, [1], none),
  (5, .bipush 8, [], some (eI 8)),
  (7, .if_icmp .ge 7, [14], none),
  (10, .iconst 1, [], some (eI 1)),
  (11, .goto 4, [15], none),
  (14, .iconst 0, [], some (eI 0)),
  (15, .ireturn, [], none)]
theorem okRows_isRow : am_mok mRows_isRow kRows_isRow := ⟨by decide +kernel, plRows, by decide +kernel, poRows⟩
def kRows_isLane : List am_E := [(0, .iload_n 1, [1], none),
  (1, .ifCond .lt 12, [13], none),
  (4, .iload_n 1, [1], none),
  (5, .iconst 2, [], some (eI 2)),
  (6, .if_icmp .gt 7, [13], none),
  (9, .iconst 1, [], some (eI 1)),
  (10, .goto 4, [14], none),
  (13, .iconst 0, [], some (eI 0)),
  (14, .ireturn, [], none)]
theorem okRows_isLane : am_mok mRows_isLane kRows_isLane := ⟨by decide +kernel, plRows, by decide +kernel, poRows⟩
def kRows_isThere : List am_E := [(0, .aload_n 0, [0], none),
  (1, .iload_n 1, [1], none),
  (2, .invokevirtual 25, [], some (eC 62 2 1)),
  (5, .ifCond .eq 16, [21], none),
  (8, .aload_n 0, [0], none),
  (9, .getfield 11, [], some (eF 1 0)),
  (12, .iload_n 1, [1], none),
  (13, .baload, [], none),
  (14, .ifCond .eq 7, [21], none),
  (17, .iconst 1, [], some (eI 1)),
  (18, .goto 4, [22], none),
  (21, .iconst 0, [], some (eI 0)),
  (22, .ireturn, [], none)]
theorem okRows_isThere : am_mok mRows_isThere kRows_isThere := ⟨by decide +kernel, plRows, by decide +kernel, poRows⟩
def kRows_alike : List am_E := [(0, .aload_n 0, [0], none),
  (1, .iload_n 1, [1], none),
  (2, .invokevirtual 25, [], some (eC 62 2 1)),
  (5, .ifCond .eq 30, [35], none),
  (8, .aload_n 0, [0], none),
  (9, .iload_n 2, [2], none),
  (10, .invokevirtual 25, [], some (eC 62 2 1)),
  (13, .ifCond .eq 22, [35], none),
  (16, .aload_n 0, [0], none),
  (17, .getfield 15, [], some (eF 1 1)),
  (20, .iload_n 1, [1], none),
  (21, .iaload, [], none),
  (22, .aload_n 0, [0], none),
  (23, .getfield 15, [], some (eF 1 1)),
  (26, .iload_n 2, [2], none),
  (27, .iaload, [], none),
  (28, .if_icmp .ne 7, [35], none),
  (31, .iconst 1, [], some (eI 1)),
  (32, .goto 4, [36], none),
  (35, .iconst 0, [], some (eI 0)),
  (36, .ireturn, [], none)]
theorem okRows_alike : am_mok mRows_alike kRows_alike := ⟨by decide +kernel, plRows, by decide +kernel, poRows⟩
def kRows_holds : List am_E := [(0, .aload_n 0, [0], none),
  (1, .iload_n 1, [1], none),
  (2, .invokevirtual 25, [], some (eC 62 2 1)),
  (5, .ifCond .eq 27, [32], none),
  (8, .iload_n 2, [2], none),
  (9, .ifCond .lt 23, [32], none),
  (12, .iload_n 3, [3], none),
  (13, .ifCond .lt 19, [32], none),
  (16, .iload_n 2, [2], none),
  (17, .aload_n 0, [0], none),
  (18, .getfield 19, [], some (eF 1 2)),
  (21, .iload_n 1, [1], none),
  (22, .iaload, [], none),
  (23, .iload_n 3, [3], none),
  (24, .isub, [], none),
  (25, .if_icmp .gt 7, [32], none),
  (28, .iconst 1, [], some (eI 1)),
  (29, .goto 4, [33], none),
  (32, .iconst 0, [], some (eI 0)),
  (33, .ireturn, [], none)]
theorem okRows_holds : am_mok mRows_holds kRows_holds := ⟨by decide +kernel, plRows, by decide +kernel, poRows⟩
def kRows_make : List am_E := [(0, .aload_n 0, [0], none),
  (1, .iload_n 1, [1], none),
  (2, .invokevirtual 25, [], some (eC 62 2 1)),
  (5, .ifCond .eq 13, [18], none),
  (8, .iload_n 3, [3], none),
  (9, .ifCond .lt 9, [18], none),
  (12, .iload_n 3, [3], none),
  (13, .bipush 40, [], some (eI 40)),
  (15, .if_icmp .le 4, [19], none),
  (18, .return_, [], none),
  (19, .aload_n 0, [0], none),
  (20, .getfield 11, [], some (eF 1 0)),
  (23, .iload_n 1, [1], none),
  (24, .iconst 1, [], some (eI 1)),
  (25, .bastore, [], none),
  (26, .aload_n 0, [0], none),
  (27, .getfield 15, [], some (eF 1 1)),
  (30, .iload_n 1, [1], none),
  (31, .iload_n 2, [2], none),
  (32, .iastore, [], none),
  (33, .aload_n 0, [0], none),
  (34, .getfield 19, [], some (eF 1 2)),
  (37, .iload_n 1, [1], none),
  (38, .iload_n 3, [3], none),
  (39, .iastore, [], none),
  (40, .aload_n 0, [0], none),
  (41, .getfield 22, [], some (eF 1 3)),
  (44, .iload_n 1, [1], none),
  (45, .bipush 40, [], some (eI 40)),
  (47, .imul, [], none),
  (48, .iload_n 1, [1], none),
  (49, .bipush 40, [], some (eI 40)),
  (51, .imul, [], none),
  (52, .iload_n 3, [3], none),
  (53, .iadd, [], none),
  (54, .iconst 0, [], some (eI 0)),
  (55, .invokestatic 29, [], some (eC 210 4 0)),
  (58, .return_, [], none)]
theorem okRows_make : am_mok mRows_make kRows_make := ⟨by decide +kernel, plRows, by decide +kernel, poRows⟩
def kRows_item : List am_E := [(0, .aload_n 0, [0], none),
  (1, .iload_n 1, [1], none),
  (2, .iload_n 2, [2], none),
  (3, .iconst 1, [], some (eI 1)),
  (4, .invokevirtual 35, [], some (eC 66 4 1)),
  (7, .ifCond .eq 17, [24], none),
  (10, .aload_n 0, [0], none),
  (11, .getfield 22, [], some (eF 1 3)),
  (14, .iload_n 1, [1], none),
  (15, .bipush 40, [], some (eI 40)),
  (17, .imul, [], none),
  (18, .iload_n 2, [2], none),
  (19, .iadd, [], none),
  (20, .iaload, [], none),
  (21, .goto 5, [26], none),
  (24, .ldc 39, [], some (eI (-1000000))),
  (26, .ireturn, [], none)]
theorem okRows_item : am_mok mRows_item kRows_item := ⟨by decide +kernel, plRows, by decide +kernel, poRows⟩
def kRows_put : List am_E := [(0, .aload_n 0, [0], none),
  (1, .iload_n 1, [1], none),
  (2, .iload_n 2, [2], none),
  (3, .iconst 1, [], some (eI 1)),
  (4, .invokevirtual 35, [], some (eC 66 4 1)),
  (7, .ifCond .ne 6, [13], none),
  (10, .ldc 39, [], some (eI (-1000000))),
  (12, .ireturn, [], none),
  (13, .iload_n 3, [3], none),
  (14, .istore 4, [4], none),
  (16, .aload_n 0, [0], none),
  (17, .getfield 15, [], some (eF 1 1)),
  (20, .iload_n 1, [1], none),
  (21, .iaload, [], none),
  (22, .ifCond .ne 7, [29], none),
  (25, .iload_n 3, [3], none),
  (26, .i2b, [], none),
  (27, .istore 4, [4], none),
  (29, .aload_n 0, [0], none),
  (30, .getfield 15, [], some (eF 1 1)),
  (33, .iload_n 1, [1], none),
  (34, .iaload, [], none),
  (35, .iconst 1, [], some (eI 1)),
  (36, .if_icmp .ne 7, [43], none),
  (39, .iload_n 3, [3], none),
  (40, .i2s, [], none),
  (41, .istore 4, [4], none),
  (43, .aload_n 0, [0], none),
  (44, .getfield 22, [], some (eF 1 3)),
  (47, .iload_n 1, [1], none),
  (48, .bipush 40, [], some (eI 40)),
  (50, .imul, [], none),
  (51, .iload_n 2, [2], none),
  (52, .iadd, [], none),
  (53, .iload 4, [4], none),
  (55, .iastore, [], none),
  (56, .iload 4, [4], none),
  (58, .ireturn, [], none)]
theorem okRows_put : am_mok mRows_put kRows_put := ⟨by decide +kernel, plRows, by decide +kernel, poRows⟩
def kRows_move : List am_E := [(0, .aload_n 0, [0], none),
  (1, .iload_n 1, [1], none),
  (2, .iload_n 2, [2], none),
  (3, .iload 5, [5], none),
  (5, .invokevirtual 35, [], some (eC 66 4 1)),
  (8, .ifCond .eq 15, [23], none),
  (11, .aload_n 0, [0], none),
  (12, .iload_n 3, [3], none),
  (13, .iload 4, [4], none),
  (15, .iload 5, [5], none),
  (17, .invokevirtual 35, [], some (eC 66 4 1)),
  (20, .ifCond .ne 4, [24], none),
  (23, .return_, [], none),
  (24, .aload_n 0, [0], none),
  (25, .getfield 22, [], some (eF 1 3)),
  (28, .iload_n 1, [1], none),
  (29, .bipush 40, [], some (eI 40)),
  (31, .imul, [], none),
  (32, .iload_n 2, [2], none),
  (33, .iadd, [], none),
  (34, .aload_n 0, [0], none),
  (35, .getfield 22, [], some (eF 1 3)),
  (38, .iload_n 3, [3], none),
  (39, .bipush 40, [], some (eI 40)),
  (41, .imul, [], none),
  (42, .iload 4, [4], none),
  (44, .iadd, [], none),
  (45, .iload 5, [5], none),
  (47, .invokestatic 40, [], some (eX)),
  (50, .return_, [], none)]
theorem okRows_move : am_mok mRows_move kRows_move := ⟨by decide +kernel, plRows, by decide +kernel, poRows⟩
def kRows_remove : List am_E := [(0, .aload_n 0, [0], none),
  (1, .iload_n 1, [1], none),
  (2, .invokevirtual 46, [], some (eC 64 2 1)),
  (5, .ifCond .ne 5, [10], none),
  (8, .iconst 0, [], some (eI 0)),
  (9, .ireturn, [], none),
  (10, .aload_n 0, [0], none),
  (11, .getfield 19, [], some (eF 1 2)),
  (14, .iload_n 1, [1], none),
  (15, .iaload, [], none),
  (16, .istore_n 2, [2], none),
  (17, .aload_n 0, [0], none),
  (18, .getfield 11, [], some (eF 1 0)),
  (21, .iload_n 1, [1], none),
  (22, .iconst 0, [], some (eI 0)),
  (23, .bastore, [], none),
  (24, .aload_n 0, [0], none),
  (25, .getfield 19, [], some (eF 1 2)),
  (28, .iload_n 1, [1], none),
  (29, .iconst 0, [], some (eI 0)),
  (30, .iastore, [], none),
  (31, .iload_n 2, [2], none),
  (32, .ireturn, [], none)]
theorem okRows_remove : am_mok mRows_remove kRows_remove := ⟨by decide +kernel, plRows, by decide +kernel, poRows⟩
def kRows_howMany : List am_E := [(0, .iconst 0, [], some (eI 0)),
  (1, .istore_n 1, [1], none),
  (2, .iconst 0, [], some (eI 0)),
  (3, .istore_n 2, [2], none),
  (4, .iload_n 2, [2], none),
  (5, .bipush 8, [], some (eI 8)),
  (7, .if_icmp .ge 21, [28], none),
  (10, .aload_n 0, [0], none),
  (11, .getfield 11, [], some (eF 1 0)),
  (14, .iload_n 2, [2], none),
  (15, .baload, [], none),
  (16, .ifCond .eq 6, [22], none),
  (19, .iinc 1 1, [1], some (eI 1)),
  (22, .iinc 2 1, [2], some (eI 1)),
  (25, .goto (-21), [4], none),
  (28, .iload_n 1, [1], none),
  (29, .ireturn, [], none)]
theorem okRows_howMany : am_mok mRows_howMany kRows_howMany := ⟨by decide +kernel, plRows, by decide +kernel, poRows⟩
end
section
theorem peSpots_0_11 : am_pk "PaperedOver$Spots" 0 11 (eF 5 1) := ⟨(rc_5, tc_5, 4), rfl, by decide, (gm 226 (by decide +kernel) (by decide +kernel))⟩
theorem peSpots_0_15 : am_pk "PaperedOver$Spots" 0 15 (eF 5 2) := ⟨(rc_5, tc_5, 4), rfl, by decide, (gm 229 (by decide +kernel) (by decide +kernel))⟩
theorem peSpots_0_18 : am_pk "PaperedOver$Spots" 0 18 (eF 5 3) := ⟨(rc_5, tc_5, 4), rfl, by decide, (gm 232 (by decide +kernel) (by decide +kernel))⟩
theorem peSpots_0_21 : am_pk "PaperedOver$Spots" 0 21 (eF 5 0) := ⟨(rc_5, tc_5, 4), rfl, by decide, (gm 223 (by decide +kernel) (by decide +kernel))⟩
theorem peSpots_1_29 : am_pk "PaperedOver$Spots" 1 29 (eI (-1000000)) := (gm 677 (by decide +kernel) (by decide +kernel))
theorem peSpots_4_25 : am_pk "PaperedOver$Spots" 4 25 (eC 73 2 5) := ⟨1, rfl, wSpots_isSpot, (gm 673 (by decide +kernel) (by decide +kernel)), vSpots_isSpot.1, vSpots_isSpot.2, Or.inl ⟨_, rfl, rfl⟩⟩
theorem peSpots_4_30 : am_pk "PaperedOver$Spots" 4 30 (eC 74 1 5) := ⟨0, rfl, wSpots_hasRoom, (gm 760 (by decide +kernel) (by decide +kernel)), vSpots_hasRoom.1, vSpots_hasRoom.2, Or.inl ⟨_, rfl, rfl⟩⟩
theorem peSpots_5_34 : am_pk "PaperedOver$Spots" 5 34 (eX) := ⟨(gm 955 (by decide +kernel) (by decide +kernel)), (gm 473 (by decide +kernel) (by decide +kernel)), (gm 472 (by decide +kernel) (by decide +kernel)), (gm 54 (by decide +kernel) (by decide +kernel))⟩
def plSpots : List (Nat × Nat × am_N) := [(0, 11, eF 5 1), (0, 15, eF 5 2), (0, 18, eF 5 3), (0, 21, eF 5 0), (1, 29, eI (-1000000)), (4, 25, eC 73 2 5), (4, 30, eC 74 1 5), (5, 34, eX)]
theorem poSpots : ∀ q ∈ plSpots, am_pk "PaperedOver$Spots" q.1 q.2.1 q.2.2 := List.forall_mem_cons.mpr ⟨peSpots_0_11, List.forall_mem_cons.mpr ⟨peSpots_0_15, List.forall_mem_cons.mpr ⟨peSpots_0_18, List.forall_mem_cons.mpr ⟨peSpots_0_21, List.forall_mem_cons.mpr ⟨peSpots_1_29, List.forall_mem_cons.mpr ⟨peSpots_4_25, List.forall_mem_cons.mpr ⟨peSpots_4_30, List.forall_mem_cons.mpr ⟨peSpots_5_34, fun _ h => absurd h List.not_mem_nil⟩⟩⟩⟩⟩⟩⟩⟩
def kSpots_isSpot : List am_E := [(0, .iload_n 1, [1], none),
  (1, .ifCond .lt 15, [16], none),
  (4, .iload_n 1, [1], none),
  (5, .aload_n 0, [0], none),
  (6, .getfield 21, [], some (eF 5 0)),
  (9, .if_icmp .ge 7, [16], none),
  (12, .iconst 1, [], some (eI 1)),
  (13, .goto 4, [17], none),
  (16, .iconst 0, [], some (eI 0)),
  (17, .ireturn, [], none)]
theorem okSpots_isSpot : am_mok mSpots_isSpot kSpots_isSpot := ⟨by decide +kernel, plSpots, by decide +kernel, poSpots⟩
def kSpots_hasRoom : List am_E := [(0, .aload_n 0, [0], none),
  (1, .getfield 21, [], some (eF 5 0)),
  (4, .bipush 9, [], some (eI 9)),
  (6, .if_icmp .ge 7, [13], none),
  (9, .iconst 1, [], some (eI 1)),
  (10, .goto 4, [14], none),
  (13, .iconst 0, [], some (eI 0)),
  (14, .ireturn, [], none)]
theorem okSpots_hasRoom : am_mok mSpots_hasRoom kSpots_hasRoom := ⟨by decide +kernel, plSpots, by decide +kernel, poSpots⟩
def kSpots_layer : List am_E := [(0, .aload_n 0, [0], none),
  (1, .iload_n 1, [1], none),
  (2, .invokevirtual 25, [], some (eC 73 2 5)),
  (5, .ifCond .eq 17, [22], none),
  (8, .iload_n 2, [2], none),
  (9, .ifCond .lt 13, [22], none),
  (12, .iload_n 2, [2], none),
  (13, .aload_n 0, [0], none),
  (14, .getfield 15, [], some (eF 5 2)),
  (17, .iload_n 1, [1], none),
  (18, .iaload, [], none),
  (19, .if_icmp .lt 6, [25], none),
  (22, .ldc 29, [], some (eI (-1000000))),
  (24, .ireturn, [], none),
  (25, .aload_n 0, [0], none),
  (26, .getfield 18, [], some (eF 5 3)),
  (29, .iload_n 1, [1], none),
  (30, .bipush 8, [], some (eI 8)),
  (32, .imul, [], none),
  (33, .iload_n 2, [2], none),
  (34, .iadd, [], none),
  (35, .iaload, [], none),
  (36, .ireturn, [], none)]
theorem okSpots_layer : am_mok mSpots_layer kSpots_layer := ⟨by decide +kernel, plSpots, by decide +kernel, poSpots⟩
def kSpots_open : List am_E := [(0, .aload_n 0, [0], none),
  (1, .invokevirtual 30, [], some (eC 74 1 5)),
  (4, .ifCond .ne 4, [8], none),
  (7, .return_, [], none),
  (8, .aload_n 0, [0], none),
  (9, .getfield 11, [], some (eF 5 1)),
  (12, .aload_n 0, [0], none),
  (13, .getfield 21, [], some (eF 5 0)),
  (16, .iload_n 1, [1], none),
  (17, .iastore, [], none),
  (18, .aload_n 0, [0], none),
  (19, .getfield 15, [], some (eF 5 2)),
  (22, .aload_n 0, [0], none),
  (23, .getfield 21, [], some (eF 5 0)),
  (26, .iconst 0, [], some (eI 0)),
  (27, .iastore, [], none),
  (28, .aload_n 0, [0], none),
  (29, .dup, [], none),
  (30, .getfield 21, [], some (eF 5 0)),
  (33, .iconst 1, [], some (eI 1)),
  (34, .iadd, [], none),
  (35, .putfield 21, [], some (eF 5 0)),
  (38, .return_, [], none)]
theorem okSpots_open : am_mok mSpots_open kSpots_open := ⟨by decide +kernel, plSpots, by decide +kernel, poSpots⟩
def kSpots_lay : List am_E := [(0, .aload_n 0, [0], none),
  (1, .iload_n 1, [1], none),
  (2, .invokevirtual 25, [], some (eC 73 2 5)),
  (5, .ifCond .eq 14, [19], none),
  (8, .aload_n 0, [0], none),
  (9, .getfield 15, [], some (eF 5 2)),
  (12, .iload_n 1, [1], none),
  (13, .iaload, [], none),
  (14, .bipush 8, [], some (eI 8)),
  (16, .if_icmp .lt 4, [20], none),
  (19, .return_, [], none),
  (20, .aload_n 0, [0], none),
  (21, .getfield 18, [], some (eF 5 3)),
  (24, .iload_n 1, [1], none),
  (25, .bipush 8, [], some (eI 8)),
  (27, .imul, [], none),
  (28, .aload_n 0, [0], none),
  (29, .getfield 15, [], some (eF 5 2)),
  (32, .iload_n 1, [1], none),
  (33, .iaload, [], none),
  (34, .iadd, [], none),
  (35, .iload_n 2, [2], none),
  (36, .iastore, [], none),
  (37, .aload_n 0, [0], none),
  (38, .getfield 15, [], some (eF 5 2)),
  (41, .iload_n 1, [1], none),
  (42, .dup2, [], none),
  (43, .iaload, [], none),
  (44, .iconst 1, [], some (eI 1)),
  (45, .iadd, [], none),
  (46, .iastore, [], none),
  (47, .return_, [], none)]
theorem okSpots_lay : am_mok mSpots_lay kSpots_lay := ⟨by decide +kernel, plSpots, by decide +kernel, poSpots⟩
def kSpots_take : List am_E := [(0, .aload_n 0, [0], none),
  (1, .aload_n 1, [1], none),
  (2, .getfield 21, [], some (eF 5 0)),
  (5, .putfield 21, [], some (eF 5 0)),
  (8, .aload_n 1, [1], none),
  (9, .getfield 11, [], some (eF 5 1)),
  (12, .iconst 0, [], some (eI 0)),
  (13, .aload_n 0, [0], none),
  (14, .getfield 11, [], some (eF 5 1)),
  (17, .iconst 0, [], some (eI 0)),
  (18, .bipush 9, [], some (eI 9)),
  (20, .invokestatic 34, [], some (eX)),
  (23, .aload_n 1, [1], none),
  (24, .getfield 15, [], some (eF 5 2)),
  (27, .iconst 0, [], some (eI 0)),
  (28, .aload_n 0, [0], none),
  (29, .getfield 15, [], some (eF 5 2)),
  (32, .iconst 0, [], some (eI 0)),
  (33, .bipush 9, [], some (eI 9)),
  (35, .invokestatic 34, [], some (eX)),
  (38, .aload_n 1, [1], none),
  (39, .getfield 18, [], some (eF 5 3)),
  (42, .iconst 0, [], some (eI 0)),
  (43, .aload_n 0, [0], none),
  (44, .getfield 18, [], some (eF 5 3)),
  (47, .iconst 0, [], some (eI 0)),
  (48, .bipush 72, [], some (eI 72)),
  (50, .invokestatic 34, [], some (eX)),
  (53, .return_, [], none)]
theorem okSpots_take : am_mok mSpots_take kSpots_take := ⟨by decide +kernel, plSpots, by decide +kernel, poSpots⟩
end
section
theorem peStr_0_9 : am_pk "java/lang/String" 0 9 (eT 1) := Or.inr ⟨rfl, (gm 1422 (by decide +kernel) (by decide +kernel))⟩
theorem peStr_0_15 : am_pk "java/lang/String" 0 15 (eT 0) := Or.inl ⟨rfl, (gm 1423 (by decide +kernel) (by decide +kernel))⟩
theorem peStr_3_38 : am_pk "java/lang/String" 3 38 (eI 1) := ⟨rfl, (gm 546 (by decide +kernel) (by decide +kernel))⟩
theorem peStr_3_1053 : am_pk "java/lang/String" 3 1053 (eR (aR 15 0 0)) := Or.inr ⟨rfl, (gm 562 (by decide +kernel) (by decide +kernel))⟩
theorem peStr_4_335 : am_pk "java/lang/String" 4 335 (eC 204 1 13) := ⟨0, rfl, wStr_coder, (gm 542 (by decide +kernel) (by decide +kernel)), vStr_coder.1, vStr_coder.2, Or.inr ⟨rfl, rfl⟩⟩
theorem peStr_4_492 : am_pk "java/lang/String" 4 492 (eC 205 1 13) := ⟨0, rfl, wStr_isLatin1, (gm 552 (by decide +kernel) (by decide +kernel)), vStr_isLatin1.1, vStr_isLatin1.2, Or.inr ⟨rfl, rfl⟩⟩
theorem peStr_5_495 : am_pk "java/lang/String" 5 495 (eC 207 2 0) := ⟨wLat_charAt, sLat_charAt, Or.inl (gm 556 (by decide +kernel) (by decide +kernel))⟩
theorem peStr_5_1059 : am_pk "java/lang/String" 5 1059 (eC 211 3 0) := ⟨wPre_checkIndex, sPre_checkIndex, Or.inl (gm 564 (by decide +kernel) (by decide +kernel))⟩
def plStr : List (Nat × Nat × am_N) := [(0, 9, eT 1), (0, 15, eT 0), (3, 38, eI 1), (3, 1053, eR (aR 15 0 0)), (4, 335, eC 204 1 13), (4, 492, eC 205 1 13), (5, 495, eC 207 2 0), (5, 1059, eC 211 3 0)]
theorem poStr : ∀ q ∈ plStr, am_pk "java/lang/String" q.1 q.2.1 q.2.2 := List.forall_mem_cons.mpr ⟨peStr_0_9, List.forall_mem_cons.mpr ⟨peStr_0_15, List.forall_mem_cons.mpr ⟨peStr_3_38, List.forall_mem_cons.mpr ⟨peStr_3_1053, List.forall_mem_cons.mpr ⟨peStr_4_335, List.forall_mem_cons.mpr ⟨peStr_4_492, List.forall_mem_cons.mpr ⟨peStr_5_495, List.forall_mem_cons.mpr ⟨peStr_5_1059, fun _ h => absurd h List.not_mem_nil⟩⟩⟩⟩⟩⟩⟩⟩
def kStr_length : List am_E := [(0, .aload_n 0, [0], none),
  (1, .getfield 9, [], some (eT 1)),
  (4, .arraylength, [], none),
  (5, .aload_n 0, [0], none),
  (6, .invokevirtual 335, [], some (eC 204 1 13)),
  (9, .ishr, [], none),
  (10, .ireturn, [], none)]
theorem okStr_length : am_mok mStr_length kStr_length := ⟨by decide +kernel, plStr, by decide +kernel, poStr⟩
def kStr_charAt : List am_E := [(0, .aload_n 0, [0], none),
  (1, .invokevirtual 492, [], some (eC 205 1 13)),
  (4, .ifCond .eq 12, [16], none),
  (7, .aload_n 0, [0], none),
  (8, .getfield 9, [], some (eT 1)),
  (11, .iload_n 1, [1], none),
  (12, .invokestatic 495, [], some (eC 207 2 0)),
  (15, .ireturn, [], none),
  (16, .aload_n 0, [0], none),
  (17, .getfield 9, [], some (eT 1)),
  (20, .iload_n 1, [1], none),
  (21, .invokestatic 498, [], none),
  (24, .ireturn, [], none)]
theorem okStr_charAt : am_mok mStr_charAt kStr_charAt := ⟨by decide +kernel, plStr, by decide +kernel, poStr⟩
def kStr_coder : List am_E := [(0, .getstatic 38, [], some (eI 1)),
  (3, .ifCond .eq 10, [13], none),
  (6, .aload_n 0, [0], none),
  (7, .getfield 15, [], some (eT 0)),
  (10, .goto 4, [14], none),
  (13, .iconst 1, [], some (eI 1)),
  (14, .ireturn, [], none)]
theorem okStr_coder : am_mok mStr_coder kStr_coder := ⟨by decide +kernel, plStr, by decide +kernel, poStr⟩
def kStr_isLatin1 : List am_E := [(0, .getstatic 38, [], some (eI 1)),
  (3, .ifCond .eq 14, [17], none),
  (6, .aload_n 0, [0], none),
  (7, .getfield 15, [], some (eT 0)),
  (10, .ifCond .ne 7, [17], none),
  (13, .iconst 1, [], some (eI 1)),
  (14, .goto 4, [18], none),
  (17, .iconst 0, [], some (eI 0)),
  (18, .ireturn, [], none)]
theorem okStr_isLatin1 : am_mok mStr_isLatin1 kStr_isLatin1 := ⟨by decide +kernel, plStr, by decide +kernel, poStr⟩
def kStr_checkIndex : List am_E := [(0, .iload_n 0, [0], none),
  (1, .iload_n 1, [1], none),
  (2, .getstatic 1053, [], some (eR (aR 15 0 0))),
  (5, .invokestatic 1059, [], some (eC 211 3 0)),
  (8, .pop, [], none),
  (9, .return_, [], none)]
theorem okStr_checkIndex : am_mok mStr_checkIndex kStr_checkIndex := ⟨by decide +kernel, plStr, by decide +kernel, poStr⟩
end
section
theorem peTape_0_9 : am_pk "PaperedOver$Tape" 0 9 (eF 2 0) := ⟨(rc_2, tc_2, 2), rfl, by decide, (gm 95 (by decide +kernel) (by decide +kernel))⟩
theorem peTape_0_13 : am_pk "PaperedOver$Tape" 0 13 (eF 2 1) := ⟨(rc_2, tc_2, 2), rfl, by decide, (gm 96 (by decide +kernel) (by decide +kernel))⟩
def plTape : List (Nat × Nat × am_N) := [(0, 9, eF 2 0), (0, 13, eF 2 1)]
theorem poTape : ∀ q ∈ plTape, am_pk "PaperedOver$Tape" q.1 q.2.1 q.2.2 := List.forall_mem_cons.mpr ⟨peTape_0_9, List.forall_mem_cons.mpr ⟨peTape_0_13, fun _ h => absurd h List.not_mem_nil⟩⟩
def kTape_hasRoom : List am_E := [(0, .iload_n 1, [1], none),
  (1, .sipush 500, [], some (eI 500)),
  (4, .aload_n 0, [0], none),
  (5, .getfield 13, [], some (eF 2 1)),
  (8, .isub, [], none),
  (9, .if_icmp .gt 7, [16], none),
  (12, .iconst 1, [], some (eI 1)),
  (13, .goto 4, [17], none),
  (16, .iconst 0, [], some (eI 0)),
  (17, .ireturn, [], none)]
theorem okTape_hasRoom : am_mok mTape_hasRoom kTape_hasRoom := ⟨by decide +kernel, plTape, by decide +kernel, poTape⟩
def kTape_append : List am_E := [(0, .iload_n 3, [3], none),
  (1, .iconst 1, [], some (eI 1)),
  (2, .isub, [], none),
  (3, .istore 4, [4], none),
  (5, .iload 4, [4], none),
  (7, .ifCond .lt 50, [57], none),
  (10, .aload_n 0, [0], none),
  (11, .getfield 13, [], some (eF 2 1)),
  (14, .sipush 500, [], some (eI 500)),
  (17, .if_icmp .ge 40, [57], none),
  (20, .aload_n 0, [0], none),
  (21, .getfield 9, [], some (eF 2 0)),
  (24, .aload_n 0, [0], none),
  (25, .getfield 13, [], some (eF 2 1)),
  (28, .lload_n 1, [1], none),
  (29, .bipush 8, [], some (eI 8)),
  (31, .iload 4, [4], none),
  (33, .imul, [], none),
  (34, .lushr, [], none),
  (35, .l2i, [], none),
  (36, .sipush 255, [], some (eI 255)),
  (39, .iand, [], none),
  (40, .iastore, [], none),
  (41, .aload_n 0, [0], none),
  (42, .dup, [], none),
  (43, .getfield 13, [], some (eF 2 1)),
  (46, .iconst 1, [], some (eI 1)),
  (47, .iadd, [], none),
  (48, .putfield 13, [], some (eF 2 1)),
  (51, .iinc 4 (-1), [4], some (eI (-1))),
  (54, .goto (-49), [5], none),
  (57, .return_, [], none)]
theorem okTape_append : am_mok mTape_append kTape_append := ⟨by decide +kernel, plTape, by decide +kernel, poTape⟩
def kTape_at : List am_E := [(0, .iload_n 1, [1], none),
  (1, .ifCond .lt 20, [21], none),
  (4, .iload_n 1, [1], none),
  (5, .aload_n 0, [0], none),
  (6, .getfield 13, [], some (eF 2 1)),
  (9, .if_icmp .ge 12, [21], none),
  (12, .aload_n 0, [0], none),
  (13, .getfield 9, [], some (eF 2 0)),
  (16, .iload_n 1, [1], none),
  (17, .iaload, [], none),
  (18, .goto 4, [22], none),
  (21, .iconst (-1), [], some (eI (-1))),
  (22, .ireturn, [], none)]
theorem okTape_at : am_mok mTape_at kTape_at := ⟨by decide +kernel, plTape, by decide +kernel, poTape⟩
end
section
theorem con_of {d n : Nat} {as : List am_V} {M : am_M} {Po : Option am_V → am_M → Prop} {code : List am_E} (hok : am_mok n code) (lv0 : am_L) (ret : Option FieldType) (h : am_Sem d ret code lv0 M Po) (h0 : am_lv0 (mt n).2.2.1 as = lv0 := by rfl) (hlen : (am_args as).length ≤ (mt n).2.2.1 := by exact Nat.le_of_ble_eq_true rfl) (hret : (mt n).2.2.2 = ret := by rfl) : ConP d n as M Po := con_of0 am_clok_ok hok lv0 h0 hlen hret h
/-! booleans and small numbers -/
def b2i (p : Prop) [Decidable p] : Int32 := if p then 1 else 0
theorem b2i_0 {p : Prop} [Decidable p] : b2i p = 0 ↔ ¬ p := by
  unfold b2i
  by_cases h : p
  · rw [if_pos h]; exact ⟨fun q => absurd q (by decide), fun q => absurd h q⟩
  · rw [if_neg h]; exact ⟨fun _ => h, fun _ => rfl⟩
theorem b2i_t {p : Prop} [Decidable p] (h : p) : b2i p = 1 := if_pos h
theorem b2i_f {p : Prop} [Decidable p] (h : ¬ p) : b2i p = 0 := if_neg h
/-- a jump where a boolean is false -/
theorem brb {p A B : Prop} [Decidable p] (a : ¬ p → A) (b : p → B) : Br (b2i p = 0) A B := ⟨fun h => a (b2i_0.mp h), fun h => b (Decidable.not_not.mp (fun q => h (b2i_0.mpr q)))⟩
theorem nar_b {p : Prop} [Decidable p] : vp_nar .boolean (b2i p) = b2i p := by
  unfold b2i
  by_cases h : p
  · rw [if_pos h]; decide
  · rw [if_neg h]; decide
end
section
theorem i3_lt {x y : Int32} : x < y ↔ x.toInt < y.toInt := Int32.lt_iff_toInt_lt
theorem i3_le {x y : Int32} : x ≤ y ↔ x.toInt ≤ y.toInt := Int32.le_iff_toInt_le
theorem i3_eq {x y : Int32} : x = y ↔ x.toInt = y.toInt := Int32.toInt_inj.symm
theorem i3_rng (x : Int32) : -2147483648 ≤ x.toInt ∧ x.toInt < 2147483648 := ⟨by have := Int32.le_toInt x; omega, by have := Int32.toInt_lt x; omega⟩
theorem i3_cl {x : Int32} (h : 0 ≤ x.toInt) : (x.toNatClampNeg : Int) = x.toInt := by
  show ((x.toInt.toNat : Nat) : Int) = x.toInt
  omega
theorem i3_bmod {z : Int} (h1 : -2147483648 ≤ z) (h2 : z < 2147483648) : z.bmod (2 ^ 32) = z := by
  rw [Int.bmod_eq_of_le] <;> omega
theorem i3_add {x y : Int32} (h1 : -2147483648 ≤ x.toInt + y.toInt) (h2 : x.toInt + y.toInt < 2147483648) : (x + y).toInt = x.toInt + y.toInt := by
  rw [Int32.toInt_add]; exact i3_bmod h1 h2
theorem i3_sub {x y : Int32} (h1 : -2147483648 ≤ x.toInt - y.toInt) (h2 : x.toInt - y.toInt < 2147483648) : (x - y).toInt = x.toInt - y.toInt := by
  rw [Int32.toInt_sub]; exact i3_bmod h1 h2
theorem i3_mul {x y : Int32} (h1 : -2147483648 ≤ x.toInt * y.toInt) (h2 : x.toInt * y.toInt < 2147483648) : (x * y).toInt = x.toInt * y.toInt := by
  rw [Int32.toInt_mul]; exact i3_bmod h1 h2
theorem i3_n {n : Nat} (h : n < 2 ^ 31) : (nI n).toInt = (n : Int) := nI_toInt h
theorem i3_of {x : Int32} (h : 0 ≤ x.toInt) : x = nI x.toNatClampNeg := by
  apply Int32.toInt_inj.mp
  have := i3_rng x
  have := i3_cl h
  rw [nI_toInt (by omega)]
  omega
theorem i3_m1 : Int32.toInt (-1) = -1 := by decide
theorem brbt {p A B : Prop} [Decidable p] (h : p) (b : B) : Br (b2i p = 0) A B := ⟨fun q => absurd h (b2i_0.mp q), fun _ => b⟩
theorem brbf {p A B : Prop} [Decidable p] (h : ¬ p) (a : A) : Br (b2i p = 0) A B := ⟨fun _ => a, fun q => absurd (b2i_0.mpr h) q⟩
theorem cl_nI {n : Nat} (h : n < 1000000) : (nI n).toNatClampNeg = n := nI_clamp (by omega)
theorem sA_k {M : am_M} {k j o a : Nat} {f : Nat → Int32} (h : a ≠ k) : sA M k j o f a = M a := by
  funext b c
  have : ¬ (a = k ∧ b = j ∧ c = o) := fun q => h q.1
  simp only [sA, if_neg this]
theorem sA_j {M : am_M} {k j o b : Nat} {f : Nat → Int32} (h : b ≠ j) : sA M k j o f k b = M k b := by
  funext c
  exact if_neg (fun q => h q.2.1)
theorem sA_o {M : am_M} {k j o c : Nat} {f : Nat → Int32} (h : c ≠ o) : sA M k j o f k j c = M k j c := by
  exact if_neg (fun q => h q.2.2)
theorem sA_s {M : am_M} {k j o : Nat} {f : Nat → Int32} : sA M k j o f k j o = f := sA_same
theorem upd_s {f : Nat → Int32} {k : Nat} {x : Int32} : upd f k x k = x := by simp [upd]
theorem upd_n {f : Nat → Int32} {k j : Nat} {x : Int32} (h : j ≠ k) : upd f k x j = f j := by simp [upd, h]
theorem cle {d n d2 : Nat} {as as2 : List am_V} {M M1 M2 : am_M} {r : Option am_V} {K : Option am_V → am_M → Prop} (h : Con d2 n as2 M1 r M2) (e : as = as2) (eM : M = M1) (k : K r M2) (hd : d2 < d := by decide) : Cl d n as M K := by
  subst e
  subst eM
  exact cl_ h k hd
theorem clpe {d n d2 : Nat} {as as2 : List am_V} {M M1 : am_M} {Po : Option am_V → am_M → Prop} {K : Option am_V → am_M → Prop} (h : ConP d2 n as2 M1 Po) (e : as = as2) (eM : M = M1) (k : ∀ r M2, Po r M2 → K r M2) (hd : d2 < d := by decide) : Cl d n as M K := by
  subst e
  subst eM
  exact clp h k hd
end
section
/-! sets of ten as bits -/
def bsn (f : Nat → Bool) : Nat → Nat
  | 0 => 0
  | n + 1 => bsn f n + (if f n then 2 ^ n else 0)
theorem bsn_lt (f : Nat → Bool) : ∀ n, bsn f n < 2 ^ n
  | 0 => Nat.zero_lt_one
  | n + 1 => by
    have := bsn_lt f n
    unfold bsn
    rw [Nat.pow_succ]
    split <;> omega
theorem bsn_bit (f : Nat → Bool) (i : Nat) : ∀ n, (bsn f n).testBit i = (decide (i < n) && f i)
  | 0 => by simp [bsn]
  | n + 1 => by
    have h1 := bsn_lt f n
    have ih := bsn_bit f i n
    unfold bsn
    by_cases hf : f n = true
    · rw [if_pos hf]
      have e0 : bsn f n + 2 ^ n = 2 ^ n * 1 + bsn f n := by omega
      rw [e0, Nat.testBit_two_pow_mul_add _ h1]
      by_cases hi : i < n
      · rw [if_pos hi, ih]
        simp [hi, Nat.lt_succ_of_lt hi]
      · rw [if_neg hi]
        by_cases he : i = n
        · subst he
          simp [hf]
        · have : ¬ i < n + 1 := by omega
          have h9 : (1 : Nat).testBit (i - n) = false := by
            obtain ⟨q, hq⟩ : ∃ q, i - n = q + 1 := ⟨i - n - 1, by omega⟩
            rw [hq, Nat.testBit_succ]
            simp
          simp [this, h9]
    · rw [if_neg hf, Nat.add_zero, ih]
      by_cases hi : i < n
      · simp [hi, Nat.lt_succ_of_lt hi]
      · by_cases he : i = n
        · subst he
          simp at hf
          simp [hf]
        · have : ¬ i < n + 1 := by omega
          simp [hi, this]
/-- the set of those below ten of which f is true -/
def bs (f : Nat → Bool) : Int32 := nI (bsn f 10)
theorem bsn_cong {f g : Nat → Bool} : ∀ {n : Nat}, (∀ i, i < n → f i = g i) → bsn f n = bsn g n
  | 0, _ => rfl
  | n + 1, h => by
    unfold bsn
    rw [bsn_cong (fun i hi => h i (by omega)), h n (by omega)]
theorem bs_cong {f g : Nat → Bool} (h : ∀ i, i < 10 → f i = g i) : bs f = bs g := by
  unfold bs
  rw [bsn_cong h]
theorem bsn_1024 (f : Nat → Bool) : bsn f 10 < 1024 := bsn_lt f 10
theorem bs_inj {f g : Nat → Bool} (h : bs f = bs g) : ∀ i, i < 10 → f i = g i := by
  intro i hi
  have h1 : bsn f 10 = bsn g 10 := (nI_eq (by have := bsn_1024 f; omega) (by have := bsn_1024 g; omega)).mp h
  have h2 := bsn_bit f i 10
  rw [h1, bsn_bit g i 10] at h2
  simpa [hi] using h2.symm
theorem nI_bv (n : Nat) : (nI n).toBitVec = BitVec.ofNat 32 n := rfl
theorem nI_or (a b : Nat) : nI a ||| nI b = nI (a ||| b) := by
  apply Int32.toBitVec_inj.mp
  rw [Int32.toBitVec_or, nI_bv, nI_bv, nI_bv]
  apply BitVec.eq_of_getLsbD_eq
  intro i hi
  simp [BitVec.getLsbD_ofNat, Nat.testBit_or, hi]
theorem nI_and (a b : Nat) : nI a &&& nI b = nI (a &&& b) := by
  apply Int32.toBitVec_inj.mp
  rw [Int32.toBitVec_and, nI_bv, nI_bv, nI_bv]
  apply BitVec.eq_of_getLsbD_eq
  intro i hi
  simp [BitVec.getLsbD_ofNat, Nat.testBit_and, hi]
/-- a set by its bits -/
theorem bs_of {n : Nat} {f : Nat → Bool} (h : ∀ i, n.testBit i = (decide (i < 10) && f i)) : nI n = bs f := by
  unfold bs
  congr 1
  apply Nat.eq_of_testBit_eq
  intro i
  rw [h i, bsn_bit]
theorem bs_or (f g : Nat → Bool) : bs f ||| bs g = bs (fun i => f i || g i) := by
  unfold bs
  rw [nI_or]
  apply bs_of
  intro i
  rw [Nat.testBit_or, bsn_bit, bsn_bit]
  cases decide (i < 10) <;> simp
theorem bs_and (f g : Nat → Bool) : bs f &&& bs g = bs (fun i => f i && g i) := by
  unfold bs
  rw [nI_and]
  apply bs_of
  intro i
  rw [Nat.testBit_and, bsn_bit, bsn_bit]
  cases decide (i < 10) <;> simp
theorem bs_andn (f g : Nat → Bool) : bs f &&& (bs g ^^^ (-1)) = bs (fun i => f i && !g i) := by
  have h0 := bs_of (n := bsn f 10 &&& (bsn g 10 ^^^ 1023)) (f := fun i => f i && !g i) (by
    intro i
    have h9 : (1023 : Nat).testBit i = decide (i < 10) := by
      have := Nat.testBit_two_pow_sub_one 10 i
      simpa using this
    rw [Nat.testBit_and, Nat.testBit_xor, bsn_bit, bsn_bit, h9]
    cases decide (i < 10) <;> cases f i <;> cases g i <;> rfl)
  rw [← h0]
  apply Int32.toBitVec_inj.mp
  unfold bs
  rw [Int32.toBitVec_and, Int32.toBitVec_xor, nI_bv, nI_bv, nI_bv]
  apply BitVec.eq_of_getLsbD_eq
  intro i hi
  have hm : (-1 : Int32).toBitVec = BitVec.allOnes 32 := by decide
  rw [hm]
  have h9 : (1023 : Nat).testBit i = decide (i < 10) := by
    have := Nat.testBit_two_pow_sub_one 10 i
    simpa using this
  simp only [BitVec.getLsbD_and, BitVec.getLsbD_xor, BitVec.getLsbD_ofNat, BitVec.getLsbD_allOnes, Nat.testBit_and, Nat.testBit_xor, bsn_bit, h9, hi]
  cases decide (i < 10) <;> cases f i <;> cases g i <;> rfl
theorem bs_0 : bs (fun _ => false) = 0 := by decide
theorem bs_zero {f : Nat → Bool} : bs f = 0 ↔ ∀ i, i < 10 → f i = false := by
  rw [← bs_0]
  exact ⟨fun h => bs_inj h, fun h => bs_cong h⟩
theorem sh_and {p : Nat} (hp : p < 32) : nI p &&& 31 = nI p := by
  have e0 : (31 : Int32) = nI 31 := rfl
  rw [e0, nI_and]
  congr 1
  have := Nat.and_two_pow_sub_one_eq_mod p 5
  have e1 : (2 ^ 5 - 1 : Nat) = 31 := rfl
  rw [e1] at this
  rw [this]
  omega
theorem sh_smod {p : Nat} (hp : p < 32) : ((nI p).toBitVec.smod 32).toNat = p := by
  have : ∀ p, p < 32 → ((nI p).toBitVec.smod 32).toNat = p := by decide +kernel
  exact this p hp
theorem bs_one {p : Nat} (hp : p < 10) : (1 : Int32) <<< (nI p &&& 31) = bs (fun i => decide (i = p)) := by
  have : ∀ p, p < 10 → (1 : Int32) <<< (nI p &&& 31) = bs (fun i => decide (i = p)) := by decide +kernel
  exact this p hp
theorem bs_shr (f : Nat → Bool) {p : Nat} (hp : p < 10) : (bs f >>> (nI p &&& 31)) &&& 1 = b2i (f p = true) := by
  rw [sh_and (by omega)]
  unfold bs
  rw [pk_shrN (by have := bsn_1024 f; omega) (nI p) p (sh_smod (by omega))]
  have e0 : (1 : Int32) = nI 1 := rfl
  rw [e0, nI_and]
  have e1 : bsn f 10 / 2 ^ p &&& 1 = if f p = true then 1 else 0 := by
    have h1 := bsn_bit f p 10
    rw [Nat.testBit_eq_decide_div_mod_eq] at h1
    rw [Nat.and_one_is_mod]
    have h2 : bsn f 10 / 2 ^ p % 2 = 0 ∨ bsn f 10 / 2 ^ p % 2 = 1 := by omega
    by_cases hf : f p = true
    · rw [if_pos hf]
      simp [hp, hf] at h1
      exact h1
    · rw [if_neg hf]
      simp [hf] at h1
      omega
  rw [e1]
  unfold b2i
  split <;> rfl
end
section
/-! Rows -/
theorem c_Rows_isRow (x : Int32) (M : am_M) : Con 1 mRows_isRow [aR 1 0 0, aI x] M (some (aI (b2i (0 ≤ x ∧ x < 8)))) M := by
  refine con_of okRows_isRow [some (aR 1 0 0), some (aI x)] (some .boolean) ?_
  intro J hgo
  refine hgo [] _ _ _ _ ?_
  refine br_ (fun h1 => ?_) (fun h1 => ?_)
  · refine hgo [] _ _ _ _ ?_
    refine ob_ (by decide) ⟨?_, rfl⟩
    (rw [b2i_f]; simp only [vp_in_iff, i3_lt, i3_le, i3_eq, Int32.reduceToInt, i3_m1] at h1 ⊢ <;> omega)
  · refine br_ (fun h2 => ?_) (fun h2 => ?_)
    · refine hgo [] _ _ _ _ ?_
      refine ob_ (by decide) ⟨?_, rfl⟩
      (rw [b2i_f]; simp only [vp_in_iff, i3_lt, i3_le, i3_eq, Int32.reduceToInt, i3_m1] at h1 h2 ⊢ <;> omega)
    · refine hgo [] _ _ _ _ ?_
      refine ob_ (by decide) ⟨?_, rfl⟩
      (rw [b2i_t]; simp only [vp_in_iff, i3_lt, i3_le, i3_eq, Int32.reduceToInt, i3_m1] at h1 h2 ⊢ <;> omega)
theorem c_Rows_isLane (x : Int32) (M : am_M) : Con 1 mRows_isLane [aR 1 0 0, aI x] M (some (aI (b2i (0 ≤ x ∧ x ≤ 2)))) M := by
  refine con_of okRows_isLane [some (aR 1 0 0), some (aI x)] (some .boolean) ?_
  intro J hgo
  refine hgo [] _ _ _ _ ?_
  refine br_ (fun h1 => ?_) (fun h1 => ?_)
  · refine hgo [] _ _ _ _ ?_
    refine ob_ (by decide) ⟨?_, rfl⟩
    (rw [b2i_f]; simp only [vp_in_iff, i3_lt, i3_le, i3_eq, Int32.reduceToInt, i3_m1] at h1 ⊢ <;> omega)
  · refine br_ (fun h2 => ?_) (fun h2 => ?_)
    · refine hgo [] _ _ _ _ ?_
      refine ob_ (by decide) ⟨?_, rfl⟩
      (rw [b2i_f]; simp only [vp_in_iff, i3_lt, i3_le, i3_eq, Int32.reduceToInt, i3_m1] at h1 h2 ⊢ <;> omega)
    · refine hgo [] _ _ _ _ ?_
      refine ob_ (by decide) ⟨?_, rfl⟩
      (rw [b2i_t]; simp only [vp_in_iff, i3_lt, i3_le, i3_eq, Int32.reduceToInt, i3_m1] at h1 h2 ⊢ <;> omega)
theorem c_Rows_isThere (x : Int32) (M : am_M) : Con 2 mRows_isThere [aR 1 0 0, aI x] M (some (aI (b2i (0 ≤ x ∧ x < 8 ∧ ¬ M 1 0 1 x.toNatClampNeg = 0)))) M := by
  refine con_of okRows_isThere [some (aR 1 0 0), some (aI x)] (some .boolean) ?_
  intro J hgo
  refine hgo [] _ _ _ _ ?_
  refine cl_ (c_Rows_isRow _ _) ?_
  refine brb (fun h1 => ?_) (fun h1 => ?_)
  · refine hgo [] _ _ _ _ ?_
    refine ob_ (by decide) ⟨?_, rfl⟩
    rw [b2i_f (fun q => h1 ⟨q.1, q.2.1⟩)]
  · refine ob_ (by (simp only [vp_in_iff, i3_lt, i3_le, i3_eq, Int32.reduceToInt, i3_m1] at h1 ⊢ <;> omega)) ?_
    refine br_ (fun h2 => ?_) (fun h2 => ?_)
    · refine hgo [] _ _ _ _ ?_
      refine ob_ (by decide) ⟨?_, rfl⟩
      rw [b2i_f (fun q => q.2.2 h2)]
    · refine hgo [] _ _ _ _ ?_
      refine ob_ (by decide) ⟨?_, rfl⟩
      rw [b2i_t ⟨h1.1, h1.2, h2⟩]
theorem c_Rows_alike (a b : Int32) (M : am_M) : Con 2 mRows_alike [aR 1 0 0, aI a, aI b] M (some (aI (b2i ((0 ≤ a ∧ a < 8) ∧ (0 ≤ b ∧ b < 8) ∧ M 1 0 2 a.toNatClampNeg = M 1 0 2 b.toNatClampNeg)))) M := by
  refine con_of okRows_alike [some (aR 1 0 0), some (aI a), some (aI b)] (some .boolean) ?_
  intro J hgo
  refine hgo [] _ _ _ _ ?_
  refine cl_ (c_Rows_isRow _ _) ?_   -- call1
  refine brb (fun h1 => ?_) (fun h1 => ?_)
  · skip
    refine hgo [] _ _ _ _ ?_
    refine ob_ (by first | decide | exact nar_b) ?_
    (first | exact ⟨rfl, rfl⟩ | (refine ⟨?_, rfl⟩; (first | rfl | (simp [b2i, h1]; done) | (rw [b2i_t]; simp only [vp_in_iff, i3_lt, i3_le, i3_eq, Int32.reduceToInt, i3_m1] at h1 ⊢ <;> omega) | (rw [b2i_f]; simp only [vp_in_iff, i3_lt, i3_le, i3_eq, Int32.reduceToInt, i3_m1] at h1 ⊢ <;> omega) | (exfalso; simp only [vp_in_iff, i3_lt, i3_le, i3_eq, Int32.reduceToInt, i3_m1] at h1; omega))))   -- leaf2
  · skip
    refine cl_ (c_Rows_isRow _ _) ?_   -- call3
    refine brb (fun h2 => ?_) (fun h2 => ?_)
    · skip
      refine hgo [] _ _ _ _ ?_
      refine ob_ (by first | decide | exact nar_b) ?_
      (first | exact ⟨rfl, rfl⟩ | (refine ⟨?_, rfl⟩; (first | rfl | (simp [b2i, h1, h2]; done) | (rw [b2i_t]; simp only [vp_in_iff, i3_lt, i3_le, i3_eq, Int32.reduceToInt, i3_m1] at h1 h2 ⊢ <;> omega) | (rw [b2i_f]; simp only [vp_in_iff, i3_lt, i3_le, i3_eq, Int32.reduceToInt, i3_m1] at h1 h2 ⊢ <;> omega) | (exfalso; simp only [vp_in_iff, i3_lt, i3_le, i3_eq, Int32.reduceToInt, i3_m1] at h1 h2; omega))))   -- leaf4
    · skip
      refine ob_ (by (first | decide | (simp only [vp_in_iff, i3_lt, i3_le, i3_eq, Int32.reduceToInt, i3_m1] at h1 h2 ⊢ <;> omega) | (exfalso; simp only [vp_in_iff, i3_lt, i3_le, i3_eq, Int32.reduceToInt, i3_m1] at h1 h2; omega))) ?_   -- ob5
      refine ob_ (by (first | decide | (simp only [vp_in_iff, i3_lt, i3_le, i3_eq, Int32.reduceToInt, i3_m1] at h1 h2 ⊢ <;> omega) | (exfalso; simp only [vp_in_iff, i3_lt, i3_le, i3_eq, Int32.reduceToInt, i3_m1] at h1 h2; omega))) ?_   -- ob6
      refine br_ (fun h3 => ?_) (fun h3 => ?_)
      · skip
        refine hgo [] _ _ _ _ ?_
        refine ob_ (by first | decide | exact nar_b) ?_
        (first | exact ⟨rfl, rfl⟩ | (refine ⟨?_, rfl⟩; (first | rfl | (simp [b2i, h1, h2, h3]; done) | (rw [b2i_t]; simp only [vp_in_iff, i3_lt, i3_le, i3_eq, Int32.reduceToInt, i3_m1] at h1 h2 h3 ⊢ <;> omega) | (rw [b2i_f]; simp only [vp_in_iff, i3_lt, i3_le, i3_eq, Int32.reduceToInt, i3_m1] at h1 h2 h3 ⊢ <;> omega) | (exfalso; simp only [vp_in_iff, i3_lt, i3_le, i3_eq, Int32.reduceToInt, i3_m1] at h1 h2 h3; omega))))   -- leaf7
      · skip
        refine hgo [] _ _ _ _ ?_
        refine ob_ (by first | decide | exact nar_b) ?_
        (first | exact ⟨rfl, rfl⟩ | (refine ⟨?_, rfl⟩; (first | rfl | (simp [b2i, h1, h2, h3]; done) | (rw [b2i_t]; simp only [vp_in_iff, i3_lt, i3_le, i3_eq, Int32.reduceToInt, i3_m1] at h1 h2 h3 ⊢ <;> omega) | (rw [b2i_f]; simp only [vp_in_iff, i3_lt, i3_le, i3_eq, Int32.reduceToInt, i3_m1] at h1 h2 h3 ⊢ <;> omega) | (exfalso; simp only [vp_in_iff, i3_lt, i3_le, i3_eq, Int32.reduceToInt, i3_m1] at h1 h2 h3; omega))))   -- leaf8
theorem c_Rows_holds (r i n : Int32) (M : am_M) : Con 2 mRows_holds [aR 1 0 0, aI r, aI i, aI n] M (some (aI (b2i ((0 ≤ r ∧ r < 8) ∧ 0 ≤ i ∧ 0 ≤ n ∧ i ≤ M 1 0 3 r.toNatClampNeg - n)))) M := by
  refine con_of okRows_holds [some (aR 1 0 0), some (aI r), some (aI i), some (aI n)] (some .boolean) ?_
  intro J hgo
  refine hgo [] _ _ _ _ ?_
  refine cl_ (c_Rows_isRow _ _) ?_   -- call1
  refine brb (fun h1 => ?_) (fun h1 => ?_)
  · skip
    refine hgo [] _ _ _ _ ?_
    refine ob_ (by first | decide | exact nar_b) ?_
    (first | exact ⟨rfl, rfl⟩ | (refine ⟨?_, rfl⟩; (first | rfl | (simp [b2i, h1]; done) | (rw [b2i_t]; simp only [vp_in_iff, i3_lt, i3_le, i3_eq, Int32.reduceToInt, i3_m1] at h1 ⊢ <;> omega) | (rw [b2i_f]; simp only [vp_in_iff, i3_lt, i3_le, i3_eq, Int32.reduceToInt, i3_m1] at h1 ⊢ <;> omega) | (exfalso; simp only [vp_in_iff, i3_lt, i3_le, i3_eq, Int32.reduceToInt, i3_m1] at h1; omega))))   -- leaf2
  · skip
    refine br_ (fun h2 => ?_) (fun h2 => ?_)
    · skip
      refine hgo [] _ _ _ _ ?_
      refine ob_ (by first | decide | exact nar_b) ?_
      (first | exact ⟨rfl, rfl⟩ | (refine ⟨?_, rfl⟩; (first | rfl | (simp [b2i, h1, h2]; done) | (rw [b2i_t]; simp only [vp_in_iff, i3_lt, i3_le, i3_eq, Int32.reduceToInt, i3_m1] at h1 h2 ⊢ <;> omega) | (rw [b2i_f]; simp only [vp_in_iff, i3_lt, i3_le, i3_eq, Int32.reduceToInt, i3_m1] at h1 h2 ⊢ <;> omega) | (exfalso; simp only [vp_in_iff, i3_lt, i3_le, i3_eq, Int32.reduceToInt, i3_m1] at h1 h2; omega))))   -- leaf3
    · skip
      refine br_ (fun h3 => ?_) (fun h3 => ?_)
      · skip
        refine hgo [] _ _ _ _ ?_
        refine ob_ (by first | decide | exact nar_b) ?_
        (first | exact ⟨rfl, rfl⟩ | (refine ⟨?_, rfl⟩; (first | rfl | (simp [b2i, h1, h2, h3]; done) | (rw [b2i_t]; simp only [vp_in_iff, i3_lt, i3_le, i3_eq, Int32.reduceToInt, i3_m1] at h1 h2 h3 ⊢ <;> omega) | (rw [b2i_f]; simp only [vp_in_iff, i3_lt, i3_le, i3_eq, Int32.reduceToInt, i3_m1] at h1 h2 h3 ⊢ <;> omega) | (exfalso; simp only [vp_in_iff, i3_lt, i3_le, i3_eq, Int32.reduceToInt, i3_m1] at h1 h2 h3; omega))))   -- leaf4
      · skip
        refine ob_ (by (first | decide | (simp only [vp_in_iff, i3_lt, i3_le, i3_eq, Int32.reduceToInt, i3_m1] at h1 h2 h3 ⊢ <;> omega) | (exfalso; simp only [vp_in_iff, i3_lt, i3_le, i3_eq, Int32.reduceToInt, i3_m1] at h1 h2 h3; omega))) ?_   -- ob5
        refine br_ (fun h4 => ?_) (fun h4 => ?_)
        · skip
          refine hgo [] _ _ _ _ ?_
          refine ob_ (by first | decide | exact nar_b) ?_
          (first | exact ⟨rfl, rfl⟩ | (refine ⟨?_, rfl⟩; (first | rfl | (simp [b2i, h1, h2, h3, h4]; done) | (rw [b2i_t]; simp only [vp_in_iff, i3_lt, i3_le, i3_eq, Int32.reduceToInt, i3_m1] at h1 h2 h3 h4 ⊢ <;> omega) | (rw [b2i_f]; simp only [vp_in_iff, i3_lt, i3_le, i3_eq, Int32.reduceToInt, i3_m1] at h1 h2 h3 h4 ⊢ <;> omega) | (exfalso; simp only [vp_in_iff, i3_lt, i3_le, i3_eq, Int32.reduceToInt, i3_m1] at h1 h2 h3 h4; omega))))   -- leaf6
        · skip
          refine hgo [] _ _ _ _ ?_
          refine ob_ (by first | decide | exact nar_b) ?_
          (first | exact ⟨rfl, rfl⟩ | (refine ⟨?_, rfl⟩; (first | rfl | (simp [b2i, h1, h2, h3, h4]; done) | (rw [b2i_t]; simp only [vp_in_iff, i3_lt, i3_le, i3_eq, Int32.reduceToInt, i3_m1] at h1 h2 h3 h4 ⊢ <;> omega) | (rw [b2i_f]; simp only [vp_in_iff, i3_lt, i3_le, i3_eq, Int32.reduceToInt, i3_m1] at h1 h2 h3 h4 ⊢ <;> omega) | (exfalso; simp only [vp_in_iff, i3_lt, i3_le, i3_eq, Int32.reduceToInt, i3_m1] at h1 h2 h3 h4; omega))))   -- leaf7
theorem ix40 {r i : Nat} (hr : r < 8) (hi : i < 40) : nI r * 40 + nI i = nI (40 * r + i) := by
  show nI r * nI 40 + nI i = _
  rw [pk_mul, nI_add, Nat.mul_comm]
theorem ix40b {r i : Nat} (hr : r < 8) (hi : i ≤ 40) : nI r * 40 + nI i = nI (40 * r + i) := by
  show nI r * nI 40 + nI i = _
  rw [pk_mul, nI_add, Nat.mul_comm]
theorem c_Rows_item (r i n : Nat) (M : am_M) (hr : r < 8) (hn : M 1 0 3 r = nI n) (hn40 : n ≤ 40) (hi : i < n) : Con 3 mRows_item [aR 1 0 0, aI (nI r), aI (nI i)] M (some (aI (M 1 0 4 (40 * r + i)))) M := by
  have hh : (0 ≤ nI r ∧ nI r < 8) ∧ 0 ≤ nI i ∧ (0 : Int32) ≤ 1 ∧ nI i ≤ M 1 0 3 (nI r).toNatClampNeg - 1 := by
    rw [cl_nI (by omega), hn]
    have h1 : nI n - 1 = nI (n - 1) := by
      have := pk_sub (a := n) (b := 1) (by omega)
      exact this
    rw [h1]
    exact ⟨⟨nI_pos' (by omega), nI_lt (b := 8) hr (by omega)⟩, nI_pos' (by omega), by decide, nI_le (by omega) (by omega)⟩
  refine con_of okRows_item [some (aR 1 0 0), some (aI (nI r)), some (aI (nI i))] (some .int) ?_
  intro J hgo
  refine hgo [] _ _ _ _ ?_
  refine cl_ (c_Rows_holds _ _ _ _) ?_
  refine brb (fun h1 => absurd hh h1) (fun _ => ?_)
  have e0 := ix40 hr (show i < 40 by omega)
  refine ob_ (by rw [e0]; exact vp_in_nI (by omega) (by omega)) ?_
  refine hgo [] _ _ _ _ ?_
  refine ⟨?_, rfl⟩
  rw [e0, cl_nI (by omega)]
theorem c_Rows_remove (r : Int32) (M : am_M) (g1 : 0 ≤ r ∧ r < 8) (g2 : ¬ M 1 0 1 r.toNatClampNeg = 0) : Con 3 mRows_remove [aR 1 0 0, aI r] M (some (aI (M 1 0 3 r.toNatClampNeg))) (sA (sA M 1 0 1 (upd (M 1 0 1) r.toNatClampNeg 0)) 1 0 3 (upd (M 1 0 3) r.toNatClampNeg 0)) := by
  refine con_of okRows_remove [some (aR 1 0 0), some (aI r), none] (some .int) ?_
  intro J hgo
  refine hgo [] _ _ _ _ ?_
  refine cl_ (c_Rows_isThere _ _) ?_   -- call1
  refine brbt (⟨g1.1, g1.2, g2⟩) ?_
  refine hgo [] _ _ _ _ ?_
  refine ob_ (by (first | decide | (simp only [vp_in_iff, i3_lt, i3_le, i3_eq, Int32.reduceToInt, i3_m1] at g1 g2 ⊢ <;> omega) | (exfalso; simp only [vp_in_iff, i3_lt, i3_le, i3_eq, Int32.reduceToInt, i3_m1] at g1 g2; omega))) ?_   -- ob2
  refine ob_ (by (first | decide | (simp only [vp_in_iff, i3_lt, i3_le, i3_eq, Int32.reduceToInt, i3_m1] at g1 g2 ⊢ <;> omega) | (exfalso; simp only [vp_in_iff, i3_lt, i3_le, i3_eq, Int32.reduceToInt, i3_m1] at g1 g2; omega))) ?_   -- ob3
  refine ob_ (by (first | decide | (simp only [vp_in_iff, i3_lt, i3_le, i3_eq, Int32.reduceToInt, i3_m1] at g1 g2 ⊢ <;> omega) | (exfalso; simp only [vp_in_iff, i3_lt, i3_le, i3_eq, Int32.reduceToInt, i3_m1] at g1 g2; omega))) ?_   -- ob4
  (first | exact ⟨rfl, rfl⟩ | (refine ⟨?_, rfl⟩; (first | rfl | (simp [b2i, g1, g2]; done) | (rw [b2i_t]; simp only [vp_in_iff, i3_lt, i3_le, i3_eq, Int32.reduceToInt, i3_m1] at g1 g2 ⊢ <;> omega) | (rw [b2i_f]; simp only [vp_in_iff, i3_lt, i3_le, i3_eq, Int32.reduceToInt, i3_m1] at g1 g2 ⊢ <;> omega) | (exfalso; simp only [vp_in_iff, i3_lt, i3_le, i3_eq, Int32.reduceToInt, i3_m1] at g1 g2; omega))))   -- leaf5
theorem nin {r n : Nat} (h : r < n) (hn : n < 1000000) : 0 ≤ nI r ∧ nI r < nI n := ⟨nI_pos' (by omega), nI_lt h (by omega)⟩
/-- put: an item of a row that is there -/
theorem c_Rows_put (r i n : Nat) (v : Int32) (M : am_M) (hr : r < 8) (hn : M 1 0 3 r = nI n) (hn40 : n ≤ 40) (hi : i < n) : Con 3 mRows_put [aR 1 0 0, aI (nI r), aI (nI i), aI v] M (some (aI (if M 1 0 2 r = 0 then v.toInt8.toInt32 else if M 1 0 2 r = 1 then v.toInt16.toInt32 else v))) (sA M 1 0 4 (upd (M 1 0 4) (40 * r + i) (if M 1 0 2 r = 0 then v.toInt8.toInt32 else if M 1 0 2 r = 1 then v.toInt16.toInt32 else v))) := by
  have hh : (0 ≤ nI r ∧ nI r < 8) ∧ 0 ≤ nI i ∧ (0 : Int32) ≤ 1 ∧ nI i ≤ M 1 0 3 (nI r).toNatClampNeg - 1 := by
    rw [cl_nI (by omega), hn]
    have h1 : nI n - 1 = nI (n - 1) := pk_sub (a := n) (b := 1) (by omega)
    rw [h1]
    exact ⟨nin (n := 8) hr (by omega), nI_pos' (by omega), by decide, nI_le (by omega) (by omega)⟩
  have e0 := ix40 hr (show i < 40 by omega)
  have e1 : vp_in (nI r * 40 + nI i) 320 := by rw [e0]; exact vp_in_nI (by omega) (by omega)
  have e2 : vp_in (nI r) 8 := vp_in_nI hr (by omega)
  have e3 : (nI r).toNatClampNeg = r := cl_nI (by omega)
  have e4 : (nI r * 40 + nI i).toNatClampNeg = 40 * r + i := by rw [e0]; exact cl_nI (by omega)
  refine con_of okRows_put [some (aR 1 0 0), some (aI (nI r)), some (aI (nI i)), some (aI v), none] (some .int) ?_
  intro J hgo
  refine hgo [] _ _ _ _ ?_
  refine cl_ (c_Rows_holds _ _ _ _) ?_
  refine brbt hh ?_
  refine hgo [] _ _ _ _ ?_
  refine ob_ e2 ?_
  refine br_ (fun h1 => ?_) (fun h1 => ?_)
  · refine ob_ e2 ?_
    refine br_ (fun h2 => ?_) (fun h2 => ?_)
    · rw [e3] at h1 h2
      rw [h1] at h2
      exact absurd h2 (by decide)
    · refine hgo [] _ _ _ _ ?_
      refine ob_ e1 ?_
      rw [e3] at h1 h2
      refine ⟨?_, ?_⟩
      · rw [if_pos h1]
      · rw [if_pos h1, e4]
  · refine hgo [] _ _ _ _ ?_
    refine ob_ e2 ?_
    refine br_ (fun h2 => ?_) (fun h2 => ?_)
    · refine ob_ e1 ?_
      rw [e3] at h1 h2
      refine ⟨?_, ?_⟩
      · rw [if_neg h1, if_pos h2]
      · rw [if_neg h1, if_pos h2, e4]
    · refine hgo [] _ _ _ _ ?_
      refine ob_ e1 ?_
      rw [e3] at h1 h2
      refine ⟨?_, ?_⟩
      · rw [if_neg h1, if_neg h2]
      · rw [if_neg h1, if_neg h2, e4]
/-- move -/
theorem c_Rows_move (a i b j n na nb : Nat) (M : am_M) (ha : a < 8) (hb : b < 8) (hna : M 1 0 3 a = nI na) (hnb : M 1 0 3 b = nI nb) (h40 : na ≤ 40) (h40b : nb ≤ 40) (hi : i + n ≤ na) (hj : j + n ≤ nb) : Con 3 mRows_move [aR 1 0 0, aI (nI a), aI (nI i), aI (nI b), aI (nI j), aI (nI n)] M none (sA M 1 0 4 (va_cpy (M 1 0 4) (M 1 0 4) (40 * a + i) (40 * b + j) n)) := by
  have hold : ∀ r i na : Nat, r < 8 → M 1 0 3 r = nI na → na ≤ 40 → i + n ≤ na → (0 ≤ nI r ∧ nI r < 8) ∧ 0 ≤ nI i ∧ 0 ≤ nI n ∧ nI i ≤ M 1 0 3 (nI r).toNatClampNeg - nI n := by
    intro r i na hr hn hn40 hi
    rw [cl_nI (by omega), hn, pk_sub (by omega)]
    exact ⟨nin (n := 8) hr (by omega), nI_pos' (by omega), nI_pos' (by omega), nI_le (by omega) (by omega)⟩
  refine con_of okRows_move [some (aR 1 0 0), some (aI (nI a)), some (aI (nI i)), some (aI (nI b)), some (aI (nI j)), some (aI (nI n))] none ?_
  intro J hgo
  refine hgo [] _ _ _ _ ?_
  refine cl_ (c_Rows_holds _ _ _ _) ?_
  refine brbt (hold a i na ha hna h40 hi) ?_
  refine cl_ (c_Rows_holds _ _ _ _) ?_
  refine brbt (hold b j nb hb hnb h40b hj) ?_
  refine hgo [] _ _ _ _ ?_
  have e0 := ix40b ha (show i ≤ 40 by omega)
  have e1 := ix40b hb (show j ≤ 40 by omega)
  refine ob_ ?_ ?_
  · rw [e0, e1, cl_nI (by omega), cl_nI (by omega), cl_nI (by omega)]
    exact ⟨nI_pos (by omega), nI_pos (by omega), nI_pos (by omega), by omega, by omega⟩
  · refine ⟨rfl, ?_⟩
    rw [e0, e1, cl_nI (by omega), cl_nI (by omega), cl_nI (by omega)]
/-! fill of the library, over a row of ints -/
theorem c_Arr_rangeCheck (n a b : Int32) (M : am_M) (h1 : a ≤ b) (h2 : 0 ≤ a) (h3 : b ≤ n) : Con 1 mArr_rangeCheck [aI n, aI a, aI b] M none M := by
  refine con_of okArr_rangeCheck [some (aI n), some (aI a), some (aI b)] none ?_
  intro J hgo
  refine hgo [] _ _ _ _ ?_
  refine brt h1 ?_
  refine hgo [] _ _ _ _ ?_
  refine brt h2 ?_
  refine hgo [] _ _ _ _ ?_
  refine brt h3 ?_
  refine hgo [] _ _ _ _ ?_
  exact ⟨rfl, rfl⟩
def zf (f : Nat → Int32) (lo hi : Nat) (x : Int32) : Nat → Int32 := fun i => if lo ≤ i ∧ i < hi then x else f i
theorem zf_up {f : Nat → Int32} {lo i : Nat} {x : Int32} (h : lo ≤ i) : upd (zf f lo i x) i x = zf f lo (i + 1) x := by
  funext q
  simp only [upd, zf]
  by_cases h1 : q = i
  · subst h1
    rw [if_pos rfl, if_pos ⟨h, by omega⟩]
  · rw [if_neg h1]
    by_cases h2 : lo ≤ q ∧ q < i
    · rw [if_pos h2, if_pos ⟨h2.1, by omega⟩]
    · rw [if_neg h2, if_neg (by omega)]
theorem zf_0 {f : Nat → Int32} {lo : Nat} {x : Int32} : zf f lo lo x = f := by
  funext q
  simp only [zf]
  rw [if_neg (by omega)]
theorem sA_sA {M : am_M} {k j o : Nat} {f g : Nat → Int32} : sA (sA M k j o f) k j o g = sA M k j o g := by
  funext a b c
  simp only [sA]
  by_cases h : a = k ∧ b = j ∧ c = o
  · rw [if_pos h, if_pos h]
  · rw [if_neg h, if_neg h, if_neg h]
theorem sA_id {M : am_M} {k j o : Nat} : sA M k j o (M k j o) = M := by
  funext a b c
  simp only [sA]
  by_cases h : a = k ∧ b = j ∧ c = o
  · rw [if_pos h, h.1, h.2.1, h.2.2]
  · rw [if_neg h]
theorem c_Arr_fill4 (lo hi : Nat) (x : Int32) (M : am_M) (h1 : lo ≤ hi) (h2 : hi ≤ 320) : Con 2 mArr_fill4 [aR 1 0 4, aI (nI lo), aI (nI hi), aI x] M none (sA M 1 0 4 (zf (M 1 0 4) lo hi x)) := by
  refine con_of okArr_fill4 [some (aR 1 0 4), some (aI (nI lo)), some (aI (nI hi)), some (aI x), none] none ?_
  intro J hgo
  have loop : ∀ n i iv M2, n = hi - i → lo ≤ i → i ≤ hi → iv = nI i → M2 = sA M 1 0 4 (zf (M 1 0 4) lo i x) → J 10 [some (aR 1 0 4), some (aI (nI lo)), some (aI (nI hi)), some (aI x), some (aI iv)] [] M2 := by
    intro n
    induction n with
    | zero =>
      intro i iv M2 hn h3 h4 hv hM
      obtain rfl : i = hi := by omega
      subst hv
      refine hgo [] _ _ _ _ ?_
      refine brt (nI_le (Nat.le_refl _) (by omega)) ?_
      refine hgo [] _ _ _ _ ?_
      exact ⟨rfl, hM⟩
    | succ n ih =>
      intro i iv M2 hn h3 h4 hv hM
      subst hv
      refine hgo [] _ _ _ _ ?_
      refine brf (nI_ge (by omega) (by omega)) ?_
      refine ob_ (vp_in_nI (by omega) (by omega)) ?_
      refine ih (i + 1) _ _ (by omega) (by omega) (by omega) (nI_1 i) ?_
      rw [hM, cl_nI (by omega), sA_s, sA_sA, zf_up h3]
  refine hgo [10] _ _ _ _ ?_
  refine cl_ (c_Arr_rangeCheck _ _ _ _ (nI_le h1 (by omega)) (nI_pos' (by omega)) (nI_le (b := 320) h2 (by omega))) ?_
  exact loop _ lo _ _ rfl (Nat.le_refl _) h1 rfl (by rw [zf_0, sA_id])
theorem c_Rows_make (r n : Nat) (l : Int32) (M : am_M) (hr : r < 8) (hn : n ≤ 40) : Con 3 mRows_make [aR 1 0 0, aI (nI r), aI l, aI (nI n)] M none (sA (sA (sA (sA M 1 0 1 (upd (M 1 0 1) r 1)) 1 0 2 (upd (M 1 0 2) r l)) 1 0 3 (upd (M 1 0 3) r (nI n))) 1 0 4 (zf (M 1 0 4) (40 * r) (40 * r + n) 0)) := by
  have e2 : vp_in (nI r) 8 := vp_in_nI hr (by omega)
  have e3 : (nI r).toNatClampNeg = r := cl_nI (by omega)
  refine con_of okRows_make [some (aR 1 0 0), some (aI (nI r)), some (aI l), some (aI (nI n))] none ?_
  intro J hgo
  refine hgo [] _ _ _ _ ?_
  refine cl_ (c_Rows_isRow _ _) ?_
  refine brbt (nin (n := 8) hr (by omega)) ?_
  refine brf (nI_pos (by omega)) ?_
  refine brt (nI_le (b := 40) hn (by omega)) ?_
  refine hgo [] _ _ _ _ ?_
  refine ob_ e2 ?_
  refine ob_ e2 ?_
  refine ob_ e2 ?_
  have e4 : nI r * 40 = nI (40 * r) := by
    show nI r * nI 40 = _
    rw [pk_mul, Nat.mul_comm]
  have e5 : nI r * 40 + nI n = nI (40 * r + n) := by rw [e4, nI_add]
  refine cle (c_Arr_fill4 (40 * r) (40 * r + n) 0 _ (by omega) (by omega)) (by rw [e5, e4]) rfl ?_
  refine ⟨rfl, ?_⟩
  rw [e3]
  rfl
end
section
/-! the reference: small helpers, rows -/
theorem l64 {a b : Int32} : a.toInt64 ≤ b.toInt64 ↔ a ≤ b := by
  rw [Int64.le_iff_toInt_le, Int32.le_iff_toInt_le, Int32.toInt_toInt64, Int32.toInt_toInt64]
theorem l64lt {a b : Int32} : a.toInt64 < b.toInt64 ↔ a < b := by
  rw [Int64.lt_iff_toInt_lt, Int32.lt_iff_toInt_lt, Int32.toInt_toInt64, Int32.toInt_toInt64]
theorem c_Ref_inL (v lo hi : Int64) (M : am_M) : Con 1 mRef_in [aL v, aL lo, aL hi] M (some (aI (b2i (lo ≤ v ∧ v ≤ hi)))) M := by
  refine con_of okRef_in [some (aL v), none, some (aL lo), none, some (aL hi), none] (some .boolean) ?_
  intro J hgo
  refine hgo [] _ _ _ _ ?_
  refine br_ (fun h1 => ?_) (fun h1 => ?_)
  · refine hgo [] _ _ _ _ ?_
    refine ob_ (by decide) ⟨?_, rfl⟩
    rw [b2i_f (fun q => absurd q.1 (Int64.not_le.mpr ((lg_cmp_lt _ _).mp h1)))]
  · refine br_ (fun h2 => ?_) (fun h2 => ?_)
    · refine hgo [] _ _ _ _ ?_
      refine ob_ (by decide) ⟨?_, rfl⟩
      rw [b2i_f (fun q => absurd q.2 (Int64.not_le.mpr ((lg_cmp_gt _ _).mp h2)))]
    · refine hgo [] _ _ _ _ ?_
      refine ob_ (by decide) ⟨?_, rfl⟩
      rw [b2i_t ⟨Int64.not_lt.mp (fun q => h1 ((lg_cmp_lt _ _).mpr q)), Int64.not_lt.mp (fun q => h2 ((lg_cmp_gt _ _).mpr q))⟩]
theorem b2i_iff {p q : Prop} [Decidable p] [Decidable q] (h : p ↔ q) : b2i p = b2i q := by
  by_cases hp : p
  · rw [b2i_t hp, b2i_t (h.mp hp)]
  · rw [b2i_f hp, b2i_f (fun x => hp (h.mpr x))]
/-- in, over ints -/
theorem c_Ref_in (x l h : Int32) (v lo hi : Int64) (hv : v = x.toInt64) (hl : lo = l.toInt64) (hh : hi = h.toInt64) (M : am_M) : Con 1 mRef_in [aL v, aL lo, aL hi] M (some (aI (b2i (l ≤ x ∧ x ≤ h)))) M := by
  subst hv; subst hl; subst hh
  have := c_Ref_inL x.toInt64 l.toInt64 h.toInt64 M
  rw [b2i_iff (q := l ≤ x ∧ x ≤ h) (by rw [l64, l64])] at this
  exact this
theorem c_Ref_isRow (x : Int32) (M : am_M) : Con 2 mRef_isRow [aI x] M (some (aI (b2i (0 ≤ x ∧ x < 8)))) M := by
  refine con_of okRef_isRow [some (aI x)] (some .boolean) ?_
  intro J hgo
  refine hgo [] _ _ _ _ ?_
  refine cl_ (c_Ref_in x 0 7 _ _ _ rfl (by decide) (by decide) _) ?_
  refine ob_ nar_b ⟨?_, rfl⟩
  rw [b2i_iff (q := 0 ≤ x ∧ x < 8) (by (simp only [vp_in_iff, i3_lt, i3_le, i3_eq, Int32.reduceToInt, i3_m1] <;> omega))]
theorem c_Ref_finding (n : Int32) (M : am_M) : Con 1 mRef_finding [aR 11 0 0, aI n] M (some (aI (-1000010 - n))) (sA M 11 0 0 (upd (M 11 0 0) 1 n)) := by
  refine con_of okRef_finding [some (aR 11 0 0), some (aI n)] (some .int) ?_
  intro J hgo
  refine hgo [] _ _ _ _ ?_
  (first | exact ⟨rfl, rfl⟩ | (refine ⟨?_, rfl⟩; (first | rfl | (simp [b2i]; done) | (rw [b2i_t]; simp only [vp_in_iff, i3_lt, i3_le, i3_eq, Int32.reduceToInt, i3_m1] <;> omega) | (rw [b2i_f]; simp only [vp_in_iff, i3_lt, i3_le, i3_eq, Int32.reduceToInt, i3_m1] <;> omega))))   -- leaf1
/-- the reference's start of a call -/
def rT (M : am_M) : am_M := sA M 11 0 0 (upd (M 11 0 0) 0 0)
/-- its state's number -/
def rS (M : am_M) (x : Int32) : am_M := sA M 11 0 0 (upd (M 11 0 0) 1 x)
theorem c_Ref_row_bad (a b c : Int32) (M : am_M) (h : ¬ ((0 ≤ a ∧ a < 8) ∧ (0 ≤ b ∧ b ≤ 2) ∧ c ≤ 40)) : Con 3 mRef_row [aR 11 0 0, aI a, aI b, aI c] M (some (aI (-1000001))) (rT M) := by
  refine con_of okRef_row [some (aR 11 0 0), some (aI a), some (aI b), some (aI c), none] (some .int) ?_
  intro J hgo
  refine hgo [] _ _ _ _ ?_
  refine cl_ (c_Ref_isRow _ _) ?_
  refine brb (fun h1 => ?_) (fun h1 => ?_)
  · refine hgo [] _ _ _ _ ?_
    exact ⟨rfl, rfl⟩
  · refine cl_ (c_Ref_in b 0 2 _ _ _ rfl (by decide) (by decide) _) ?_
    refine brb (fun h2 => ?_) (fun h2 => ?_)
    · refine hgo [] _ _ _ _ ?_
      exact ⟨rfl, rfl⟩
    · refine br_ (fun h3 => absurd ⟨h1, h2, h3⟩ h) (fun h3 => ?_)
      exact ⟨rfl, rfl⟩
theorem c_Ref_row_neg (a b c : Int32) (M : am_M) (h1 : 0 ≤ a ∧ a < 8) (h2 : 0 ≤ b ∧ b ≤ 2) (h3 : c < 0) : Con 3 mRef_row [aR 11 0 0, aI a, aI b, aI c] M (some (aI (-1000014))) (rS (rS (rT M) 0) 4) := by
  refine con_of okRef_row [some (aR 11 0 0), some (aI a), some (aI b), some (aI c), none] (some .int) ?_
  intro J hgo
  refine hgo [] _ _ _ _ ?_
  refine cl_ (c_Ref_isRow _ _) ?_
  refine brbt h1 ?_
  refine cl_ (c_Ref_in b 0 2 _ _ _ rfl (by decide) (by decide) _) ?_
  refine brbt h2 ?_
  refine brt (by (simp only [vp_in_iff, i3_lt, i3_le, i3_eq, Int32.reduceToInt, i3_m1] at h3 ⊢ <;> omega)) ?_
  refine hgo [] _ _ _ _ ?_
  refine brf (by (simp only [vp_in_iff, i3_lt, i3_le, i3_eq, Int32.reduceToInt, i3_m1] at h3 ⊢ <;> omega)) ?_
  refine cl_ (c_Ref_finding _ _) ?_
  exact ⟨rfl, rfl⟩
theorem c_Ref_row_ok (r n : Nat) (b : Int32) (M : am_M) (hr : r < 8) (hb : 0 ≤ b ∧ b ≤ 2) (hn : n ≤ 40) : Con 3 mRef_row [aR 11 0 0, aI (nI r), aI b, aI (nI n)] M (some (aI (nI n))) (sA (sA (sA (rS (rT M) 0) 11 0 1 (upd (M 11 0 1) r b)) 11 0 2 (upd (M 11 0 2) r (nI n))) 11 0 3 (zf (M 11 0 3) (40 * r) (40 * r + 40) 0)) := by
  have e2 : vp_in (nI r) 8 := vp_in_nI hr (by omega)
  have e3 : (nI r).toNatClampNeg = r := cl_nI (by omega)
  refine con_of okRef_row [some (aR 11 0 0), some (aI (nI r)), some (aI b), some (aI (nI n)), none] (some .int) ?_
  intro J hgo
  have loop : ∀ m k kv M2, m = 40 - k → k ≤ 40 → kv = nI k → M2 = sA (sA (sA (rS (rT M) 0) 11 0 1 (upd (M 11 0 1) r b)) 11 0 2 (upd (M 11 0 2) r (nI n))) 11 0 3 (zf (M 11 0 3) (40 * r) (40 * r + k) 0) → J 65 [some (aR 11 0 0), some (aI (nI r)), some (aI b), some (aI (nI n)), some (aI kv)] [] M2 := by
    intro m
    induction m with
    | zero =>
      intro k kv M2 hm hk hv hM
      obtain rfl : k = 40 := by omega
      subst hv
      refine hgo [] _ _ _ _ ?_
      refine brt (by decide) ?_
      refine hgo [] _ _ _ _ ?_
      exact ⟨rfl, hM⟩
    | succ m ih =>
      intro k kv M2 hm hk hv hM
      subst hv
      have e6 : 40 * nI r + nI k = nI (40 * r + k) := by
        show nI 40 * nI r + nI k = _
        rw [pk_mul, nI_add]
      refine hgo [] _ _ _ _ ?_
      refine brf (nI_ge (b := 40) (by omega) (by omega)) ?_
      refine ob_ (by rw [e6]; exact vp_in_nI (by omega) (by omega)) ?_
      refine ih (k + 1) _ _ (by omega) (by omega) (nI_1 k) ?_
      rw [hM, e6, cl_nI (by omega), sA_s, sA_sA, zf_up (by omega), Nat.add_assoc]
  refine hgo [65] _ _ _ _ ?_
  refine cl_ (c_Ref_isRow _ _) ?_
  refine brbt (nin (n := 8) hr (by omega)) ?_
  refine cl_ (c_Ref_in b 0 2 _ _ _ rfl (by decide) (by decide) _) ?_
  refine brbt hb ?_
  refine brt (nI_le (b := 40) hn (by omega)) ?_
  refine hgo [65] _ _ _ _ ?_
  refine brt (nI_pos' (by omega)) ?_
  refine hgo [65] _ _ _ _ ?_
  refine ob_ e2 ?_
  refine ob_ e2 ?_
  refine loop _ 0 _ _ rfl (by omega) rfl ?_
  rw [Nat.add_zero, zf_0, e3]
  rw [show M 11 0 3 = (sA (sA (rS (rT M) 0) 11 0 1 (upd (M 11 0 1) r b)) 11 0 2 (upd (M 11 0 2) r (nI n))) 11 0 3 from rfl, sA_id]
  rfl
end
section
/-! the house as the reference's row of numbers, and what follows from it -/
def exB (P : Nat → Bool) : Nat → Bool
  | 0 => false
  | n + 1 => exB P n || P n
def hN (h : Nat → Int32) (i : Nat) : Nat := (h i).toNatClampNeg
def nW (h : Nat → Int32) : Nat := hN h 0
def nP (h : Nat → Int32) : Nat := hN h 1
def nT (h : Nat → Int32) : Nat := hN h 2
def nS (h : Nat → Int32) : Nat := hN h 3
def wl (h : Nat → Int32) (s : Nat) : Nat := hN h (108 + 10 * s)
def dp (h : Nat → Int32) (s : Nat) : Nat := hN h (109 + 10 * s)
def ly (h : Nat → Int32) (s k : Nat) : Nat := hN h (110 + 10 * s + k)
def atB (h : Nat → Int32) (s n p : Nat) : Bool := exB (fun k => ly h s k == p) n
def seB (h : Nat → Int32) (n p : Nat) : Bool := exB (fun s => atB h s (dp h s) p) n
def onB (h : Nat → Int32) (n w p : Nat) : Bool := exB (fun s => (wl h s == w) && atB h s (dp h s) p) n
def a1B (h : Nat → Int32) (s m p q : Nat) : Bool := exB (fun k => (ly h s (k + 1) == p) && (ly h s k == q)) m
def ahB (h : Nat → Int32) (n p q : Nat) : Bool := exB (fun s => a1B h s (dp h s - 1) p q) n
def Seen (h : Nat → Int32) (p : Nat) : Bool := seB h (nS h) p
def On (h : Nat → Int32) (w p : Nat) : Bool := onB h (nS h) w p
def Ah (h : Nat → Int32) (p q : Nat) : Bool := ahB h (nS h) p q
def wsh (R : Nat → Nat → Bool) : Nat → Nat → Nat → Bool
  | 0 => R
  | n + 1 => fun p q => wsh R n p q || (wsh R n p n && wsh R n n q)
def Su (h : Nat → Int32) (p q : Nat) : Bool := wsh (Ah h) 10 p q
def Ring (h : Nat → Int32) (p : Nat) : Bool := Su h p p
/-- a valid house -/
def HV (h : Nat → Int32) : Prop :=
  (h 0 = nI (nW h) ∧ nW h ≤ 8) ∧ (h 1 = nI (nP h) ∧ nP h ≤ 10) ∧ (h 2 = nI (nT h) ∧ nT h ≤ 10) ∧ (h 3 = nI (nS h) ∧ nS h ≤ 9) ∧
  (∀ w, w < nW h → ∃ b wd hg : Nat, h (4 + 3 * w) = nI b ∧ 1700 ≤ b ∧ b ≤ 1999 ∧ h (5 + 3 * w) = nI wd ∧ 50 ≤ wd ∧ wd ≤ 999 ∧ h (6 + 3 * w) = nI hg ∧ 100 ≤ hg ∧ hg ≤ 400) ∧
  (∀ p, p < nP h → ∃ kd md la pr re : Nat, h (28 + 5 * p) = nI kd ∧ 1 ≤ kd ∧ kd ≤ 5 ∧ h (29 + 5 * p) = nI md ∧ 1700 ≤ md ∧ md ≤ 1999 ∧ h (30 + 5 * p) = nI la ∧ md ≤ la ∧ la ≤ 1999 ∧ h (31 + 5 * p) = nI pr ∧ pr ≤ 99 ∧ h (32 + 5 * p) = nI re ∧ 1 ≤ re ∧ re ≤ 99) ∧
  (∀ t, t < nT h → ∃ fr to me : Nat, h (78 + 3 * t) = nI fr ∧ 1700 ≤ fr ∧ fr ≤ 1999 ∧ h (79 + 3 * t) = nI to ∧ fr ≤ to ∧ to ≤ 1999 ∧ h (80 + 3 * t) = nI me ∧ me ≤ 99) ∧
  (∀ s, s < nS h → h (108 + 10 * s) = nI (wl h s) ∧ wl h s < nW h ∧ h (109 + 10 * s) = nI (dp h s) ∧ 1 ≤ dp h s ∧ dp h s ≤ 8 ∧ ∀ k, k < dp h s → h (110 + 10 * s + k) = nI (ly h s k) ∧ ly h s k < nP h)
/-- the class's house and spots hold it -/
def RHw (C : Nat → Nat → Int32) (h : Nat → Int32) : Prop := C 0 0 = h 0 ∧ ∀ w, w < nW h → C 1 w = h (4 + 3 * w) ∧ C 2 w = h (5 + 3 * w) ∧ C 3 w = h (6 + 3 * w)
def RHp (C : Nat → Nat → Int32) (h : Nat → Int32) : Prop := C 0 4 = h 1 ∧ ∀ p, p < nP h → C 4 p = h (28 + 5 * p) ∧ C 5 p = h (29 + 5 * p) ∧ C 6 p = h (30 + 5 * p) ∧ C 7 p = h (31 + 5 * p) ∧ C 8 p = h (32 + 5 * p)
def RHt (C : Nat → Nat → Int32) (h : Nat → Int32) : Prop := C 0 10 = h 2 ∧ ∀ t, t < nT h → C 9 t = h (78 + 3 * t) ∧ C 10 t = h (79 + 3 * t) ∧ C 11 t = h (80 + 3 * t)
def RHs (P : Nat → Nat → Int32) (h : Nat → Int32) : Prop := P 0 0 = h 3 ∧ ∀ s, s < nS h → P 1 s = h (108 + 10 * s) ∧ P 2 s = h (109 + 10 * s) ∧ ∀ k, k < dp h s → P 3 (8 * s + k) = h (110 + 10 * s + k)
def RH (C P : Nat → Nat → Int32) (h : Nat → Int32) : Prop := RHw C h ∧ RHp C h ∧ RHt C h ∧ RHs P h
def Rrow (th la si it lane many item : Nat → Int32) : Prop := ∀ r, r < 8 →
  (th r = 0 ∧ lane r = -1 ∧ si r = 0) ∨ (th r = 1 ∧ (0 ≤ la r ∧ la r ≤ 2) ∧ lane r = la r ∧ ∃ n : Nat, n ≤ 40 ∧ si r = nI n ∧ many r = nI n ∧ ∀ i, i < n → it (40 * r + i) = item (40 * r + i))
def Rtape (len : Int32) (bts : Nat → Int32) (taped : Int32) (tape : Nat → Int32) : Prop := ∃ n : Nat, n ≤ 500 ∧ len = nI n ∧ taped = nI n ∧ ∀ i, i < n → bts i = tape i ∧ ∃ c, c < 256 ∧ tape i = nI c
def Rimg (C P : Nat → Nat → Int32) (h : Nat → Int32) (isk : Int32) : Prop := (isk = 0 ∧ C 0 0 = 0) ∨ (isk = 1 ∧ HV h ∧ RH C P h ∧ 1 ≤ nW h)
def Rbod (bg : Int32) (tr : Nat → Int32) (traced : Int32) (trace : Nat → Int32) : Prop := ∃ n : Nat, n ≤ 16 ∧ bg = nI n ∧ traced = nI n ∧ ∀ i, i < n → tr i = trace i
def FR (seen : Int32) (on ahead sure : Nat → Int32) (h : Nat → Int32) : Prop := seen = bs (Seen h) ∧ (∀ w, w < 8 → on w = bs (On h w)) ∧ (∀ p, p < 10 → ahead p = bs (Ah h p)) ∧ ∀ p, p < 10 → sure p = bs (Su h p)
end
section
/-! what the class has learned (the years and the order where there is no ring), and its counts: told below by their own words -/
def FO (F : Nat → Nat → Int32) (h : Nat → Int32) : Prop := F 0 2 = bs (Seen h) ∧ F 0 3 = bs (Ring h) ∧ (∀ w, w < 8 → F 1 w = bs (On h w)) ∧ (∀ p, p < 10 → F 2 p = bs (Ah h p)) ∧ (∀ p, p < 10 → F 3 p = bs (Su h p))
/-- the relation between the class's cells and the reference's -/
def RelA (x : Nat → Int32) (o : Nat → Int32) : Prop := x 11 = o 10 ∧ x 12 = o 1
def RelH (M : am_M) : Prop := HV (M 11 0 4) ∧ RH (M 4 0) (M 5 0) (M 11 0 4) ∧ M 11 0 0 7 = b2i (0 < nW (M 11 0 4)) ∧ FR (M 11 0 0 18) (M 11 0 7) (M 11 0 8) (M 11 0 9) (M 11 0 4)
def RelF (F O : Nat → Nat → Int32) (h : Nat → Int32) : Prop := FO F h
def RelI (M : am_M) : Prop := Rimg (M 4 2) (M 5 1) (fun i => M 11 0 14 i) (M 11 0 13 0) ∧ Rimg (M 4 3) (M 5 2) (fun i => M 11 0 14 (198 + i)) (M 11 0 13 1)
def Rel (M : am_M) : Prop :=
  Rrow (M 1 0 1) (M 1 0 2) (M 1 0 3) (M 1 0 4) (M 11 0 1) (M 11 0 2) (M 11 0 3) ∧ Rtape (M 2 0 0 1) (M 2 0 1) (M 11 0 0 9) (M 11 0 6) ∧ RelA (M 0 0 0) (M 11 0 0) ∧ RelH M ∧ RelF (M 7 0) (M 8 0) (M 11 0 4) ∧ RelI M ∧ Rbod (M 10 0 0 1) (M 10 0 1) (M 11 0 0 28) (M 11 0 15)
/-- one call on both, from a memory that is in relation -/
def OpAt (nc nr : Nat) (as : List am_V) (M : am_M) : Prop := ∃ (v : Int32) (d1 : Nat) (Po : Option am_V → am_M → Prop), d1 < 100 ∧ ConP d1 nc (aR 0 0 0 :: as) M Po ∧ ∀ r M1, Po r M1 → r = some (aI v) ∧ ∃ (d2 : Nat) (Po2 : Option am_V → am_M → Prop), d2 < 100 ∧ ConP d2 nr (aR 11 0 0 :: as) M1 Po2 ∧ ∀ r2 M2, Po2 r2 M2 → r2 = some (aI v) ∧ Rel M2
theorem op_mk {nc nr d1 d2 : Nat} {as : List am_V} {M M1 M2 : am_M} {v : Int32} (h1 : Con d1 nc (aR 0 0 0 :: as) M (some (aI v)) M1) (h2 : Con d2 nr (aR 11 0 0 :: as) M1 (some (aI v)) M2) (h : Rel M2) (hd1 : d1 < 100 := by decide) (hd2 : d2 < 100 := by decide) : OpAt nc nr as M :=
  ⟨v, d1, _, hd1, h1, fun r M1' hp => by
    obtain ⟨rfl, rfl⟩ := hp
    exact ⟨rfl, d2, _, hd2, h2, fun r2 M2' hp2 => by
      obtain ⟨rfl, rfl⟩ := hp2
      exact ⟨rfl, h⟩⟩⟩
/-- nothing of what is in relation changed -/
theorem Rel_keep {M M2 : am_M} (h : Rel M) (h1 : M2 1 0 = M 1 0) (h2 : M2 2 0 = M 2 0) (h4 : M2 4 = M 4) (h5 : M2 5 = M 5) (h7 : M2 7 0 = M 7 0) (h8 : M2 8 0 = M 8 0) (h10 : M2 10 0 = M 10 0) (hr : ∀ o, o ≠ 0 → M2 11 0 o = M 11 0 o) (hs : ∀ i, i = 7 ∨ i = 9 ∨ i = 10 ∨ i = 18 ∨ i = 28 → M2 11 0 0 i = M 11 0 0 i) (ha : M2 0 0 0 11 = M 0 0 0 11) (hb : M2 0 0 0 12 = M2 11 0 0 1) : Rel M2 := by
  obtain ⟨g1, g2, g3, g4, g5, g6, g7⟩ := h
  unfold Rel RelH RelI RelA
  rw [h1, h2, h4, h5, h7, h8, h10, ha, hb, hr 1 (by decide), hr 2 (by decide), hr 3 (by decide), hr 4 (by decide), hr 6 (by decide), hr 7 (by decide), hr 8 (by decide), hr 9 (by decide), hr 13 (by decide), hr 14 (by decide), hr 15 (by decide), hs 7 (by decide), hs 9 (by decide), hs 10 (by decide), hs 18 (by decide), hs 28 (by decide)]
  exact ⟨g1, g2, ⟨g3.1, rfl⟩, g4, g5, g6, g7⟩
end
section
/-! row, set, copy, drop: class and reference -/
/-- the class's latest finding -/
def mS (M : am_M) (x : Int32) : am_M := sA M 0 0 0 (upd (M 0 0 0) 12 x)
theorem c_Main_found (n : Int32) (M : am_M) : Con 1 mMain_found [aR 0 0 0, aI n] M (some (aI (-1000010 - n))) (mS M n) := by
  refine con_of okMain_found [some (aR 0 0 0), some (aI n)] (some .int) ?_
  intro J hgo
  refine hgo [] _ _ _ _ ?_
  (first | exact ⟨rfl, rfl⟩ | (refine ⟨?_, rfl⟩; (first | rfl | (simp [b2i]; done) | (rw [b2i_t]; simp only [vp_in_iff, i3_lt, i3_le, i3_eq, Int32.reduceToInt, i3_m1] <;> omega) | (rw [b2i_f]; simp only [vp_in_iff, i3_lt, i3_le, i3_eq, Int32.reduceToInt, i3_m1] <;> omega))))   -- leaf1
theorem c_Main_clean (n : Int32) (M : am_M) : Con 1 mMain_clean [aR 0 0 0, aI n] M (some (aI n)) (mS M 0) := by
  refine con_of okMain_clean [some (aR 0 0 0), some (aI n)] (some .int) ?_
  intro J hgo
  refine hgo [] _ _ _ _ ?_
  (first | exact ⟨rfl, rfl⟩ | (refine ⟨?_, rfl⟩; (first | rfl | (simp [b2i]; done) | (rw [b2i_t]; simp only [vp_in_iff, i3_lt, i3_le, i3_eq, Int32.reduceToInt, i3_m1] <;> omega) | (rw [b2i_f]; simp only [vp_in_iff, i3_lt, i3_le, i3_eq, Int32.reduceToInt, i3_m1] <;> omega))))   -- leaf1
theorem c_Main_row_bad (a b c : Int32) (M : am_M) (h : ¬ ((0 ≤ a ∧ a < 8) ∧ (0 ≤ b ∧ b ≤ 2) ∧ c ≤ 40)) : Con 5 mMain_row [aR 0 0 0, aI a, aI b, aI c] M (some (aI (-1000001))) M := by
  refine con_of okMain_row [some (aR 0 0 0), some (aI a), some (aI b), some (aI c)] (some .int) ?_
  intro J hgo
  refine hgo [] _ _ _ _ ?_
  refine cl_ (c_Rows_isRow _ _) ?_   -- call1
  refine brb (fun h1 => ?_) (fun h1 => ?_)
  · skip
    refine hgo [] _ _ _ _ ?_
    (first | exact ⟨rfl, rfl⟩ | (refine ⟨?_, rfl⟩; (first | rfl | (simp [b2i, h1]; done) | (rw [b2i_t]; simp only [vp_in_iff, i3_lt, i3_le, i3_eq, Int32.reduceToInt, i3_m1] at h1 ⊢ <;> omega) | (rw [b2i_f]; simp only [vp_in_iff, i3_lt, i3_le, i3_eq, Int32.reduceToInt, i3_m1] at h1 ⊢ <;> omega) | (exfalso; simp only [vp_in_iff, i3_lt, i3_le, i3_eq, Int32.reduceToInt, i3_m1] at h1; omega))))   -- leaf2
  · skip
    refine cl_ (c_Rows_isLane _ _) ?_   -- call3
    refine brb (fun h2 => ?_) (fun h2 => ?_)
    · skip
      refine hgo [] _ _ _ _ ?_
      (first | exact ⟨rfl, rfl⟩ | (refine ⟨?_, rfl⟩; (first | rfl | (simp [b2i, h1, h2]; done) | (rw [b2i_t]; simp only [vp_in_iff, i3_lt, i3_le, i3_eq, Int32.reduceToInt, i3_m1] at h1 h2 ⊢ <;> omega) | (rw [b2i_f]; simp only [vp_in_iff, i3_lt, i3_le, i3_eq, Int32.reduceToInt, i3_m1] at h1 h2 ⊢ <;> omega) | (exfalso; simp only [vp_in_iff, i3_lt, i3_le, i3_eq, Int32.reduceToInt, i3_m1] at h1 h2; omega))))   -- leaf4
    · skip
      refine brf (fun q => h ⟨h1, h2, q⟩) ?_
      (first | exact ⟨rfl, rfl⟩ | (refine ⟨?_, rfl⟩; (first | rfl | (simp [b2i, h1, h2]; done) | (rw [b2i_t]; simp only [vp_in_iff, i3_lt, i3_le, i3_eq, Int32.reduceToInt, i3_m1] at h1 h2 ⊢ <;> omega) | (rw [b2i_f]; simp only [vp_in_iff, i3_lt, i3_le, i3_eq, Int32.reduceToInt, i3_m1] at h1 h2 ⊢ <;> omega) | (exfalso; simp only [vp_in_iff, i3_lt, i3_le, i3_eq, Int32.reduceToInt, i3_m1] at h1 h2; omega))))   -- leaf5
theorem c_Main_row_neg (a b c : Int32) (M : am_M) (g1 : 0 ≤ a ∧ a < 8) (g2 : 0 ≤ b ∧ b ≤ 2) (g3 : c < 0) : Con 5 mMain_row [aR 0 0 0, aI a, aI b, aI c] M (some (aI (-1000014))) (mS M 4) := by
  refine con_of okMain_row [some (aR 0 0 0), some (aI a), some (aI b), some (aI c)] (some .int) ?_
  intro J hgo
  refine hgo [] _ _ _ _ ?_
  refine cl_ (c_Rows_isRow _ _) ?_   -- call1
  refine brbt (g1) ?_
  refine cl_ (c_Rows_isLane _ _) ?_   -- call2
  refine brbt (g2) ?_
  refine brt (by (simp only [vp_in_iff, i3_lt, i3_le, i3_eq, Int32.reduceToInt, i3_m1] at g3 ⊢ <;> omega)) ?_
  refine hgo [] _ _ _ _ ?_
  refine brf (by (simp only [vp_in_iff, i3_lt, i3_le, i3_eq, Int32.reduceToInt, i3_m1] at g3 ⊢ <;> omega)) ?_
  refine cl_ (c_Main_found _ _) ?_   -- call3
  (first | exact ⟨rfl, rfl⟩ | (refine ⟨?_, rfl⟩; (first | rfl | (simp [b2i]; done) | (rw [b2i_t]; simp only [vp_in_iff, i3_lt, i3_le, i3_eq, Int32.reduceToInt, i3_m1] <;> omega) | (rw [b2i_f]; simp only [vp_in_iff, i3_lt, i3_le, i3_eq, Int32.reduceToInt, i3_m1] <;> omega))))   -- leaf4
theorem c_Main_row_ok (r n : Nat) (b : Int32) (M : am_M) (hr : r < 8) (g2 : 0 ≤ b ∧ b ≤ 2) (hn : n ≤ 40) : Con 5 mMain_row [aR 0 0 0, aI (nI r), aI b, aI (nI n)] M (some (aI (nI n))) (mS (sA (sA (sA (sA M 1 0 1 (upd (M 1 0 1) r 1)) 1 0 2 (upd (M 1 0 2) r b)) 1 0 3 (upd (M 1 0 3) r (nI n))) 1 0 4 (zf (M 1 0 4) (40 * r) (40 * r + n) 0)) 0) := by
  refine con_of okMain_row [some (aR 0 0 0), some (aI (nI r)), some (aI b), some (aI (nI n))] (some .int) ?_
  intro J hgo
  refine hgo [] _ _ _ _ ?_
  refine cl_ (c_Rows_isRow _ _) ?_   -- call1
  refine brbt (nin (n := 8) hr (by omega)) ?_
  refine cl_ (c_Rows_isLane _ _) ?_   -- call2
  refine brbt (g2) ?_
  refine brt (nI_le (b := 40) hn (by omega)) ?_
  refine hgo [] _ _ _ _ ?_
  refine brt (nI_pos' (by omega)) ?_
  refine hgo [] _ _ _ _ ?_
  refine cl_ (c_Rows_make r n b _ hr hn) ?_   -- call3
  refine cl_ (c_Main_clean _ _) ?_   -- call4
  (first | exact ⟨rfl, rfl⟩ | (refine ⟨?_, rfl⟩; (first | rfl | (simp [b2i]; done) | (rw [b2i_t]; simp only [vp_in_iff, i3_lt, i3_le, i3_eq, Int32.reduceToInt, i3_m1] <;> omega) | (rw [b2i_f]; simp only [vp_in_iff, i3_lt, i3_le, i3_eq, Int32.reduceToInt, i3_m1] <;> omega))))   -- leaf5
theorem cases_row (a b c : Int32) : (¬ ((0 ≤ a ∧ a < 8) ∧ (0 ≤ b ∧ b ≤ 2) ∧ c ≤ 40)) ∨ ((0 ≤ a ∧ a < 8) ∧ (0 ≤ b ∧ b ≤ 2) ∧ c < 0) ∨ ∃ r n : Nat, r < 8 ∧ n ≤ 40 ∧ a = nI r ∧ c = nI n ∧ (0 ≤ b ∧ b ≤ 2) := by
  by_cases h : (0 ≤ a ∧ a < 8) ∧ (0 ≤ b ∧ b ≤ 2) ∧ c ≤ 40
  · by_cases h2 : c < 0
    · exact Or.inr (Or.inl ⟨h.1, h.2.1, h2⟩)
    · obtain ⟨⟨h3, h4⟩, h5, h6⟩ := h
      refine Or.inr (Or.inr ⟨a.toNatClampNeg, c.toNatClampNeg, ?_, ?_, ?_, ?_, h5⟩)
      · simp only [i3_lt, i3_le, Int32.reduceToInt] at h3 h4
        have := i3_cl h3
        omega
      · simp only [i3_lt, i3_le, Int32.reduceToInt] at h2 h6
        have := i3_cl (x := c) (by omega)
        omega
      · simp only [i3_lt, i3_le, Int32.reduceToInt] at h3
        exact i3_of h3
      · simp only [i3_lt, Int32.reduceToInt] at h2
        exact i3_of (by omega)
  · exact Or.inl h
theorem Rrow_set {th la si it lane many item : Nat → Int32} {th2 la2 si2 it2 lane2 many2 item2 : Nat → Int32} (h : Rrow th la si it lane many item) (r : Nat) (hr : r < 8)
    (ho : ∀ q, q < 8 → q ≠ r → th2 q = th q ∧ la2 q = la q ∧ si2 q = si q ∧ lane2 q = lane q ∧ many2 q = many q ∧ ∀ i, i < 40 → it2 (40 * q + i) = it (40 * q + i) ∧ item2 (40 * q + i) = item (40 * q + i))
    (hn : (th2 r = 0 ∧ lane2 r = -1 ∧ si2 r = 0) ∨ (th2 r = 1 ∧ (0 ≤ la2 r ∧ la2 r ≤ 2) ∧ lane2 r = la2 r ∧ ∃ n : Nat, n ≤ 40 ∧ si2 r = nI n ∧ many2 r = nI n ∧ ∀ i, i < n → it2 (40 * r + i) = item2 (40 * r + i))) : Rrow th2 la2 si2 it2 lane2 many2 item2 := by
  intro q hq
  by_cases hqr : q = r
  · subst hqr; exact hn
  · obtain ⟨e1, e2, e3, e4, e5, e6⟩ := ho q hq hqr
    rw [e1, e2, e3, e4, e5]
    rcases h q hq with h1 | ⟨h1, h2, h3, n, h4, h5, h6, h7⟩
    · exact Or.inl h1
    · exact Or.inr ⟨h1, h2, h3, n, h4, h5, h6, fun i hi => by rw [(e6 i (by omega)).1, (e6 i (by omega)).2]; exact h7 i hi⟩
/-- only the rows, and the two numbers of the latest finding, changed -/
theorem Rel_rows {M M2 : am_M} (h : Rel M) (h1 : Rrow (M2 1 0 1) (M2 1 0 2) (M2 1 0 3) (M2 1 0 4) (M2 11 0 1) (M2 11 0 2) (M2 11 0 3)) (h2 : M2 2 0 = M 2 0) (h4 : M2 4 = M 4) (h5 : M2 5 = M 5) (h7 : M2 7 0 = M 7 0) (h8 : M2 8 0 = M 8 0) (h10 : M2 10 0 = M 10 0) (hr : ∀ o, 4 ≤ o → M2 11 0 o = M 11 0 o) (hs : ∀ i, i = 7 ∨ i = 9 ∨ i = 10 ∨ i = 18 ∨ i = 28 → M2 11 0 0 i = M 11 0 0 i) (ha : M2 0 0 0 11 = M 0 0 0 11) (hb : M2 0 0 0 12 = M2 11 0 0 1) : Rel M2 := by
  obtain ⟨g1, g2, g3, g4, g5, g6, g7⟩ := h
  unfold Rel RelH RelI RelA
  refine ⟨h1, ?_⟩
  rw [h2, h4, h5, h7, h8, h10, ha, hb, hr 4 (by decide), hr 6 (by decide), hr 7 (by decide), hr 8 (by decide), hr 9 (by decide), hr 13 (by decide), hr 14 (by decide), hr 15 (by decide), hs 7 (by decide), hs 9 (by decide), hs 10 (by decide), hs 18 (by decide), hs 28 (by decide)]
  exact ⟨g2, ⟨g3.1, rfl⟩, g4, g5, g6, g7⟩
theorem op_row (a b c : Int32) (M : am_M) (hR : Rel M) : OpAt mMain_row mRef_row [aI a, aI b, aI c] M := by
  rcases cases_row a b c with h | ⟨h1, h2, h3⟩ | ⟨r, n, hr, hn, rfl, rfl, hb⟩
  · refine op_mk (c_Main_row_bad a b c M h) (c_Ref_row_bad a b c M h) (Rel_keep hR rfl rfl rfl rfl rfl rfl rfl ?_ ?_ rfl ?_)
    · intro o ho; exact sA_o ho
    · intro i hi; rcases hi with rfl | rfl | rfl | rfl | rfl <;> rfl
    · exact hR.2.2.1.2
  · refine op_mk (c_Main_row_neg a b c M h1 h2 h3) (c_Ref_row_neg a b c _ h1 h2 h3) (Rel_keep hR rfl rfl rfl rfl rfl rfl rfl ?_ ?_ rfl rfl)
    · intro o ho
      simp only [rS, rT, mS, sA_o ho, sA_k (show (11 : Nat) ≠ 0 by decide)]
    · intro i hi; rcases hi with rfl | rfl | rfl | rfl | rfl <;> rfl
  · refine op_mk (c_Main_row_ok r n b M hr hb hn) (c_Ref_row_ok r n b _ hr hb hn) (Rel_rows hR ?_ rfl rfl rfl rfl rfl rfl ?_ ?_ rfl rfl)
    · refine Rrow_set hR.1 r hr (fun q hq hqr => ?_) (Or.inr ⟨?_, ?_, ?_, n, hn, ?_, ?_, fun i hi => ?_⟩)
      · refine ⟨upd_n hqr, upd_n hqr, upd_n hqr, upd_n hqr, upd_n hqr, fun i hi => ⟨?_, ?_⟩⟩
        · show zf (M 1 0 4) (40 * r) (40 * r + n) 0 (40 * q + i) = _
          exact if_neg (by omega)
        · show zf (M 11 0 3) (40 * r) (40 * r + 40) 0 (40 * q + i) = _
          exact if_neg (by omega)
      · exact upd_s
      · show 0 ≤ upd (M 1 0 2) r b r ∧ upd (M 1 0 2) r b r ≤ 2
        rw [upd_s]
        exact hb
      · show upd (M 11 0 1) r b r = upd (M 1 0 2) r b r
        rw [upd_s, upd_s]
      · exact upd_s
      · exact upd_s
      · show zf (M 1 0 4) (40 * r) (40 * r + n) 0 (40 * r + i) = zf (M 11 0 3) (40 * r) (40 * r + 40) 0 (40 * r + i)
        simp only [zf]
        rw [if_pos (by omega), if_pos (by omega)]
    · intro o ho
      have h1 : o ≠ 1 := by omega
      have h2 : o ≠ 2 := by omega
      have h3 : o ≠ 3 := by omega
      have h0 : o ≠ 0 := by omega
      simp only [rS, rT, mS, sA_o h0, sA_o h1, sA_o h2, sA_o h3, sA_k (show (11 : Nat) ≠ 0 by decide), sA_k (show (11 : Nat) ≠ 1 by decide)]
    · intro i hi; rcases hi with rfl | rfl | rfl | rfl | rfl <;> rfl
end
section
theorem holdI {na : Nat} (h : na ≤ 40) {i n : Int32} : (0 ≤ i ∧ 0 ≤ n ∧ i ≤ nI na - n) ↔ (0 ≤ i.toInt ∧ 0 ≤ n.toInt ∧ i.toInt + n.toInt ≤ na) := by
  have e0 := i3_n (n := na) (by omega)
  have r1 := i3_rng n
  simp only [i3_le, Int32.reduceToInt]
  constructor
  · rintro ⟨h1, h2, h3⟩
    rw [i3_sub (by omega) (by omega)] at h3
    omega
  · rintro ⟨h1, h2, h3⟩
    rw [i3_sub (by omega) (by omega)]
    omega
theorem c_Rows_holdsN (r na : Nat) (i n : Int32) (M : am_M) (hr : r < 8) (hn : M 1 0 3 r = nI na) (h40 : na ≤ 40) : Con 2 mRows_holds [aR 1 0 0, aI (nI r), aI i, aI n] M (some (aI (b2i (0 ≤ i.toInt ∧ 0 ≤ n.toInt ∧ i.toInt + n.toInt ≤ na)))) M := by
  have h := c_Rows_holds (nI r) i n M
  rw [cl_nI (by omega), hn, b2i_iff (q := 0 ≤ i.toInt ∧ 0 ≤ n.toInt ∧ i.toInt + n.toInt ≤ na) (by rw [holdI h40]; exact ⟨fun q => q.2, fun q => ⟨nin (n := 8) hr (by omega), q⟩⟩)] at h
  exact h
theorem c_Rows_isThereN (r : Nat) (M : am_M) (hr : r < 8) : Con 2 mRows_isThere [aR 1 0 0, aI (nI r)] M (some (aI (b2i (¬ M 1 0 1 r = 0)))) M := by
  have h := c_Rows_isThere (nI r) M
  rw [cl_nI (by omega), b2i_iff (q := ¬ M 1 0 1 r = 0) ⟨fun q => q.2.2, fun q => ⟨(nin (n := 8) hr (by omega)).1, (nin (n := 8) hr (by omega)).2, q⟩⟩] at h
  exact h
theorem rowN {a : Int32} (h : 0 ≤ a ∧ a < 8) : ∃ r : Nat, r < 8 ∧ a = nI r := by
  simp only [i3_le, i3_lt, Int32.reduceToInt] at h
  have := i3_cl h.1
  exact ⟨a.toNatClampNeg, by omega, i3_of h.1⟩
theorem intN {a : Int32} {m : Nat} (h : 0 ≤ a.toInt ∧ a.toInt < m) : ∃ r : Nat, r < m ∧ a = nI r := by
  have := i3_cl h.1
  exact ⟨a.toNatClampNeg, by omega, i3_of h.1⟩
/-! set -/
def nv (l v : Int32) : Int32 := if l = 0 then v.toInt8.toInt32 else if l = 1 then v.toInt16.toInt32 else v
theorem c_Main_set_bad (a i v : Int32) (M : am_M) (h : ¬ (0 ≤ a ∧ a < 8)) : Con 6 mMain_set [aR 0 0 0, aI a, aI i, aI v] M (some (aI (-1000001))) M := by
  refine con_of okMain_set [some (aR 0 0 0), some (aI a), some (aI i), some (aI v)] (some .int) ?_
  intro J hgo
  refine hgo [] _ _ _ _ ?_
  refine cl_ (c_Rows_isRow _ _) ?_   -- call1
  refine brbf (h) ?_
  (first | exact ⟨rfl, rfl⟩ | (refine ⟨?_, rfl⟩; (first | rfl | (simp [b2i]; done) | (rw [b2i_t]; simp only [vp_in_iff, i3_lt, i3_le, i3_eq, Int32.reduceToInt, i3_m1] <;> omega) | (rw [b2i_f]; simp only [vp_in_iff, i3_lt, i3_le, i3_eq, Int32.reduceToInt, i3_m1] <;> omega))))   -- leaf2
theorem c_Main_set_null (r : Nat) (i v : Int32) (M : am_M) (hr : r < 8) (h : M 1 0 1 r = 0) : Con 6 mMain_set [aR 0 0 0, aI (nI r), aI i, aI v] M (some (aI (-1000011))) (mS M 1) := by
  refine con_of okMain_set [some (aR 0 0 0), some (aI (nI r)), some (aI i), some (aI v)] (some .int) ?_
  intro J hgo
  refine hgo [] _ _ _ _ ?_
  refine cl_ (c_Rows_isRow _ _) ?_   -- call1
  refine brbt (nin (n := 8) hr (by omega)) ?_
  refine hgo [] _ _ _ _ ?_
  refine cl_ (c_Rows_isThereN r _ hr) ?_   -- call2
  refine brbf (fun q => q h) ?_
  refine cl_ (c_Main_found _ _) ?_   -- call3
  (first | exact ⟨rfl, rfl⟩ | (refine ⟨?_, rfl⟩; (first | rfl | (simp [b2i]; done) | (rw [b2i_t]; simp only [vp_in_iff, i3_lt, i3_le, i3_eq, Int32.reduceToInt, i3_m1] <;> omega) | (rw [b2i_f]; simp only [vp_in_iff, i3_lt, i3_le, i3_eq, Int32.reduceToInt, i3_m1] <;> omega))))   -- leaf4
theorem c_Main_set_place (r n : Nat) (i v : Int32) (M : am_M) (hr : r < 8) (h : ¬ M 1 0 1 r = 0) (hn : M 1 0 3 r = nI n) (h40 : n ≤ 40) (hp : ¬ (0 ≤ i.toInt ∧ 0 ≤ (1 : Int32).toInt ∧ i.toInt + (1 : Int32).toInt ≤ n)) : Con 6 mMain_set [aR 0 0 0, aI (nI r), aI i, aI v] M (some (aI (-1000012))) (mS M 2) := by
  refine con_of okMain_set [some (aR 0 0 0), some (aI (nI r)), some (aI i), some (aI v)] (some .int) ?_
  intro J hgo
  refine hgo [] _ _ _ _ ?_
  refine cl_ (c_Rows_isRow _ _) ?_   -- call1
  refine brbt (nin (n := 8) hr (by omega)) ?_
  refine hgo [] _ _ _ _ ?_
  refine cl_ (c_Rows_isThereN r _ hr) ?_   -- call2
  refine brbt (h) ?_
  refine hgo [] _ _ _ _ ?_
  refine cl_ (c_Rows_holdsN r n _ _ _ hr hn h40) ?_   -- call3
  refine brbf (hp) ?_
  refine cl_ (c_Main_found _ _) ?_   -- call4
  (first | exact ⟨rfl, rfl⟩ | (refine ⟨?_, rfl⟩; (first | rfl | (simp [b2i]; done) | (rw [b2i_t]; simp only [vp_in_iff, i3_lt, i3_le, i3_eq, Int32.reduceToInt, i3_m1] <;> omega) | (rw [b2i_f]; simp only [vp_in_iff, i3_lt, i3_le, i3_eq, Int32.reduceToInt, i3_m1] <;> omega))))   -- leaf5
theorem c_Main_set_ok (r n i : Nat) (v : Int32) (M : am_M) (hr : r < 8) (h : ¬ M 1 0 1 r = 0) (hn : M 1 0 3 r = nI n) (h40 : n ≤ 40) (hi : i < n) : Con 6 mMain_set [aR 0 0 0, aI (nI r), aI (nI i), aI v] M (some (aI (nv (M 1 0 2 r) v))) (mS (sA M 1 0 4 (upd (M 1 0 4) (40 * r + i) (nv (M 1 0 2 r) v))) 0) := by
  refine con_of okMain_set [some (aR 0 0 0), some (aI (nI r)), some (aI (nI i)), some (aI v)] (some .int) ?_
  intro J hgo
  refine hgo [] _ _ _ _ ?_
  refine cl_ (c_Rows_isRow _ _) ?_   -- call1
  refine brbt (nin (n := 8) hr (by omega)) ?_
  refine hgo [] _ _ _ _ ?_
  refine cl_ (c_Rows_isThereN r _ hr) ?_   -- call2
  refine brbt (h) ?_
  refine hgo [] _ _ _ _ ?_
  refine cl_ (c_Rows_holdsN r n _ _ _ hr hn h40) ?_   -- call3
  refine brbt (by simp only [Int32.reduceToInt]; rw [i3_n (by omega)]; omega) ?_
  refine hgo [] _ _ _ _ ?_
  refine cl_ (c_Rows_put r i n v _ hr hn h40 hi) ?_   -- call4
  refine cl_ (c_Main_clean _ _) ?_   -- call5
  (first | exact ⟨rfl, rfl⟩ | (refine ⟨?_, rfl⟩; (first | rfl | (simp [b2i]; done) | (rw [b2i_t]; simp only [vp_in_iff, i3_lt, i3_le, i3_eq, Int32.reduceToInt, i3_m1] <;> omega) | (rw [b2i_f]; simp only [vp_in_iff, i3_lt, i3_le, i3_eq, Int32.reduceToInt, i3_m1] <;> omega))))   -- leaf6
theorem c_Ref_set_bad (a i v : Int32) (M : am_M) (h : ¬ (0 ≤ a ∧ a < 8)) : Con 6 mRef_set [aR 11 0 0, aI a, aI i, aI v] M (some (aI (-1000001))) (rT M) := by
  refine con_of okRef_set [some (aR 11 0 0), some (aI a), some (aI i), some (aI v)] (some .int) ?_
  intro J hgo
  refine hgo [] _ _ _ _ ?_
  refine cl_ (c_Ref_isRow _ _) ?_   -- call1
  refine brbf (h) ?_
  (first | exact ⟨rfl, rfl⟩ | (refine ⟨?_, rfl⟩; (first | rfl | (simp [b2i]; done) | (rw [b2i_t]; simp only [vp_in_iff, i3_lt, i3_le, i3_eq, Int32.reduceToInt, i3_m1] <;> omega) | (rw [b2i_f]; simp only [vp_in_iff, i3_lt, i3_le, i3_eq, Int32.reduceToInt, i3_m1] <;> omega))))   -- leaf2
theorem e40 {r i : Nat} : 40 * nI r + nI i = nI (40 * r + i) := by
  show nI 40 * nI r + nI i = _
  rw [pk_mul, nI_add]
theorem c_Ref_set_null (r : Nat) (i v : Int32) (M : am_M) (hr : r < 8) (h : M 11 0 1 r = -1) : Con 6 mRef_set [aR 11 0 0, aI (nI r), aI i, aI v] M (some (aI (-1000011))) (rS (rS (rT M) 0) 1) := by
  refine con_of okRef_set [some (aR 11 0 0), some (aI (nI r)), some (aI i), some (aI v)] (some .int) ?_
  intro J hgo
  refine hgo [] _ _ _ _ ?_
  refine cl_ (c_Ref_isRow _ _) ?_
  refine brbt (nin (n := 8) hr (by omega)) ?_
  refine hgo [] _ _ _ _ ?_
  refine ob_ (vp_in_nI hr (by omega)) ?_
  refine brf ?_ ?_
  · show ¬ 0 ≤ M 11 0 1 (nI r).toNatClampNeg
    rw [cl_nI (by omega), h]
    decide
  refine cl_ (c_Ref_finding _ _) ?_
  exact ⟨rfl, rfl⟩
theorem c_Ref_set_place (r n : Nat) (i v : Int32) (M : am_M) (hr : r < 8) (h : 0 ≤ M 11 0 1 r) (hn : M 11 0 2 r = nI n) (h40 : n ≤ 40) (hp : ¬ (0 ≤ i.toInt ∧ i.toInt < n)) : Con 6 mRef_set [aR 11 0 0, aI (nI r), aI i, aI v] M (some (aI (-1000012))) (rS (rS (rT M) 0) 2) := by
  refine con_of okRef_set [some (aR 11 0 0), some (aI (nI r)), some (aI i), some (aI v)] (some .int) ?_
  intro J hgo
  refine hgo [] _ _ _ _ ?_
  refine cl_ (c_Ref_isRow _ _) ?_
  refine brbt (nin (n := 8) hr (by omega)) ?_
  refine hgo [] _ _ _ _ ?_
  refine ob_ (vp_in_nI hr (by omega)) ?_
  refine brt ?_ ?_
  · show 0 ≤ M 11 0 1 (nI r).toNatClampNeg
    rw [cl_nI (by omega)]
    exact h
  refine hgo [] _ _ _ _ ?_
  refine ob_ (vp_in_nI hr (by omega)) ?_
  refine cl_ (c_Ref_in i 0 (M 11 0 2 (nI r).toNatClampNeg - 1) _ _ _ rfl (by decide) rfl _) ?_
  refine brbf ?_ ?_
  · rw [cl_nI (by omega), hn]
    have e0 := i3_n (n := n) (by omega)
    have e1 : (1 : Int32).toInt = 1 := by decide
    simp only [i3_le, Int32.reduceToInt]
    rw [i3_sub (by omega) (by omega), e0]
    simp only [Int32.reduceToInt]
    omega
  refine cl_ (c_Ref_finding _ _) ?_
  exact ⟨rfl, rfl⟩
theorem c_Ref_set_ok (r n i : Nat) (v : Int32) (M : am_M) (hr : r < 8) (h : 0 ≤ M 11 0 1 r) (hn : M 11 0 2 r = nI n) (h40 : n ≤ 40) (hi : i < n) : Con 6 mRef_set [aR 11 0 0, aI (nI r), aI (nI i), aI v] M (some (aI (nv (M 11 0 1 r) v))) (sA (rS (rT M) 0) 11 0 3 (upd (M 11 0 3) (40 * r + i) (nv (M 11 0 1 r) v))) := by
  have e3 : (nI r).toNatClampNeg = r := cl_nI (by omega)
  have e4 : (40 * nI r + nI i).toNatClampNeg = 40 * r + i := by rw [e40]; exact cl_nI (by omega)
  have e5 : vp_in (40 * nI r + nI i) 320 := by rw [e40]; exact vp_in_nI (by omega) (by omega)
  refine con_of okRef_set [some (aR 11 0 0), some (aI (nI r)), some (aI (nI i)), some (aI v)] (some .int) ?_
  intro J hgo
  refine hgo [] _ _ _ _ ?_
  refine cl_ (c_Ref_isRow _ _) ?_
  refine brbt (nin (n := 8) hr (by omega)) ?_
  refine hgo [] _ _ _ _ ?_
  refine ob_ (vp_in_nI hr (by omega)) ?_
  refine brt ?_ ?_
  · show 0 ≤ M 11 0 1 (nI r).toNatClampNeg
    rw [e3]
    exact h
  refine hgo [] _ _ _ _ ?_
  refine ob_ (vp_in_nI hr (by omega)) ?_
  refine cl_ (c_Ref_in (nI i) 0 (M 11 0 2 (nI r).toNatClampNeg - 1) _ _ _ rfl (by decide) rfl _) ?_
  refine brbt ?_ ?_
  · rw [e3, hn]
    have h1 : nI n - 1 = nI (n - 1) := pk_sub (a := n) (b := 1) (by omega)
    rw [h1]
    exact ⟨nI_pos' (by omega), nI_le (by omega) (by omega)⟩
  refine hgo [] _ _ _ _ ?_
  refine ob_ (vp_in_nI hr (by omega)) ?_
  refine br_ (fun h1 => ?_) (fun h1 => ?_)
  · refine hgo [] _ _ _ _ ?_
    refine ob_ e5 ?_
    refine ob_ e5 ?_
    have h1 : M 11 0 1 r = 0 := by rw [← e3]; exact h1
    refine ⟨?_, ?_⟩
    · rw [sA_s, upd_s, nv, if_pos h1]
    · rw [e4, nv, if_pos h1]; rfl
  · refine hgo [] _ _ _ _ ?_
    have h1 : ¬ M 11 0 1 r = 0 := by rw [← e3]; exact h1
    refine ob_ (vp_in_nI hr (by omega)) ?_
    refine br_ (fun h2 => ?_) (fun h2 => ?_)
    · refine hgo [] _ _ _ _ ?_
      refine ob_ e5 ?_
      refine ob_ e5 ?_
      have h2 : M 11 0 1 r = 1 := by rw [← e3]; exact h2
      refine ⟨?_, ?_⟩
      · rw [sA_s, upd_s, nv, if_neg h1, if_pos h2]
      · rw [e4, nv, if_neg h1, if_pos h2]; rfl
    · refine hgo [] _ _ _ _ ?_
      refine ob_ e5 ?_
      refine ob_ e5 ?_
      have h2 : ¬ M 11 0 1 r = 1 := by rw [← e3]; exact h2
      refine ⟨?_, ?_⟩
      · rw [sA_s, upd_s, nv, if_neg h1, if_neg h2]
      · rw [e4, nv, if_neg h1, if_neg h2]; rfl
/-- only the finding changed -/
theorem Rel_find {M : am_M} (hR : Rel M) (x : Int32) : Rel (rS (rS (rT (mS M x)) 0) x) := by
  refine Rel_keep hR rfl rfl rfl rfl rfl rfl rfl ?_ ?_ rfl rfl
  · intro o ho
    simp only [rS, rT, mS, sA_o ho, sA_k (show (11 : Nat) ≠ 0 by decide)]
  · intro i hi; rcases hi with rfl | rfl | rfl | rfl | rfl <;> rfl
theorem Rel_bad {M : am_M} (hR : Rel M) : Rel (rT M) := by
  refine Rel_keep hR rfl rfl rfl rfl rfl rfl rfl ?_ ?_ rfl ?_
  · intro o ho; exact sA_o ho
  · intro i hi; rcases hi with rfl | rfl | rfl | rfl | rfl <;> rfl
  · exact hR.2.2.1.2
theorem op_set (a i v : Int32) (M : am_M) (hR : Rel M) : OpAt mMain_set mRef_set [aI a, aI i, aI v] M := by
  by_cases ha : 0 ≤ a ∧ a < 8
  · obtain ⟨r, hr, rfl⟩ := rowN ha
    rcases hR.1 r hr with ⟨h1, h2, h3⟩ | ⟨h1, h2, h3, n, h4, h5, h6, h7⟩
    · exact op_mk (c_Main_set_null r i v M hr h1) (c_Ref_set_null r i v _ hr h2) (Rel_find hR 1)
    · have ht : ¬ M 1 0 1 r = 0 := by rw [h1]; decide
      have hl : 0 ≤ M 11 0 1 r := by rw [h3]; exact h2.1
      by_cases hi : 0 ≤ i.toInt ∧ i.toInt < n
      · obtain ⟨q, hq, rfl⟩ := intN hi
        refine op_mk (M2 := sA (rS (rT (mS (sA M 1 0 4 (upd (M 1 0 4) (40 * r + q) (nv (M 1 0 2 r) v))) 0)) 0) 11 0 3 (upd (M 11 0 3) (40 * r + q) (nv (M 11 0 1 r) v))) (c_Main_set_ok r n q v M hr ht h5 h4 hq) (by
          have := c_Ref_set_ok r n q v (mS (sA M 1 0 4 (upd (M 1 0 4) (40 * r + q) (nv (M 1 0 2 r) v))) 0) hr hl h6 h4 hq
          rw [show (mS (sA M 1 0 4 (upd (M 1 0 4) (40 * r + q) (nv (M 1 0 2 r) v))) 0) 11 0 1 r = M 1 0 2 r from h3] at this
          rw [h3]
          exact this) (Rel_rows hR ?_ rfl rfl rfl rfl rfl rfl ?_ ?_ rfl rfl)
        · refine Rrow_set hR.1 r hr (fun p hp hpr => ?_) (Or.inr ⟨h1, h2, h3, n, h4, h5, h6, fun k hk => ?_⟩)
          · refine ⟨rfl, rfl, rfl, rfl, rfl, fun k hk => ⟨?_, ?_⟩⟩
            · exact upd_n (by omega)
            · exact upd_n (by omega)
          · show upd (M 1 0 4) (40 * r + q) (nv (M 1 0 2 r) v) (40 * r + k) = upd (M 11 0 3) (40 * r + q) (nv (M 11 0 1 r) v) (40 * r + k)
            by_cases hkq : k = q
            · subst hkq
              rw [upd_s, upd_s, h3]
            · rw [upd_n (by omega), upd_n (by omega)]
              exact h7 k hk
        · intro o ho
          have h3 : o ≠ 3 := by omega
          have h0 : o ≠ 0 := by omega
          simp only [rS, rT, mS, sA_o h0, sA_o h3, sA_k (show (11 : Nat) ≠ 0 by decide), sA_k (show (11 : Nat) ≠ 1 by decide)]
        · intro i hi; rcases hi with rfl | rfl | rfl | rfl | rfl <;> rfl
      · refine op_mk (c_Main_set_place r n i v M hr ht h5 h4 ?_) (c_Ref_set_place r n i v _ hr hl h6 h4 hi) (Rel_find hR 2)
        simp only [Int32.reduceToInt]
        omega
  · exact op_mk (c_Main_set_bad a i v M ha) (c_Ref_set_bad a i v M ha) (Rel_bad hR)
/-! drop -/
theorem c_Main_drop_bad (a : Int32) (M : am_M) (h : ¬ (0 ≤ a ∧ a < 8)) : Con 6 mMain_drop [aR 0 0 0, aI a] M (some (aI (-1000001))) M := by
  refine con_of okMain_drop [some (aR 0 0 0), some (aI a)] (some .int) ?_
  intro J hgo
  refine hgo [] _ _ _ _ ?_
  refine cl_ (c_Rows_isRow _ _) ?_   -- call1
  refine brbf (h) ?_
  (first | exact ⟨rfl, rfl⟩ | (refine ⟨?_, rfl⟩; (first | rfl | (simp [b2i]; done) | (rw [b2i_t]; simp only [vp_in_iff, i3_lt, i3_le, i3_eq, Int32.reduceToInt, i3_m1] <;> omega) | (rw [b2i_f]; simp only [vp_in_iff, i3_lt, i3_le, i3_eq, Int32.reduceToInt, i3_m1] <;> omega))))   -- leaf2
theorem c_Main_drop_null (r : Nat) (M : am_M) (hr : r < 8) (h : M 1 0 1 r = 0) : Con 6 mMain_drop [aR 0 0 0, aI (nI r)] M (some (aI (-1000011))) (mS M 1) := by
  refine con_of okMain_drop [some (aR 0 0 0), some (aI (nI r))] (some .int) ?_
  intro J hgo
  refine hgo [] _ _ _ _ ?_
  refine cl_ (c_Rows_isRow _ _) ?_   -- call1
  refine brbt (nin (n := 8) hr (by omega)) ?_
  refine hgo [] _ _ _ _ ?_
  refine cl_ (c_Rows_isThereN r _ hr) ?_   -- call2
  refine brbf (fun q => q h) ?_
  refine cl_ (c_Main_found _ _) ?_   -- call3
  (first | exact ⟨rfl, rfl⟩ | (refine ⟨?_, rfl⟩; (first | rfl | (simp [b2i]; done) | (rw [b2i_t]; simp only [vp_in_iff, i3_lt, i3_le, i3_eq, Int32.reduceToInt, i3_m1] <;> omega) | (rw [b2i_f]; simp only [vp_in_iff, i3_lt, i3_le, i3_eq, Int32.reduceToInt, i3_m1] <;> omega))))   -- leaf4
theorem c_Rows_removeN (r : Nat) (M : am_M) (hr : r < 8) (h : ¬ M 1 0 1 r = 0) : Con 3 mRows_remove [aR 1 0 0, aI (nI r)] M (some (aI (M 1 0 3 r))) (sA (sA M 1 0 1 (upd (M 1 0 1) r 0)) 1 0 3 (upd (M 1 0 3) r 0)) := by
  have e3 : (nI r).toNatClampNeg = r := cl_nI (by omega)
  have := c_Rows_remove (nI r) M (nin (n := 8) hr (by omega)) (by rw [e3]; exact h)
  rw [e3] at this
  exact this
theorem c_Main_drop_ok (r : Nat) (M : am_M) (hr : r < 8) (h : ¬ M 1 0 1 r = 0) : Con 6 mMain_drop [aR 0 0 0, aI (nI r)] M (some (aI (M 1 0 3 r))) (mS (sA (sA M 1 0 1 (upd (M 1 0 1) r 0)) 1 0 3 (upd (M 1 0 3) r 0)) 0) := by
  refine con_of okMain_drop [some (aR 0 0 0), some (aI (nI r))] (some .int) ?_
  intro J hgo
  refine hgo [] _ _ _ _ ?_
  refine cl_ (c_Rows_isRow _ _) ?_   -- call1
  refine brbt (nin (n := 8) hr (by omega)) ?_
  refine hgo [] _ _ _ _ ?_
  refine cl_ (c_Rows_isThereN r _ hr) ?_   -- call2
  refine brbt (h) ?_
  refine hgo [] _ _ _ _ ?_
  refine cl_ (c_Rows_removeN r _ hr h) ?_   -- call3
  refine cl_ (c_Main_clean _ _) ?_   -- call4
  (first | exact ⟨rfl, rfl⟩ | (refine ⟨?_, rfl⟩; (first | rfl | (simp [b2i]; done) | (rw [b2i_t]; simp only [vp_in_iff, i3_lt, i3_le, i3_eq, Int32.reduceToInt, i3_m1] <;> omega) | (rw [b2i_f]; simp only [vp_in_iff, i3_lt, i3_le, i3_eq, Int32.reduceToInt, i3_m1] <;> omega))))   -- leaf5
theorem c_Ref_drop_bad (a : Int32) (M : am_M) (h : ¬ (0 ≤ a ∧ a < 8)) : Con 6 mRef_drop [aR 11 0 0, aI a] M (some (aI (-1000001))) (rT M) := by
  refine con_of okRef_drop [some (aR 11 0 0), some (aI a)] (some .int) ?_
  intro J hgo
  refine hgo [] _ _ _ _ ?_
  refine cl_ (c_Ref_isRow _ _) ?_   -- call1
  refine brbf (h) ?_
  (first | exact ⟨rfl, rfl⟩ | (refine ⟨?_, rfl⟩; (first | rfl | (simp [b2i]; done) | (rw [b2i_t]; simp only [vp_in_iff, i3_lt, i3_le, i3_eq, Int32.reduceToInt, i3_m1] <;> omega) | (rw [b2i_f]; simp only [vp_in_iff, i3_lt, i3_le, i3_eq, Int32.reduceToInt, i3_m1] <;> omega))))   -- leaf2
theorem c_Ref_drop_null (r : Nat) (M : am_M) (hr : r < 8) (h : M 11 0 1 r = -1) : Con 6 mRef_drop [aR 11 0 0, aI (nI r)] M (some (aI (-1000011))) (rS (rS (rT M) 0) 1) := by
  refine con_of okRef_drop [some (aR 11 0 0), some (aI (nI r))] (some .int) ?_
  intro J hgo
  refine hgo [] _ _ _ _ ?_
  refine cl_ (c_Ref_isRow _ _) ?_   -- call1
  refine brbt (nin (n := 8) hr (by omega)) ?_
  refine hgo [] _ _ _ _ ?_
  refine ob_ (by exact vp_in_nI hr (by omega)) ?_   -- ob2
  refine brf (by show ¬ 0 ≤ M 11 0 1 (nI r).toNatClampNeg; rw [cl_nI (by omega), h]; decide) ?_
  refine cl_ (c_Ref_finding _ _) ?_   -- call3
  (first | exact ⟨rfl, rfl⟩ | (refine ⟨?_, rfl⟩; (first | rfl | (simp [b2i]; done) | (rw [b2i_t]; simp only [vp_in_iff, i3_lt, i3_le, i3_eq, Int32.reduceToInt, i3_m1] <;> omega) | (rw [b2i_f]; simp only [vp_in_iff, i3_lt, i3_le, i3_eq, Int32.reduceToInt, i3_m1] <;> omega))))   -- leaf4
theorem c_Ref_drop_ok (r : Nat) (M : am_M) (hr : r < 8) (h : 0 ≤ M 11 0 1 r) : Con 6 mRef_drop [aR 11 0 0, aI (nI r)] M (some (aI (M 11 0 2 r))) (sA (rS (rT M) 0) 11 0 1 (upd (M 11 0 1) r (-1))) := by
  refine con_of okRef_drop [some (aR 11 0 0), some (aI (nI r))] (some .int) ?_
  intro J hgo
  refine hgo [] _ _ _ _ ?_
  refine cl_ (c_Ref_isRow _ _) ?_   -- call1
  refine brbt (nin (n := 8) hr (by omega)) ?_
  refine hgo [] _ _ _ _ ?_
  refine ob_ (by exact vp_in_nI hr (by omega)) ?_   -- ob2
  refine brt (by show 0 ≤ M 11 0 1 (nI r).toNatClampNeg; rw [cl_nI (by omega)]; exact h) ?_
  refine hgo [] _ _ _ _ ?_
  refine ob_ (by exact vp_in_nI hr (by omega)) ?_   -- ob3
  refine ob_ (by exact vp_in_nI hr (by omega)) ?_   -- ob4
  refine ⟨?_, ?_⟩ <;> rw [cl_nI (by omega)] <;> rfl   -- leaf5
theorem op_drop (a : Int32) (M : am_M) (hR : Rel M) : OpAt mMain_drop mRef_drop [aI a] M := by
  by_cases ha : 0 ≤ a ∧ a < 8
  · obtain ⟨r, hr, rfl⟩ := rowN ha
    rcases hR.1 r hr with ⟨h1, h2, h3⟩ | ⟨h1, h2, h3, n, h4, h5, h6, h7⟩
    · exact op_mk (c_Main_drop_null r M hr h1) (c_Ref_drop_null r _ hr h2) (Rel_find hR 1)
    · have ht : ¬ M 1 0 1 r = 0 := by rw [h1]; decide
      have hl : 0 ≤ M 11 0 1 r := by rw [h3]; exact h2.1
      have hC := c_Main_drop_ok r M hr ht
      rw [show M 1 0 3 r = M 11 0 2 r from h5.trans h6.symm] at hC
      refine op_mk hC (c_Ref_drop_ok r _ hr hl) (Rel_rows hR ?_ rfl rfl rfl rfl rfl rfl ?_ ?_ rfl rfl)
      · refine Rrow_set hR.1 r hr (fun p hp hpr => ?_) (Or.inl ⟨?_, ?_, ?_⟩)
        · exact ⟨upd_n hpr, rfl, upd_n hpr, upd_n hpr, rfl, fun k hk => ⟨rfl, rfl⟩⟩
        · exact upd_s
        · exact upd_s
        · exact upd_s
      · intro o ho
        have h1 : o ≠ 1 := by omega
        have h0 : o ≠ 0 := by omega
        simp only [rS, rT, mS, sA_o h0, sA_o h1, sA_k (show (11 : Nat) ≠ 0 by decide), sA_k (show (11 : Nat) ≠ 1 by decide)]
      · intro i hi; rcases hi with rfl | rfl | rfl | rfl | rfl <;> rfl
  · exact op_mk (c_Main_drop_bad a M ha) (c_Ref_drop_bad a M ha) (Rel_bad hR)
end
section
/-! copy -/
theorem c_Main_copy_bad (a i b j n : Int32) (M : am_M) (h : ¬ ((0 ≤ a ∧ a < 8) ∧ (0 ≤ b ∧ b < 8))) : Con 6 mMain_copy [aR 0 0 0, aI a, aI i, aI b, aI j, aI n] M (some (aI (-1000001))) M := by
  refine con_of okMain_copy [some (aR 0 0 0), some (aI a), some (aI i), some (aI b), some (aI j), some (aI n)] (some .int) ?_
  intro J hgo
  refine hgo [] _ _ _ _ ?_
  refine cl_ (c_Rows_isRow _ _) ?_   -- call1
  refine brb (fun h1 => ?_) (fun h1 => ?_)
  · skip
    refine hgo [] _ _ _ _ ?_
    (first | exact ⟨rfl, rfl⟩ | (refine ⟨?_, rfl⟩; (first | rfl | (simp [b2i, h1]; done) | (rw [b2i_t]; simp only [vp_in_iff, i3_lt, i3_le, i3_eq, Int32.reduceToInt, i3_m1] at h1 ⊢ <;> omega) | (rw [b2i_f]; simp only [vp_in_iff, i3_lt, i3_le, i3_eq, Int32.reduceToInt, i3_m1] at h1 ⊢ <;> omega) | (exfalso; simp only [vp_in_iff, i3_lt, i3_le, i3_eq, Int32.reduceToInt, i3_m1] at h1; omega))))   -- leaf2
  · skip
    refine cl_ (c_Rows_isRow _ _) ?_   -- call3
    refine brbf (fun q => h ⟨h1, q⟩) ?_
    (first | exact ⟨rfl, rfl⟩ | (refine ⟨?_, rfl⟩; (first | rfl | (simp [b2i, h1]; done) | (rw [b2i_t]; simp only [vp_in_iff, i3_lt, i3_le, i3_eq, Int32.reduceToInt, i3_m1] at h1 ⊢ <;> omega) | (rw [b2i_f]; simp only [vp_in_iff, i3_lt, i3_le, i3_eq, Int32.reduceToInt, i3_m1] at h1 ⊢ <;> omega) | (exfalso; simp only [vp_in_iff, i3_lt, i3_le, i3_eq, Int32.reduceToInt, i3_m1] at h1; omega))))   -- leaf4
theorem c_Main_copy_null (a b : Nat) (i j n : Int32) (M : am_M) (ha : a < 8) (hb : b < 8) (h : ¬ (¬ M 1 0 1 a = 0 ∧ ¬ M 1 0 1 b = 0)) : Con 6 mMain_copy [aR 0 0 0, aI (nI a), aI i, aI (nI b), aI j, aI n] M (some (aI (-1000011))) (mS M 1) := by
  refine con_of okMain_copy [some (aR 0 0 0), some (aI (nI a)), some (aI i), some (aI (nI b)), some (aI j), some (aI n)] (some .int) ?_
  intro J hgo
  refine hgo [] _ _ _ _ ?_
  refine cl_ (c_Rows_isRow _ _) ?_   -- call1
  refine brbt (nin (n := 8) ha (by omega)) ?_
  refine cl_ (c_Rows_isRow _ _) ?_   -- call2
  refine brbt (nin (n := 8) hb (by omega)) ?_
  refine hgo [] _ _ _ _ ?_
  refine cl_ (c_Rows_isThereN _ _ (by assumption)) ?_   -- call3
  refine brb (fun h3 => ?_) (fun h3 => ?_)
  · skip
    refine hgo [] _ _ _ _ ?_
    refine cl_ (c_Main_found _ _) ?_   -- call4
    (first | exact ⟨rfl, rfl⟩ | (refine ⟨?_, rfl⟩; (first | rfl | (simp [b2i, h3]; done) | (rw [b2i_t]; simp only [vp_in_iff, i3_lt, i3_le, i3_eq, Int32.reduceToInt, i3_m1] at h3 ⊢ <;> omega) | (rw [b2i_f]; simp only [vp_in_iff, i3_lt, i3_le, i3_eq, Int32.reduceToInt, i3_m1] at h3 ⊢ <;> omega) | (exfalso; simp only [vp_in_iff, i3_lt, i3_le, i3_eq, Int32.reduceToInt, i3_m1] at h3; omega))))   -- leaf5
  · skip
    refine cl_ (c_Rows_isThereN _ _ (by assumption)) ?_   -- call6
    refine brbf (fun q => h ⟨h3, q⟩) ?_
    refine cl_ (c_Main_found _ _) ?_   -- call7
    (first | exact ⟨rfl, rfl⟩ | (refine ⟨?_, rfl⟩; (first | rfl | (simp [b2i, h3]; done) | (rw [b2i_t]; simp only [vp_in_iff, i3_lt, i3_le, i3_eq, Int32.reduceToInt, i3_m1] at h3 ⊢ <;> omega) | (rw [b2i_f]; simp only [vp_in_iff, i3_lt, i3_le, i3_eq, Int32.reduceToInt, i3_m1] at h3 ⊢ <;> omega) | (exfalso; simp only [vp_in_iff, i3_lt, i3_le, i3_eq, Int32.reduceToInt, i3_m1] at h3; omega))))   -- leaf8
theorem c_Rows_alikeN (a b : Nat) (M : am_M) (ha : a < 8) (hb : b < 8) : Con 2 mRows_alike [aR 1 0 0, aI (nI a), aI (nI b)] M (some (aI (b2i (M 1 0 2 a = M 1 0 2 b)))) M := by
  have h := c_Rows_alike (nI a) (nI b) M
  rw [cl_nI (by omega), cl_nI (by omega), b2i_iff (q := M 1 0 2 a = M 1 0 2 b) ⟨fun q => q.2.2, fun q => ⟨nin (n := 8) ha (by omega), nin (n := 8) hb (by omega), q⟩⟩] at h
  exact h
theorem c_Main_copy_store (a b : Nat) (i j n : Int32) (M : am_M) (ha : a < 8) (hb : b < 8) (g1 : ¬ M 1 0 1 a = 0) (g2 : ¬ M 1 0 1 b = 0) (h : ¬ M 1 0 2 a = M 1 0 2 b) : Con 6 mMain_copy [aR 0 0 0, aI (nI a), aI i, aI (nI b), aI j, aI n] M (some (aI (-1000015))) (mS M 5) := by
  refine con_of okMain_copy [some (aR 0 0 0), some (aI (nI a)), some (aI i), some (aI (nI b)), some (aI j), some (aI n)] (some .int) ?_
  intro J hgo
  refine hgo [] _ _ _ _ ?_
  refine cl_ (c_Rows_isRow _ _) ?_   -- call1
  refine brbt (nin (n := 8) ha (by omega)) ?_
  refine cl_ (c_Rows_isRow _ _) ?_   -- call2
  refine brbt (nin (n := 8) hb (by omega)) ?_
  refine hgo [] _ _ _ _ ?_
  refine cl_ (c_Rows_isThereN _ _ (by assumption)) ?_   -- call3
  refine brbt (g1) ?_
  refine cl_ (c_Rows_isThereN _ _ (by assumption)) ?_   -- call4
  refine brbt (g2) ?_
  refine hgo [] _ _ _ _ ?_
  refine cl_ (c_Rows_alikeN _ _ _ ha hb) ?_   -- call5
  refine brbf (h) ?_
  refine cl_ (c_Main_found _ _) ?_   -- call6
  (first | exact ⟨rfl, rfl⟩ | (refine ⟨?_, rfl⟩; (first | rfl | (simp [b2i]; done) | (rw [b2i_t]; simp only [vp_in_iff, i3_lt, i3_le, i3_eq, Int32.reduceToInt, i3_m1] <;> omega) | (rw [b2i_f]; simp only [vp_in_iff, i3_lt, i3_le, i3_eq, Int32.reduceToInt, i3_m1] <;> omega))))   -- leaf7
theorem c_Main_copy_place (a b na nb : Nat) (i j n : Int32) (M : am_M) (ha : a < 8) (hb : b < 8) (g1 : ¬ M 1 0 1 a = 0) (g2 : ¬ M 1 0 1 b = 0) (g3 : M 1 0 2 a = M 1 0 2 b) (hna : M 1 0 3 a = nI na) (hnb : M 1 0 3 b = nI nb) (h40a : na ≤ 40) (h40b : nb ≤ 40) (hp : ¬ ((0 ≤ i.toInt ∧ 0 ≤ n.toInt ∧ i.toInt + n.toInt ≤ na) ∧ (0 ≤ j.toInt ∧ 0 ≤ n.toInt ∧ j.toInt + n.toInt ≤ nb))) : Con 6 mMain_copy [aR 0 0 0, aI (nI a), aI i, aI (nI b), aI j, aI n] M (some (aI (-1000012))) (mS M 2) := by
  refine con_of okMain_copy [some (aR 0 0 0), some (aI (nI a)), some (aI i), some (aI (nI b)), some (aI j), some (aI n)] (some .int) ?_
  intro J hgo
  refine hgo [] _ _ _ _ ?_
  refine cl_ (c_Rows_isRow _ _) ?_   -- call1
  refine brbt (nin (n := 8) ha (by omega)) ?_
  refine cl_ (c_Rows_isRow _ _) ?_   -- call2
  refine brbt (nin (n := 8) hb (by omega)) ?_
  refine hgo [] _ _ _ _ ?_
  refine cl_ (c_Rows_isThereN _ _ (by assumption)) ?_   -- call3
  refine brbt (g1) ?_
  refine cl_ (c_Rows_isThereN _ _ (by assumption)) ?_   -- call4
  refine brbt (g2) ?_
  refine hgo [] _ _ _ _ ?_
  refine cl_ (c_Rows_alikeN _ _ _ ha hb) ?_   -- call5
  refine brbt (g3) ?_
  refine hgo [] _ _ _ _ ?_
  refine cl_ (c_Rows_holdsN _ _ _ _ _ (by assumption) (by assumption) (by assumption)) ?_   -- call6
  refine brb (fun h6 => ?_) (fun h6 => ?_)
  · skip
    refine hgo [] _ _ _ _ ?_
    refine cl_ (c_Main_found _ _) ?_   -- call7
    (first | exact ⟨rfl, rfl⟩ | (refine ⟨?_, rfl⟩; (first | rfl | (simp [b2i, h6]; done) | (rw [b2i_t]; simp only [vp_in_iff, i3_lt, i3_le, i3_eq, Int32.reduceToInt, i3_m1] at h6 ⊢ <;> omega) | (rw [b2i_f]; simp only [vp_in_iff, i3_lt, i3_le, i3_eq, Int32.reduceToInt, i3_m1] at h6 ⊢ <;> omega) | (exfalso; simp only [vp_in_iff, i3_lt, i3_le, i3_eq, Int32.reduceToInt, i3_m1] at h6; omega))))   -- leaf8
  · skip
    refine cl_ (c_Rows_holdsN _ _ _ _ _ (by assumption) (by assumption) (by assumption)) ?_   -- call9
    refine brbf (fun q => hp ⟨h6, q⟩) ?_
    refine cl_ (c_Main_found _ _) ?_   -- call10
    (first | exact ⟨rfl, rfl⟩ | (refine ⟨?_, rfl⟩; (first | rfl | (simp [b2i, h6]; done) | (rw [b2i_t]; simp only [vp_in_iff, i3_lt, i3_le, i3_eq, Int32.reduceToInt, i3_m1] at h6 ⊢ <;> omega) | (rw [b2i_f]; simp only [vp_in_iff, i3_lt, i3_le, i3_eq, Int32.reduceToInt, i3_m1] at h6 ⊢ <;> omega) | (exfalso; simp only [vp_in_iff, i3_lt, i3_le, i3_eq, Int32.reduceToInt, i3_m1] at h6; omega))))   -- leaf11
theorem c_Main_copy_ok (a b na nb i j n : Nat) (M : am_M) (ha : a < 8) (hb : b < 8) (g1 : ¬ M 1 0 1 a = 0) (g2 : ¬ M 1 0 1 b = 0) (g3 : M 1 0 2 a = M 1 0 2 b) (hna : M 1 0 3 a = nI na) (hnb : M 1 0 3 b = nI nb) (h40a : na ≤ 40) (h40b : nb ≤ 40) (hi : i + n ≤ na) (hj : j + n ≤ nb) : Con 6 mMain_copy [aR 0 0 0, aI (nI a), aI (nI i), aI (nI b), aI (nI j), aI (nI n)] M (some (aI (nI n))) (mS (sA M 1 0 4 (va_cpy (M 1 0 4) (M 1 0 4) (40 * a + i) (40 * b + j) n)) 0) := by
  refine con_of okMain_copy [some (aR 0 0 0), some (aI (nI a)), some (aI (nI i)), some (aI (nI b)), some (aI (nI j)), some (aI (nI n))] (some .int) ?_
  intro J hgo
  refine hgo [] _ _ _ _ ?_
  refine cl_ (c_Rows_isRow _ _) ?_   -- call1
  refine brbt (nin (n := 8) ha (by omega)) ?_
  refine cl_ (c_Rows_isRow _ _) ?_   -- call2
  refine brbt (nin (n := 8) hb (by omega)) ?_
  refine hgo [] _ _ _ _ ?_
  refine cl_ (c_Rows_isThereN _ _ (by assumption)) ?_   -- call3
  refine brbt (g1) ?_
  refine cl_ (c_Rows_isThereN _ _ (by assumption)) ?_   -- call4
  refine brbt (g2) ?_
  refine hgo [] _ _ _ _ ?_
  refine cl_ (c_Rows_alikeN _ _ _ ha hb) ?_   -- call5
  refine brbt (g3) ?_
  refine hgo [] _ _ _ _ ?_
  refine cl_ (c_Rows_holdsN _ _ _ _ _ (by assumption) (by assumption) (by assumption)) ?_   -- call6
  refine brbt (by rw [i3_n (by omega), i3_n (by omega)]; omega) ?_
  refine cl_ (c_Rows_holdsN _ _ _ _ _ (by assumption) (by assumption) (by assumption)) ?_   -- call7
  refine brbt (by rw [i3_n (by omega), i3_n (by omega)]; omega) ?_
  refine hgo [] _ _ _ _ ?_
  refine cl_ (c_Rows_move a i b j n na nb _ ha hb hna hnb h40a h40b hi hj) ?_   -- call8
  refine cl_ (c_Main_clean _ _) ?_   -- call9
  (first | exact ⟨rfl, rfl⟩ | (refine ⟨?_, rfl⟩; (first | rfl | (simp [b2i]; done) | (rw [b2i_t]; simp only [vp_in_iff, i3_lt, i3_le, i3_eq, Int32.reduceToInt, i3_m1] <;> omega) | (rw [b2i_f]; simp only [vp_in_iff, i3_lt, i3_le, i3_eq, Int32.reduceToInt, i3_m1] <;> omega))))   -- leaf10
/-! the reference's copy -/
theorem c_Ref_copy_bad (a i b j n : Int32) (M : am_M) (h : ¬ ((0 ≤ a ∧ a < 8) ∧ (0 ≤ b ∧ b < 8))) : Con 6 mRef_copy [aR 11 0 0, aI a, aI i, aI b, aI j, aI n] M (some (aI (-1000001))) (rT M) := by
  refine con_of okRef_copy [some (aR 11 0 0), some (aI a), some (aI i), some (aI b), some (aI j), some (aI n), none, none, none] (some .int) ?_
  intro J hgo
  refine hgo [143] _ _ _ _ ?_
  refine cl_ (c_Ref_isRow _ _) ?_   -- call1
  refine brb (fun h1 => ?_) (fun h1 => ?_)
  · skip
    refine hgo [143] _ _ _ _ ?_
    (first | exact ⟨rfl, rfl⟩ | (refine ⟨?_, rfl⟩; (first | rfl | (simp [b2i, h1]; done) | (rw [b2i_t]; simp only [vp_in_iff, i3_lt, i3_le, i3_eq, Int32.reduceToInt, i3_m1] at h1 ⊢ <;> omega) | (rw [b2i_f]; simp only [vp_in_iff, i3_lt, i3_le, i3_eq, Int32.reduceToInt, i3_m1] at h1 ⊢ <;> omega) | (exfalso; simp only [vp_in_iff, i3_lt, i3_le, i3_eq, Int32.reduceToInt, i3_m1] at h1; omega))))   -- leaf2
  · skip
    refine cl_ (c_Ref_isRow _ _) ?_   -- call3
    refine brbf (fun q => h ⟨h1, q⟩) ?_
    (first | exact ⟨rfl, rfl⟩ | (refine ⟨?_, rfl⟩; (first | rfl | (simp [b2i, h1]; done) | (rw [b2i_t]; simp only [vp_in_iff, i3_lt, i3_le, i3_eq, Int32.reduceToInt, i3_m1] at h1 ⊢ <;> omega) | (rw [b2i_f]; simp only [vp_in_iff, i3_lt, i3_le, i3_eq, Int32.reduceToInt, i3_m1] at h1 ⊢ <;> omega) | (exfalso; simp only [vp_in_iff, i3_lt, i3_le, i3_eq, Int32.reduceToInt, i3_m1] at h1; omega))))   -- leaf4
theorem c_Ref_copy_null (a b : Nat) (i j n : Int32) (M : am_M) (ha : a < 8) (hb : b < 8) (h : M 11 0 1 a < 0 ∨ M 11 0 1 b < 0) : Con 6 mRef_copy [aR 11 0 0, aI (nI a), aI i, aI (nI b), aI j, aI n] M (some (aI (-1000011))) (rS (rS (rT M) 0) 1) := by
  have ea : (nI a).toNatClampNeg = a := cl_nI (by omega)
  have eb : (nI b).toNatClampNeg = b := cl_nI (by omega)
  refine con_of okRef_copy [some (aR 11 0 0), some (aI (nI a)), some (aI i), some (aI (nI b)), some (aI j), some (aI n), none, none, none] (some .int) ?_
  intro J hgo
  refine hgo [] _ _ _ _ ?_
  refine cl_ (c_Ref_isRow _ _) ?_
  refine brbt (nin (n := 8) ha (by omega)) ?_
  refine cl_ (c_Ref_isRow _ _) ?_
  refine brbt (nin (n := 8) hb (by omega)) ?_
  refine hgo [] _ _ _ _ ?_
  refine ob_ (vp_in_nI ha (by omega)) ?_
  refine br_ (fun h1 => ?_) (fun h1 => ?_)
  · refine hgo [] _ _ _ _ ?_
    refine cl_ (c_Ref_finding _ _) ?_
    exact ⟨rfl, rfl⟩
  · refine ob_ (vp_in_nI hb (by omega)) ?_
    have h1 : ¬ M 11 0 1 (nI a).toNatClampNeg < 0 := h1
    rw [ea] at h1
    have h2 : M 11 0 1 b < 0 := h.resolve_left h1
    refine brf ?_ ?_
    · show ¬ 0 ≤ M 11 0 1 (nI b).toNatClampNeg
      rw [eb]
      (simp only [vp_in_iff, i3_lt, i3_le, i3_eq, Int32.reduceToInt, i3_m1] at h2 ⊢ <;> omega)
    refine cl_ (c_Ref_finding _ _) ?_
    exact ⟨rfl, rfl⟩
theorem ge_nlt {x : Int32} (h : 0 ≤ x) : ¬ x < 0 := by (simp only [vp_in_iff, i3_lt, i3_le, i3_eq, Int32.reduceToInt, i3_m1] at h ⊢ <;> omega)
theorem c_Ref_copy_store (a b : Nat) (i j n : Int32) (M : am_M) (ha : a < 8) (hb : b < 8) (g1 : 0 ≤ M 11 0 1 a) (g2 : 0 ≤ M 11 0 1 b) (h : ¬ M 11 0 1 a = M 11 0 1 b) : Con 6 mRef_copy [aR 11 0 0, aI (nI a), aI i, aI (nI b), aI j, aI n] M (some (aI (-1000015))) (rS (rS (rT M) 0) 5) := by
  have ea : (nI a).toNatClampNeg = a := cl_nI (by omega)
  have eb : (nI b).toNatClampNeg = b := cl_nI (by omega)
  refine con_of okRef_copy [some (aR 11 0 0), some (aI (nI a)), some (aI i), some (aI (nI b)), some (aI j), some (aI n), none, none, none] (some .int) ?_
  intro J hgo
  refine hgo [] _ _ _ _ ?_
  refine cl_ (c_Ref_isRow _ _) ?_
  refine brbt (nin (n := 8) ha (by omega)) ?_
  refine cl_ (c_Ref_isRow _ _) ?_
  refine brbt (nin (n := 8) hb (by omega)) ?_
  refine hgo [] _ _ _ _ ?_
  refine ob_ (vp_in_nI ha (by omega)) ?_
  refine brf (show ¬ M 11 0 1 (nI a).toNatClampNeg < 0 by rw [ea]; exact ge_nlt g1) ?_
  refine ob_ (vp_in_nI hb (by omega)) ?_
  refine brt (show 0 ≤ M 11 0 1 (nI b).toNatClampNeg by rw [eb]; exact g2) ?_
  refine hgo [] _ _ _ _ ?_
  refine ob_ (vp_in_nI ha (by omega)) ?_
  refine ob_ (vp_in_nI hb (by omega)) ?_
  refine brf (show ¬ M 11 0 1 (nI a).toNatClampNeg = M 11 0 1 (nI b).toNatClampNeg by rw [ea, eb]; exact h) ?_
  refine cl_ (c_Ref_finding _ _) ?_
  exact ⟨rfl, rfl⟩
theorem l64sum {i n : Int32} {m : Nat} (hm : m ≤ 500) : (0 < lg_cmp (i.toInt64 + n.toInt64) (nI m).toInt64) ↔ (m : Int) < i.toInt + n.toInt := by
  have r1 := i3_rng i
  have r2 := i3_rng n
  rw [lg_cmp_gt, Int64.lt_iff_toInt_lt, Int32.toInt_toInt64, i3_n (by omega), Int64.toInt_add, Int32.toInt_toInt64, Int32.toInt_toInt64]
  rw [Int.bmod_eq_of_le (by omega) (by omega)]
theorem l64sumle {i n : Int32} {m : Nat} (hm : m ≤ 500) : (lg_cmp (i.toInt64 + n.toInt64) (nI m).toInt64 ≤ 0) ↔ i.toInt + n.toInt ≤ (m : Int) := by
  have r1 := i3_rng i
  have r2 := i3_rng n
  rw [lg_cmp_le, Int64.le_iff_toInt_le, Int32.toInt_toInt64, i3_n (by omega), Int64.toInt_add, Int32.toInt_toInt64, Int32.toInt_toInt64]
  rw [Int.bmod_eq_of_le (by omega) (by omega)]
theorem c_Ref_copy_place (a b na nb : Nat) (i j n : Int32) (M : am_M) (ha : a < 8) (hb : b < 8) (g1 : 0 ≤ M 11 0 1 a) (g2 : 0 ≤ M 11 0 1 b) (g3 : M 11 0 1 a = M 11 0 1 b) (hna : M 11 0 2 a = nI na) (hnb : M 11 0 2 b = nI nb) (h40a : na ≤ 40) (h40b : nb ≤ 40) (hp : ¬ ((0 ≤ i.toInt ∧ 0 ≤ n.toInt ∧ i.toInt + n.toInt ≤ na) ∧ (0 ≤ j.toInt ∧ 0 ≤ n.toInt ∧ j.toInt + n.toInt ≤ nb))) : Con 6 mRef_copy [aR 11 0 0, aI (nI a), aI i, aI (nI b), aI j, aI n] M (some (aI (-1000012))) (rS (rS (rT M) 0) 2) := by
  have ea : (nI a).toNatClampNeg = a := cl_nI (by omega)
  have eb : (nI b).toNatClampNeg = b := cl_nI (by omega)
  refine con_of okRef_copy [some (aR 11 0 0), some (aI (nI a)), some (aI i), some (aI (nI b)), some (aI j), some (aI n), none, none, none] (some .int) ?_
  intro J hgo
  have fin : J 121 [some (aR 11 0 0), some (aI (nI a)), some (aI i), some (aI (nI b)), some (aI j), some (aI n), none, none, none] [] (rS (rT M) 0) := by
    refine hgo [] _ _ _ _ ?_
    refine cl_ (c_Ref_finding _ _) ?_
    exact ⟨rfl, rfl⟩
  refine hgo [] _ _ _ _ ?_
  refine cl_ (c_Ref_isRow _ _) ?_
  refine brbt (nin (n := 8) ha (by omega)) ?_
  refine cl_ (c_Ref_isRow _ _) ?_
  refine brbt (nin (n := 8) hb (by omega)) ?_
  refine hgo [] _ _ _ _ ?_
  refine ob_ (vp_in_nI ha (by omega)) ?_
  refine brf (show ¬ M 11 0 1 (nI a).toNatClampNeg < 0 by rw [ea]; exact ge_nlt g1) ?_
  refine ob_ (vp_in_nI hb (by omega)) ?_
  refine brt (show 0 ≤ M 11 0 1 (nI b).toNatClampNeg by rw [eb]; exact g2) ?_
  refine hgo [] _ _ _ _ ?_
  refine ob_ (vp_in_nI ha (by omega)) ?_
  refine ob_ (vp_in_nI hb (by omega)) ?_
  refine brt (show M 11 0 1 (nI a).toNatClampNeg = M 11 0 1 (nI b).toNatClampNeg by rw [ea, eb]; exact g3) ?_
  refine hgo [121] _ _ _ _ ?_
  refine br_ (fun _ => fin) (fun h1 => ?_)
  refine br_ (fun _ => fin) (fun h2 => ?_)
  refine br_ (fun _ => fin) (fun h3 => ?_)
  refine ob_ (vp_in_nI ha (by omega)) ?_
  refine br_ (fun _ => fin) (fun h4 => ?_)
  refine ob_ (vp_in_nI hb (by omega)) ?_
  refine brf (fun h5 => hp ?_) fin
  have h4 : ¬ 0 < lg_cmp (i.toInt64 + n.toInt64) (M 11 0 2 (nI a).toNatClampNeg).toInt64 := h4
  have h5 : lg_cmp (j.toInt64 + n.toInt64) (M 11 0 2 (nI b).toNatClampNeg).toInt64 ≤ 0 := h5
  rw [ea, hna, l64sum (by omega)] at h4
  rw [eb, hnb, l64sumle (by omega)] at h5
  simp only [i3_lt, Int32.reduceToInt] at h1 h2 h3
  omega
/-- what a copy from above leaves -/
def cdn (f : Nat → Int32) (sp dp n k : Nat) : Nat → Int32 := fun x => if dp + n - k ≤ x ∧ x < dp + n then f (sp + (x - dp)) else f x
theorem cpy_up {f : Nat → Int32} {sp dp k : Nat} (h : sp + k < dp ∨ dp + k ≤ sp + k) : upd (va_cpy f f sp dp k) (dp + k) (va_cpy f f sp dp k (sp + k)) = va_cpy f f sp dp (k + 1) := by
  funext x
  simp only [upd, va_cpy]
  rw [if_neg (show ¬ (dp ≤ sp + k ∧ sp + k < dp + k) by omega)]
  by_cases hx : x = dp + k
  · subst hx
    rw [if_pos rfl, if_pos (by omega)]
    congr 1
    omega
  · rw [if_neg hx]
    by_cases h2 : dp ≤ x ∧ x < dp + k
    · rw [if_pos h2, if_pos (by omega)]
    · rw [if_neg h2, if_neg (by omega)]
theorem cpy_dn {f : Nat → Int32} {sp dp n k : Nat} (hk : k < n) (h : sp + n ≤ dp ∨ dp + n ≤ sp ∨ sp < dp) : upd (cdn f sp dp n k) (dp + (n - 1 - k)) (cdn f sp dp n k (sp + (n - 1 - k))) = cdn f sp dp n (k + 1) := by
  funext x
  simp only [upd, cdn]
  rw [if_neg (show ¬ (dp + n - k ≤ sp + (n - 1 - k) ∧ sp + (n - 1 - k) < dp + n) by omega)]
  by_cases hx : x = dp + (n - 1 - k)
  · subst hx
    rw [if_pos rfl, if_pos (by omega)]
    congr 1
    omega
  · rw [if_neg hx]
    by_cases h2 : dp + n - k ≤ x ∧ x < dp + n
    · rw [if_pos h2, if_pos (by omega)]
    · rw [if_neg h2, if_neg (by omega)]
theorem cdn_0 {f : Nat → Int32} {sp dp n : Nat} : cdn f sp dp n 0 = f := by
  funext x
  simp only [cdn]
  rw [if_neg (by omega)]
theorem cdn_n {f : Nat → Int32} {sp dp n : Nat} : cdn f sp dp n n = va_cpy f f sp dp n := by
  funext x
  simp only [cdn, va_cpy]
  by_cases h : dp ≤ x ∧ x < dp + n
  · rw [if_pos h, if_pos (by omega)]
  · rw [if_neg h, if_neg (by omega)]
theorem cpy_0 {f : Nat → Int32} {sp dp : Nat} : va_cpy f f sp dp 0 = f := by
  funext x
  simp only [va_cpy]
  rw [if_neg (by omega)]
theorem c_Ref_copy_ok (a b na nb i j n : Nat) (M : am_M) (ha : a < 8) (hb : b < 8) (g1 : 0 ≤ M 11 0 1 a) (g2 : 0 ≤ M 11 0 1 b) (g3 : M 11 0 1 a = M 11 0 1 b) (hna : M 11 0 2 a = nI na) (hnb : M 11 0 2 b = nI nb) (h40a : na ≤ 40) (h40b : nb ≤ 40) (hi : i + n ≤ na) (hj : j + n ≤ nb) : Con 6 mRef_copy [aR 11 0 0, aI (nI a), aI (nI i), aI (nI b), aI (nI j), aI (nI n)] M (some (aI (nI n))) (sA (rS (rT M) 0) 11 0 3 (va_cpy (M 11 0 3) (M 11 0 3) (40 * a + i) (40 * b + j) n)) := by
  have ea : (nI a).toNatClampNeg = a := cl_nI (by omega)
  have eb : (nI b).toNatClampNeg = b := cl_nI (by omega)
  have ix : ∀ r i t : Nat, 40 * nI r + nI i + nI t = nI (40 * r + i + t) := by
    intro r i t
    rw [e40, nI_add]
  refine con_of okRef_copy [some (aR 11 0 0), some (aI (nI a)), some (aI (nI i)), some (aI (nI b)), some (aI (nI j)), some (aI (nI n)), none, none, none] (some .int) ?_
  intro J hgo
  have up : i ≥ j → ∀ m k kv M2 (z : Option am_V), m = n - k → k ≤ n → kv = nI k → M2 = sA (rS (rT M) 0) 11 0 3 (va_cpy (M 11 0 3) (M 11 0 3) (40 * a + i) (40 * b + j) k) → (∀ x, z ≠ some (aL x)) → J 143 [some (aR 11 0 0), some (aI (nI a)), some (aI (nI i)), some (aI (nI b)), some (aI (nI j)), some (aI (nI n)), some (aI 1), some (aI kv), z] [] M2 := by
    intro hij m
    induction m with
    | zero =>
      intro k kv M2 z hm hk hv hM hz
      obtain rfl : k = n := by omega
      subst hv
      refine hgo [] _ _ _ _ ?_
      refine brt (nI_le (Nat.le_refl _) (by omega)) ?_
      refine hgo [] _ _ _ _ ?_
      exact ⟨rfl, hM⟩
    | succ m ih =>
      intro k kv M2 z hm hk hv hM hz
      subst hv
      refine hgo [] _ _ _ _ ?_
      refine brf (nI_ge (by omega) (by omega)) ?_
      refine brf (by decide) ?_
      refine hgo [] _ _ _ _ ?_
      refine ob_ (by rw [ix]; exact vp_in_nI (by omega) (by omega)) ?_
      refine ob_ (by rw [ix]; exact vp_in_nI (by omega) (by omega)) ?_
      refine ih (k + 1) _ _ _ (by omega) (by omega) (nI_1 k) ?_ (fun x q => by cases q)
      rw [hM, ix, ix, cl_nI (by omega), cl_nI (by omega), sA_s, sA_sA]
      rw [cpy_up (by omega)]
  have dn : ¬ i ≥ j → ∀ m k kv M2 (z : Option am_V), m = n - k → k ≤ n → kv = nI k → M2 = sA (rS (rT M) 0) 11 0 3 (cdn (M 11 0 3) (40 * a + i) (40 * b + j) n k) → (∀ x, z ≠ some (aL x)) → J 143 [some (aR 11 0 0), some (aI (nI a)), some (aI (nI i)), some (aI (nI b)), some (aI (nI j)), some (aI (nI n)), some (aI 0), some (aI kv), z] [] M2 := by
    intro hij m
    induction m with
    | zero =>
      intro k kv M2 z hm hk hv hM hz
      obtain rfl : k = n := by omega
      subst hv
      refine hgo [] _ _ _ _ ?_
      refine brt (nI_le (Nat.le_refl _) (by omega)) ?_
      refine hgo [] _ _ _ _ ?_
      exact ⟨rfl, by rw [hM, cdn_n]⟩
    | succ m ih =>
      intro k kv M2 z hm hk hv hM hz
      subst hv
      have e9 : nI n - 1 - nI k = nI (n - 1 - k) := by
        have h1 : nI n - 1 = nI (n - 1) := pk_sub (a := n) (b := 1) (by omega)
        rw [h1, pk_sub (by omega)]
      refine hgo [] _ _ _ _ ?_
      refine brf (nI_ge (by omega) (by omega)) ?_
      refine brt (by decide) ?_
      refine hgo [] _ _ _ _ ?_
      refine ob_ (by rw [e9, ix]; exact vp_in_nI (by omega) (by omega)) ?_
      refine ob_ (by rw [e9, ix]; exact vp_in_nI (by omega) (by omega)) ?_
      refine ih (k + 1) _ _ _ (by omega) (by omega) (nI_1 k) ?_ (fun x q => by cases q)
      rw [hM, e9, ix, ix, cl_nI (by omega), cl_nI (by omega), sA_s, sA_sA]
      rw [cpy_dn (by omega) (by omega)]
  refine hgo [] _ _ _ _ ?_
  refine cl_ (c_Ref_isRow _ _) ?_
  refine brbt (nin (n := 8) ha (by omega)) ?_
  refine cl_ (c_Ref_isRow _ _) ?_
  refine brbt (nin (n := 8) hb (by omega)) ?_
  refine hgo [] _ _ _ _ ?_
  refine ob_ (vp_in_nI ha (by omega)) ?_
  refine brf (show ¬ M 11 0 1 (nI a).toNatClampNeg < 0 by rw [ea]; exact ge_nlt g1) ?_
  refine ob_ (vp_in_nI hb (by omega)) ?_
  refine brt (show 0 ≤ M 11 0 1 (nI b).toNatClampNeg by rw [eb]; exact g2) ?_
  refine hgo [] _ _ _ _ ?_
  refine ob_ (vp_in_nI ha (by omega)) ?_
  refine ob_ (vp_in_nI hb (by omega)) ?_
  refine brt (show M 11 0 1 (nI a).toNatClampNeg = M 11 0 1 (nI b).toNatClampNeg by rw [ea, eb]; exact g3) ?_
  refine hgo [] _ _ _ _ ?_
  refine brf (nI_pos (by omega)) ?_
  refine brf (nI_pos (by omega)) ?_
  refine brf (nI_pos (by omega)) ?_
  refine ob_ (vp_in_nI ha (by omega)) ?_
  refine brf (show ¬ 0 < lg_cmp ((nI i).toInt64 + (nI n).toInt64) (M 11 0 2 (nI a).toNatClampNeg).toInt64 by rw [ea, hna, l64sum (by omega), i3_n (by omega), i3_n (by omega)]; omega) ?_
  refine ob_ (vp_in_nI hb (by omega)) ?_
  refine brt (show lg_cmp ((nI j).toInt64 + (nI n).toInt64) (M 11 0 2 (nI b).toNatClampNeg).toInt64 ≤ 0 by rw [eb, hnb, l64sumle (by omega), i3_n (by omega), i3_n (by omega)]; omega) ?_
  refine hgo [143] _ _ _ _ ?_
  have hid : rS (rT M) 0 = sA (rS (rT M) 0) 11 0 3 (M 11 0 3) := (sA_id (M := rS (rT M) 0) (k := 11) (j := 0) (o := 3)).symm
  by_cases hij : i ≥ j
  · refine brf (nI_nlt hij (by omega)) ?_
    refine hgo [143] _ _ _ _ ?_
    refine up hij _ 0 _ _ _ rfl (by omega) rfl ?_ (fun x q => by cases q)
    rw [cpy_0]
    exact hid
  · refine brt (nI_lt (by omega) (by omega)) ?_
    refine hgo [143] _ _ _ _ ?_
    refine dn hij _ 0 _ _ _ rfl (by omega) rfl ?_ (fun x q => by cases q)
    rw [cdn_0]
    exact hid
theorem op_copy (a i b j n : Int32) (M : am_M) (hR : Rel M) : OpAt mMain_copy mRef_copy [aI a, aI i, aI b, aI j, aI n] M := by
  by_cases hab : (0 ≤ a ∧ a < 8) ∧ (0 ≤ b ∧ b < 8)
  · obtain ⟨p, hp, rfl⟩ := rowN hab.1
    obtain ⟨q, hq, rfl⟩ := rowN hab.2
    have nn : ∀ r, r < 8 → M 1 0 1 r = 0 → M 11 0 1 r < 0 := by
      intro r hr h
      rcases hR.1 r hr with ⟨h1, h2, h3⟩ | ⟨h1, -⟩
      · rw [h2]; decide
      · rw [h] at h1; exact absurd h1 (by decide)
    have yy : ∀ r, r < 8 → ¬ M 1 0 1 r = 0 → (0 ≤ M 1 0 2 r ∧ M 1 0 2 r ≤ 2) ∧ M 11 0 1 r = M 1 0 2 r ∧ ∃ n : Nat, n ≤ 40 ∧ M 1 0 3 r = nI n ∧ M 11 0 2 r = nI n ∧ ∀ i, i < n → M 1 0 4 (40 * r + i) = M 11 0 3 (40 * r + i) := by
      intro r hr h
      rcases hR.1 r hr with ⟨h1, h2, h3⟩ | ⟨h1, h2⟩
      · exact absurd h1 h
      · exact h2
    by_cases ht : ¬ M 1 0 1 p = 0 ∧ ¬ M 1 0 1 q = 0
    · obtain ⟨a1, a2, na, a3, a4, a5, a6⟩ := yy p hp ht.1
      obtain ⟨b1, b2, nb, b3, b4, b5, b6⟩ := yy q hq ht.2
      have l1 : 0 ≤ M 11 0 1 p := by rw [a2]; exact a1.1
      have l2 : 0 ≤ M 11 0 1 q := by rw [b2]; exact b1.1
      by_cases hl : M 1 0 2 p = M 1 0 2 q
      · have hl2 : M 11 0 1 p = M 11 0 1 q := by rw [a2, b2]; exact hl
        by_cases hpl : (0 ≤ i.toInt ∧ 0 ≤ n.toInt ∧ i.toInt + n.toInt ≤ na) ∧ (0 ≤ j.toInt ∧ 0 ≤ n.toInt ∧ j.toInt + n.toInt ≤ nb)
        · obtain ⟨i, hi, rfl⟩ := intN (a := i) (m := 41) (by omega)
          obtain ⟨j, hj, rfl⟩ := intN (a := j) (m := 41) (by omega)
          obtain ⟨n, hn, rfl⟩ := intN (a := n) (m := 41) (by omega)
          rw [i3_n (by omega), i3_n (by omega), i3_n (by omega)] at hpl
          refine op_mk (c_Main_copy_ok p q na nb i j n M hp hq ht.1 ht.2 hl a4 b4 a3 b3 (by omega) (by omega)) (c_Ref_copy_ok p q na nb i j n _ hp hq l1 l2 hl2 a5 b5 a3 b3 (by omega) (by omega)) (Rel_rows hR ?_ rfl rfl rfl rfl rfl rfl ?_ ?_ rfl rfl)
          · refine Rrow_set hR.1 q hq (fun r hr hrq => ?_) (Or.inr ⟨?_, b1, b2, nb, b3, b4, b5, fun k hk => ?_⟩)
            · refine ⟨rfl, rfl, rfl, rfl, rfl, fun k hk => ⟨?_, ?_⟩⟩
              · exact if_neg (by omega)
              · exact if_neg (by omega)
            · rcases hR.1 q hq with ⟨h1, h2, h3⟩ | ⟨h1, -⟩
              · exact absurd h1 ht.2
              · exact h1
            · show va_cpy (M 1 0 4) (M 1 0 4) (40 * p + i) (40 * q + j) n (40 * q + k) = va_cpy (M 11 0 3) (M 11 0 3) (40 * p + i) (40 * q + j) n (40 * q + k)
              simp only [va_cpy]
              by_cases h : 40 * q + j ≤ 40 * q + k ∧ 40 * q + k < 40 * q + j + n
              · rw [if_pos h, if_pos h]
                have := a6 (i + (k - j)) (by omega)
                have e0 : 40 * p + i + (40 * q + k - (40 * q + j)) = 40 * p + (i + (k - j)) := by omega
                rw [e0]
                exact this
              · rw [if_neg h, if_neg h]
                exact b6 k hk
          · intro o ho
            have h3 : o ≠ 3 := by omega
            have h0 : o ≠ 0 := by omega
            simp only [rS, rT, mS, sA_o h0, sA_o h3, sA_k (show (11 : Nat) ≠ 0 by decide), sA_k (show (11 : Nat) ≠ 1 by decide)]
          · intro i hi; rcases hi with rfl | rfl | rfl | rfl | rfl <;> rfl
        · exact op_mk (c_Main_copy_place p q na nb i j n M hp hq ht.1 ht.2 hl a4 b4 a3 b3 hpl) (c_Ref_copy_place p q na nb i j n _ hp hq l1 l2 hl2 a5 b5 a3 b3 hpl) (Rel_find hR 2)
      · exact op_mk (c_Main_copy_store p q i j n M hp hq ht.1 ht.2 hl) (c_Ref_copy_store p q i j n _ hp hq l1 l2 (by show ¬ M 11 0 1 p = M 11 0 1 q; rw [a2, b2]; exact hl)) (Rel_find hR 5)
    · refine op_mk (c_Main_copy_null p q i j n M hp hq ht) (c_Ref_copy_null p q i j n _ hp hq ?_) (Rel_find hR 1)
      by_cases h1 : M 1 0 1 p = 0
      · exact Or.inl (nn p hp h1)
      · exact Or.inr (nn q hq (Decidable.not_not.mp (fun h2 => ht ⟨h1, h2⟩)))
  · exact op_mk (c_Main_copy_bad a i b j n M hab) (c_Ref_copy_bad a i b j n M hab) (Rel_bad hR)
end
section
/-! small questions -/
theorem inM1 {n : Nat} (h : n < 1000) {w : Int32} : (0 ≤ w ∧ w ≤ nI n - 1) ↔ (0 ≤ w.toInt ∧ w.toInt < n) := by
  have e0 := i3_n (n := n) (by omega)
  have e1 : (1 : Int32).toInt = 1 := by decide
  simp only [i3_le, Int32.reduceToInt]
  rw [i3_sub (by rw [e0, e1]; omega) (by rw [e0, e1]; omega), e0, e1]
  omega
theorem inLt {n : Nat} (h : n < 1000) {w : Int32} : (0 ≤ w ∧ w < nI n) ↔ (0 ≤ w.toInt ∧ w.toInt < n) := by
  have e0 := i3_n (n := n) (by omega)
  simp only [i3_le, i3_lt, Int32.reduceToInt]
  rw [e0]
theorem c_House_isWall0 (j : Nat) (w : Int32) (M : am_M) : Con 1 mHouse_isWall [aR 4 j 0, aI w] M (some (aI (b2i (0 ≤ w ∧ w < M 4 j 0 0)))) M := by
  refine con_of okHouse_isWall [some (aR 4 j 0), some (aI w)] (some .boolean) ?_
  intro J hgo
  refine hgo [] _ _ _ _ ?_
  refine br_ (fun h1 => ?_) (fun h1 => ?_)
  · skip
    refine hgo [] _ _ _ _ ?_
    refine ob_ (by first | decide | exact nar_b) ?_
    (first | exact ⟨rfl, rfl⟩ | (refine ⟨?_, rfl⟩; (first | rfl | (simp [b2i, h1]; done) | (rw [b2i_t]; simp only [vp_in_iff, i3_lt, i3_le, i3_eq, Int32.reduceToInt, i3_m1] at h1 ⊢ <;> omega) | (rw [b2i_f]; simp only [vp_in_iff, i3_lt, i3_le, i3_eq, Int32.reduceToInt, i3_m1] at h1 ⊢ <;> omega) | (exfalso; simp only [vp_in_iff, i3_lt, i3_le, i3_eq, Int32.reduceToInt, i3_m1] at h1; omega))))   -- leaf1
  · skip
    refine br_ (fun h2 => ?_) (fun h2 => ?_)
    · skip
      refine hgo [] _ _ _ _ ?_
      refine ob_ (by first | decide | exact nar_b) ?_
      (first | exact ⟨rfl, rfl⟩ | (refine ⟨?_, rfl⟩; (first | rfl | (simp [b2i, h1, h2]; done) | (rw [b2i_t]; simp only [vp_in_iff, i3_lt, i3_le, i3_eq, Int32.reduceToInt, i3_m1] at h1 h2 ⊢ <;> omega) | (rw [b2i_f]; simp only [vp_in_iff, i3_lt, i3_le, i3_eq, Int32.reduceToInt, i3_m1] at h1 h2 ⊢ <;> omega) | (exfalso; simp only [vp_in_iff, i3_lt, i3_le, i3_eq, Int32.reduceToInt, i3_m1] at h1 h2; omega))))   -- leaf2
    · skip
      refine hgo [] _ _ _ _ ?_
      refine ob_ (by first | decide | exact nar_b) ?_
      (first | exact ⟨rfl, rfl⟩ | (refine ⟨?_, rfl⟩; (first | rfl | (simp [b2i, h1, h2]; done) | (rw [b2i_t]; simp only [vp_in_iff, i3_lt, i3_le, i3_eq, Int32.reduceToInt, i3_m1] at h1 h2 ⊢ <;> omega) | (rw [b2i_f]; simp only [vp_in_iff, i3_lt, i3_le, i3_eq, Int32.reduceToInt, i3_m1] at h1 h2 ⊢ <;> omega) | (exfalso; simp only [vp_in_iff, i3_lt, i3_le, i3_eq, Int32.reduceToInt, i3_m1] at h1 h2; omega))))   -- leaf3
theorem c_House_isPaper0 (j : Nat) (w : Int32) (M : am_M) : Con 1 mHouse_isPaper [aR 4 j 0, aI w] M (some (aI (b2i (0 ≤ w ∧ w < M 4 j 0 4)))) M := by
  refine con_of okHouse_isPaper [some (aR 4 j 0), some (aI w)] (some .boolean) ?_
  intro J hgo
  refine hgo [] _ _ _ _ ?_
  refine br_ (fun h1 => ?_) (fun h1 => ?_)
  · skip
    refine hgo [] _ _ _ _ ?_
    refine ob_ (by first | decide | exact nar_b) ?_
    (first | exact ⟨rfl, rfl⟩ | (refine ⟨?_, rfl⟩; (first | rfl | (simp [b2i, h1]; done) | (rw [b2i_t]; simp only [vp_in_iff, i3_lt, i3_le, i3_eq, Int32.reduceToInt, i3_m1] at h1 ⊢ <;> omega) | (rw [b2i_f]; simp only [vp_in_iff, i3_lt, i3_le, i3_eq, Int32.reduceToInt, i3_m1] at h1 ⊢ <;> omega) | (exfalso; simp only [vp_in_iff, i3_lt, i3_le, i3_eq, Int32.reduceToInt, i3_m1] at h1; omega))))   -- leaf1
  · skip
    refine br_ (fun h2 => ?_) (fun h2 => ?_)
    · skip
      refine hgo [] _ _ _ _ ?_
      refine ob_ (by first | decide | exact nar_b) ?_
      (first | exact ⟨rfl, rfl⟩ | (refine ⟨?_, rfl⟩; (first | rfl | (simp [b2i, h1, h2]; done) | (rw [b2i_t]; simp only [vp_in_iff, i3_lt, i3_le, i3_eq, Int32.reduceToInt, i3_m1] at h1 h2 ⊢ <;> omega) | (rw [b2i_f]; simp only [vp_in_iff, i3_lt, i3_le, i3_eq, Int32.reduceToInt, i3_m1] at h1 h2 ⊢ <;> omega) | (exfalso; simp only [vp_in_iff, i3_lt, i3_le, i3_eq, Int32.reduceToInt, i3_m1] at h1 h2; omega))))   -- leaf2
    · skip
      refine hgo [] _ _ _ _ ?_
      refine ob_ (by first | decide | exact nar_b) ?_
      (first | exact ⟨rfl, rfl⟩ | (refine ⟨?_, rfl⟩; (first | rfl | (simp [b2i, h1, h2]; done) | (rw [b2i_t]; simp only [vp_in_iff, i3_lt, i3_le, i3_eq, Int32.reduceToInt, i3_m1] at h1 h2 ⊢ <;> omega) | (rw [b2i_f]; simp only [vp_in_iff, i3_lt, i3_le, i3_eq, Int32.reduceToInt, i3_m1] at h1 h2 ⊢ <;> omega) | (exfalso; simp only [vp_in_iff, i3_lt, i3_le, i3_eq, Int32.reduceToInt, i3_m1] at h1 h2; omega))))   -- leaf3
theorem c_House_stands0 (j : Nat) (M : am_M) : Con 1 mHouse_stands [aR 4 j 0] M (some (aI (b2i (0 < M 4 j 0 0)))) M := by
  refine con_of okHouse_stands [some (aR 4 j 0)] (some .boolean) ?_
  intro J hgo
  refine hgo [] _ _ _ _ ?_
  refine br_ (fun h1 => ?_) (fun h1 => ?_)
  · skip
    refine hgo [] _ _ _ _ ?_
    refine ob_ (by first | decide | exact nar_b) ?_
    (first | exact ⟨rfl, rfl⟩ | (refine ⟨?_, rfl⟩; (first | rfl | (simp [b2i, h1]; done) | (rw [b2i_t]; simp only [vp_in_iff, i3_lt, i3_le, i3_eq, Int32.reduceToInt, i3_m1] at h1 ⊢ <;> omega) | (rw [b2i_f]; simp only [vp_in_iff, i3_lt, i3_le, i3_eq, Int32.reduceToInt, i3_m1] at h1 ⊢ <;> omega) | (exfalso; simp only [vp_in_iff, i3_lt, i3_le, i3_eq, Int32.reduceToInt, i3_m1] at h1; omega))))   -- leaf1
  · skip
    refine hgo [] _ _ _ _ ?_
    refine ob_ (by first | decide | exact nar_b) ?_
    (first | exact ⟨rfl, rfl⟩ | (refine ⟨?_, rfl⟩; (first | rfl | (simp [b2i, h1]; done) | (rw [b2i_t]; simp only [vp_in_iff, i3_lt, i3_le, i3_eq, Int32.reduceToInt, i3_m1] at h1 ⊢ <;> omega) | (rw [b2i_f]; simp only [vp_in_iff, i3_lt, i3_le, i3_eq, Int32.reduceToInt, i3_m1] at h1 ⊢ <;> omega) | (exfalso; simp only [vp_in_iff, i3_lt, i3_le, i3_eq, Int32.reduceToInt, i3_m1] at h1; omega))))   -- leaf2
theorem c_Spots_isSpot0 (j : Nat) (w : Int32) (M : am_M) : Con 1 mSpots_isSpot [aR 5 j 0, aI w] M (some (aI (b2i (0 ≤ w ∧ w < M 5 j 0 0)))) M := by
  refine con_of okSpots_isSpot [some (aR 5 j 0), some (aI w)] (some .boolean) ?_
  intro J hgo
  refine hgo [] _ _ _ _ ?_
  refine br_ (fun h1 => ?_) (fun h1 => ?_)
  · skip
    refine hgo [] _ _ _ _ ?_
    refine ob_ (by first | decide | exact nar_b) ?_
    (first | exact ⟨rfl, rfl⟩ | (refine ⟨?_, rfl⟩; (first | rfl | (simp [b2i, h1]; done) | (rw [b2i_t]; simp only [vp_in_iff, i3_lt, i3_le, i3_eq, Int32.reduceToInt, i3_m1] at h1 ⊢ <;> omega) | (rw [b2i_f]; simp only [vp_in_iff, i3_lt, i3_le, i3_eq, Int32.reduceToInt, i3_m1] at h1 ⊢ <;> omega) | (exfalso; simp only [vp_in_iff, i3_lt, i3_le, i3_eq, Int32.reduceToInt, i3_m1] at h1; omega))))   -- leaf1
  · skip
    refine br_ (fun h2 => ?_) (fun h2 => ?_)
    · skip
      refine hgo [] _ _ _ _ ?_
      refine ob_ (by first | decide | exact nar_b) ?_
      (first | exact ⟨rfl, rfl⟩ | (refine ⟨?_, rfl⟩; (first | rfl | (simp [b2i, h1, h2]; done) | (rw [b2i_t]; simp only [vp_in_iff, i3_lt, i3_le, i3_eq, Int32.reduceToInt, i3_m1] at h1 h2 ⊢ <;> omega) | (rw [b2i_f]; simp only [vp_in_iff, i3_lt, i3_le, i3_eq, Int32.reduceToInt, i3_m1] at h1 h2 ⊢ <;> omega) | (exfalso; simp only [vp_in_iff, i3_lt, i3_le, i3_eq, Int32.reduceToInt, i3_m1] at h1 h2; omega))))   -- leaf2
    · skip
      refine hgo [] _ _ _ _ ?_
      refine ob_ (by first | decide | exact nar_b) ?_
      (first | exact ⟨rfl, rfl⟩ | (refine ⟨?_, rfl⟩; (first | rfl | (simp [b2i, h1, h2]; done) | (rw [b2i_t]; simp only [vp_in_iff, i3_lt, i3_le, i3_eq, Int32.reduceToInt, i3_m1] at h1 h2 ⊢ <;> omega) | (rw [b2i_f]; simp only [vp_in_iff, i3_lt, i3_le, i3_eq, Int32.reduceToInt, i3_m1] at h1 h2 ⊢ <;> omega) | (exfalso; simp only [vp_in_iff, i3_lt, i3_le, i3_eq, Int32.reduceToInt, i3_m1] at h1 h2; omega))))   -- leaf3
theorem c_House_isWall (n j : Nat) (w : Int32) (M : am_M) (hn : M 4 j 0 0 = nI n) (h : n < 1000) : Con 1 mHouse_isWall [aR 4 j 0, aI w] M (some (aI (b2i (0 ≤ w.toInt ∧ w.toInt < n)))) M := by
  have := c_House_isWall0 j w M
  rw [hn, b2i_iff (inLt h)] at this
  exact this
theorem c_House_isPaper (n j : Nat) (w : Int32) (M : am_M) (hn : M 4 j 0 4 = nI n) (h : n < 1000) : Con 1 mHouse_isPaper [aR 4 j 0, aI w] M (some (aI (b2i (0 ≤ w.toInt ∧ w.toInt < n)))) M := by
  have := c_House_isPaper0 j w M
  rw [hn, b2i_iff (inLt h)] at this
  exact this
theorem c_House_stands (n j : Nat) (M : am_M) (hn : M 4 j 0 0 = nI n) (h : n < 1000) : Con 1 mHouse_stands [aR 4 j 0] M (some (aI (b2i (0 < n)))) M := by
  have := c_House_stands0 j M
  rw [hn, b2i_iff (q := 0 < n) (by simp only [i3_lt, Int32.reduceToInt]; rw [i3_n (by omega)]; omega)] at this
  exact this
theorem c_Spots_isSpot (n j : Nat) (w : Int32) (M : am_M) (hn : M 5 j 0 0 = nI n) (h : n < 1000) : Con 1 mSpots_isSpot [aR 5 j 0, aI w] M (some (aI (b2i (0 ≤ w.toInt ∧ w.toInt < n)))) M := by
  have := c_Spots_isSpot0 j w M
  rw [hn, b2i_iff (inLt h)] at this
  exact this
/-! of the reference -/
theorem c_Ref_isWall (n : Nat) (w : Int32) (M : am_M) (hn : M 11 0 4 0 = nI n) (h : n < 1000) : Con 2 mRef_isWall [aR 11 0 0, aI w] M (some (aI (b2i (0 ≤ w.toInt ∧ w.toInt < n)))) M := by
  refine con_of okRef_isWall [some (aR 11 0 0), some (aI w)] (some .boolean) ?_
  intro J hgo
  refine hgo [] _ _ _ _ ?_
  refine ob_ (vp_in_nI (n := 0) (N := 198) (by omega) (by omega)) ?_
  refine cl_ (c_Ref_in w 0 (M 11 0 4 0 - 1) _ _ _ rfl (by decide) rfl _) ?_
  refine ob_ nar_b ⟨?_, rfl⟩
  rw [hn, b2i_iff (inM1 h)]
theorem c_Ref_isPaper (n : Nat) (w : Int32) (M : am_M) (hn : M 11 0 4 1 = nI n) (h : n < 1000) : Con 2 mRef_isPaper [aR 11 0 0, aI w] M (some (aI (b2i (0 ≤ w.toInt ∧ w.toInt < n)))) M := by
  refine con_of okRef_isPaper [some (aR 11 0 0), some (aI w)] (some .boolean) ?_
  intro J hgo
  refine hgo [] _ _ _ _ ?_
  refine ob_ (vp_in_nI (n := 1) (N := 198) (by omega) (by omega)) ?_
  refine cl_ (c_Ref_in w 0 (M 11 0 4 1 - 1) _ _ _ rfl (by decide) rfl _) ?_
  refine ob_ nar_b ⟨?_, rfl⟩
  rw [hn, b2i_iff (inM1 h)]
theorem c_Ref_isSpot (n : Nat) (w : Int32) (M : am_M) (hn : M 11 0 4 3 = nI n) (h : n < 1000) : Con 2 mRef_isSpot [aR 11 0 0, aI w] M (some (aI (b2i (0 ≤ w.toInt ∧ w.toInt < n)))) M := by
  refine con_of okRef_isSpot [some (aR 11 0 0), some (aI w)] (some .boolean) ?_
  intro J hgo
  refine hgo [] _ _ _ _ ?_
  refine ob_ (vp_in_nI (n := 3) (N := 198) (by omega) (by omega)) ?_
  refine cl_ (c_Ref_in w 0 (M 11 0 4 3 - 1) _ _ _ rfl (by decide) rfl _) ?_
  refine ob_ nar_b ⟨?_, rfl⟩
  rw [hn, b2i_iff (inM1 h)]
theorem c_Ref_wall (w k : Nat) (M : am_M) (hw : w < 8) (hk : k < 3) : Con 1 mRef_wall [aR 11 0 0, aI (nI w), aI (nI k)] M (some (aI (M 11 0 4 (4 + 3 * w + k)))) M := by
  have e0 : 4 + 3 * nI w + nI k = nI (4 + 3 * w + k) := by
    show nI 4 + nI 3 * nI w + nI k = _
    rw [pk_mul, nI_add, nI_add]
  refine con_of okRef_wall [some (aR 11 0 0), some (aI (nI w)), some (aI (nI k))] (some .int) ?_
  intro J hgo
  refine hgo [] _ _ _ _ ?_
  refine ob_ (by rw [e0]; exact vp_in_nI (by omega) (by omega)) ⟨?_, rfl⟩
  rw [e0, cl_nI (by omega)]
theorem c_Ref_of (w k : Nat) (M : am_M) (hw : w < 10) (hk : k < 5) : Con 1 mRef_of [aR 11 0 0, aI (nI w), aI (nI k)] M (some (aI (M 11 0 4 (28 + 5 * w + k)))) M := by
  have e0 : 28 + 5 * nI w + nI k = nI (28 + 5 * w + k) := by
    show nI 28 + nI 5 * nI w + nI k = _
    rw [pk_mul, nI_add, nI_add]
  refine con_of okRef_of [some (aR 11 0 0), some (aI (nI w)), some (aI (nI k))] (some .int) ?_
  intro J hgo
  refine hgo [] _ _ _ _ ?_
  refine ob_ (by rw [e0]; exact vp_in_nI (by omega) (by omega)) ⟨?_, rfl⟩
  rw [e0, cl_nI (by omega)]
theorem c_Ref_lies (s k : Nat) (M : am_M) (hs : s < 9) (hk : k < 8) : Con 1 mRef_lies [aR 11 0 0, aI (nI s), aI (nI k)] M (some (aI (M 11 0 4 (110 + 10 * s + k)))) M := by
  have e0 : 108 + 10 * nI s + 2 + nI k = nI (110 + 10 * s + k) := by
    show nI 108 + nI 10 * nI s + nI 2 + nI k = _
    rw [pk_mul, nI_add, nI_add, nI_add]
    congr 1
    omega
  refine con_of okRef_lies [some (aR 11 0 0), some (aI (nI s)), some (aI (nI k))] (some .int) ?_
  intro J hgo
  refine hgo [] _ _ _ _ ?_
  refine ob_ (by rw [e0]; exact vp_in_nI (by omega) (by omega)) ⟨?_, rfl⟩
  rw [e0, cl_nI (by omega)]
theorem c_Ref_wallOf (s : Nat) (M : am_M) (hs : s < 9) : Con 1 mRef_wallOf [aR 11 0 0, aI (nI s)] M (some (aI (M 11 0 4 (108 + 10 * s)))) M := by
  have e0 : 108 + 10 * nI s = nI (108 + 10 * s) := by
    show nI 108 + nI 10 * nI s = _
    rw [pk_mul, nI_add]
  refine con_of okRef_wallOf [some (aR 11 0 0), some (aI (nI s))] (some .int) ?_
  intro J hgo
  refine hgo [] _ _ _ _ ?_
  refine ob_ (by rw [e0]; exact vp_in_nI (by omega) (by omega)) ⟨?_, rfl⟩
  rw [e0, cl_nI (by omega)]
theorem c_Ref_manyAt (s : Nat) (M : am_M) (hs : s < 9) : Con 1 mRef_manyAt [aR 11 0 0, aI (nI s)] M (some (aI (M 11 0 4 (109 + 10 * s)))) M := by
  have e0 : 108 + 10 * nI s + 1 = nI (109 + 10 * s) := by
    show nI 108 + nI 10 * nI s + nI 1 = _
    rw [pk_mul, nI_add, nI_add]
    congr 1
    omega
  refine con_of okRef_manyAt [some (aR 11 0 0), some (aI (nI s))] (some .int) ?_
  intro J hgo
  refine hgo [] _ _ _ _ ?_
  refine ob_ (by rw [e0]; exact vp_in_nI (by omega) (by omega)) ⟨?_, rfl⟩
  rw [e0, cl_nI (by omega)]
/-! fault, status -/
theorem c_Main_fault (M : am_M) : Con 1 mMain_fault [aR 0 0 0] M (some (aI (M 0 0 0 11))) M := by
  refine con_of okMain_fault [some (aR 0 0 0)] (some .int) ?_
  intro J hgo
  refine hgo [] _ _ _ _ ?_
  (first | exact ⟨rfl, rfl⟩ | (refine ⟨?_, rfl⟩; (first | rfl | (simp [b2i]; done) | (rw [b2i_t]; simp only [vp_in_iff, i3_lt, i3_le, i3_eq, Int32.reduceToInt, i3_m1] <;> omega) | (rw [b2i_f]; simp only [vp_in_iff, i3_lt, i3_le, i3_eq, Int32.reduceToInt, i3_m1] <;> omega))))   -- leaf1
theorem c_Ref_fault (M : am_M) : Con 1 mRef_fault [aR 11 0 0] M (some (aI (M 11 0 0 10))) (rT M) := by
  refine con_of okRef_fault [some (aR 11 0 0)] (some .int) ?_
  intro J hgo
  refine hgo [] _ _ _ _ ?_
  (first | exact ⟨rfl, rfl⟩ | (refine ⟨?_, rfl⟩; (first | rfl | (simp [b2i]; done) | (rw [b2i_t]; simp only [vp_in_iff, i3_lt, i3_le, i3_eq, Int32.reduceToInt, i3_m1] <;> omega) | (rw [b2i_f]; simp only [vp_in_iff, i3_lt, i3_le, i3_eq, Int32.reduceToInt, i3_m1] <;> omega))))   -- leaf1
theorem c_Main_status (M : am_M) : Con 1 mMain_status [aR 0 0 0] M (some (aI (M 0 0 0 12))) M := by
  refine con_of okMain_status [some (aR 0 0 0)] (some .int) ?_
  intro J hgo
  refine hgo [] _ _ _ _ ?_
  (first | exact ⟨rfl, rfl⟩ | (refine ⟨?_, rfl⟩; (first | rfl | (simp [b2i]; done) | (rw [b2i_t]; simp only [vp_in_iff, i3_lt, i3_le, i3_eq, Int32.reduceToInt, i3_m1] <;> omega) | (rw [b2i_f]; simp only [vp_in_iff, i3_lt, i3_le, i3_eq, Int32.reduceToInt, i3_m1] <;> omega))))   -- leaf1
theorem c_Ref_status (M : am_M) : Con 1 mRef_status [aR 11 0 0] M (some (aI (M 11 0 0 1))) (rT M) := by
  refine con_of okRef_status [some (aR 11 0 0)] (some .int) ?_
  intro J hgo
  refine hgo [] _ _ _ _ ?_
  (first | exact ⟨rfl, rfl⟩ | (refine ⟨?_, rfl⟩; (first | rfl | (simp [b2i]; done) | (rw [b2i_t]; simp only [vp_in_iff, i3_lt, i3_le, i3_eq, Int32.reduceToInt, i3_m1] <;> omega) | (rw [b2i_f]; simp only [vp_in_iff, i3_lt, i3_le, i3_eq, Int32.reduceToInt, i3_m1] <;> omega))))   -- leaf1
theorem op_fault (M : am_M) (hR : Rel M) : OpAt mMain_fault mRef_fault [] M := by
  have h := c_Main_fault M
  rw [hR.2.2.1.1] at h
  exact op_mk h (c_Ref_fault M) (Rel_bad hR)
theorem op_status (M : am_M) (hR : Rel M) : OpAt mMain_status mRef_status [] M := by
  have h := c_Main_status M
  rw [hR.2.2.1.2] at h
  exact op_mk h (c_Ref_status M) (Rel_bad hR)
/-! trace -/
theorem c_Main_trace_in (n : Nat) (i : Int32) (M : am_M) (hn : M 10 0 0 1 = nI n) (h16 : n ≤ 16) (h : 0 ≤ i.toInt ∧ i.toInt < n) : Con 1 mMain_trace [aR 0 0 0, aI i] M (some (aI (M 10 0 1 i.toNatClampNeg))) M := by
  refine con_of okMain_trace [some (aR 0 0 0), some (aI i)] (some .int) ?_
  intro J hgo
  refine hgo [] _ _ _ _ ?_
  refine brf (by have := h.1; (simp only [vp_in_iff, i3_lt, i3_le, i3_eq, Int32.reduceToInt, i3_m1] at this ⊢ <;> omega)) ?_
  refine brf (by show ¬ M 10 0 0 1 ≤ i; have := h.2; rw [hn]; simp only [i3_le]; rw [i3_n (by omega)]; omega) ?_
  refine ob_ (by rw [vp_in_iff]; omega) ?_   -- ob1
  refine hgo [] _ _ _ _ ?_
  (first | exact ⟨rfl, rfl⟩ | (refine ⟨?_, rfl⟩; (first | rfl | (simp [b2i]; done) | (rw [b2i_t]; simp only [vp_in_iff, i3_lt, i3_le, i3_eq, Int32.reduceToInt, i3_m1] <;> omega) | (rw [b2i_f]; simp only [vp_in_iff, i3_lt, i3_le, i3_eq, Int32.reduceToInt, i3_m1] <;> omega))))   -- leaf2
theorem c_Main_trace_out (n : Nat) (i : Int32) (M : am_M) (hn : M 10 0 0 1 = nI n) (h16 : n ≤ 16) (h : ¬ (0 ≤ i.toInt ∧ i.toInt < n)) : Con 1 mMain_trace [aR 0 0 0, aI i] M (some (aI (-1000000))) M := by
  refine con_of okMain_trace [some (aR 0 0 0), some (aI i)] (some .int) ?_
  intro J hgo
  refine hgo [] _ _ _ _ ?_
  refine br_ (fun h1 => ?_) (fun h1 => ?_)
  · refine hgo [] _ _ _ _ ?_
    exact ⟨rfl, rfl⟩
  · refine brt ?_ ?_
    · show M 10 0 0 1 ≤ i
      rw [hn]
      simp only [i3_le, i3_lt, Int32.reduceToInt] at h1 ⊢
      rw [i3_n (by omega)]
      omega
    refine hgo [] _ _ _ _ ?_
    exact ⟨rfl, rfl⟩
theorem c_Ref_trace_in (n : Nat) (i : Int32) (M : am_M) (hn : M 11 0 0 28 = nI n) (h16 : n ≤ 16) (h : 0 ≤ i.toInt ∧ i.toInt < n) : Con 2 mRef_trace [aR 11 0 0, aI i] M (some (aI (M 11 0 15 i.toNatClampNeg))) (rT M) := by
  refine con_of okRef_trace [some (aR 11 0 0), some (aI i)] (some .int) ?_
  intro J hgo
  refine hgo [] _ _ _ _ ?_
  refine cl_ (c_Ref_in i 0 (M 11 0 0 28 - 1) _ _ _ rfl (by decide) rfl _) ?_
  refine brbt (by rw [hn, inM1 (by omega)]; exact h) ?_
  refine ob_ (by rw [vp_in_iff]; omega) ?_
  refine hgo [] _ _ _ _ ?_
  exact ⟨rfl, rfl⟩
theorem c_Ref_trace_out (n : Nat) (i : Int32) (M : am_M) (hn : M 11 0 0 28 = nI n) (h16 : n ≤ 16) (h : ¬ (0 ≤ i.toInt ∧ i.toInt < n)) : Con 2 mRef_trace [aR 11 0 0, aI i] M (some (aI (-1000000))) (rT M) := by
  refine con_of okRef_trace [some (aR 11 0 0), some (aI i)] (some .int) ?_
  intro J hgo
  refine hgo [] _ _ _ _ ?_
  refine cl_ (c_Ref_in i 0 (M 11 0 0 28 - 1) _ _ _ rfl (by decide) rfl _) ?_
  refine brbf (by rw [hn, inM1 (by omega)]; exact h) ?_
  refine hgo [] _ _ _ _ ?_
  exact ⟨rfl, rfl⟩
theorem op_trace (i : Int32) (M : am_M) (hR : Rel M) : OpAt mMain_trace mRef_trace [aI i] M := by
  obtain ⟨n, h1, h2, h3, h4⟩ := hR.2.2.2.2.2.2
  by_cases h : 0 ≤ i.toInt ∧ i.toInt < n
  · have hc := c_Main_trace_in n i M h2 h1 h
    have := i3_cl h.1
    rw [h4 i.toNatClampNeg (by omega)] at hc
    exact op_mk hc (c_Ref_trace_in n i M h3 h1 h) (Rel_bad hR)
  · exact op_mk (c_Main_trace_out n i M h2 h1 h) (c_Ref_trace_out n i M h3 h1 h) (Rel_bad hR)
/-! kind -/
theorem c_Main_kind_in (n p : Nat) (M : am_M) (hn : M 4 0 0 4 = nI n) (h10 : n ≤ 10) (hp : p < n) : Con 2 mMain_kind [aR 0 0 0, aI (nI p)] M (some (aI (M 4 0 4 p))) M := by
  refine con_of okMain_kind [some (aR 0 0 0), some (aI (nI p))] (some .int) ?_
  intro J hgo
  refine hgo [] _ _ _ _ ?_
  refine cl_ (c_House_isPaper n 0 _ _ hn (by omega)) ?_
  refine brbt (by rw [i3_n (by omega)]; omega) ?_
  refine ob_ (vp_in_nI (by omega) (by omega)) ?_
  refine hgo [] _ _ _ _ ?_
  refine ⟨?_, rfl⟩
  rw [cl_nI (by omega)]
theorem c_Main_kind_out (n : Nat) (x : Int32) (M : am_M) (hn : M 4 0 0 4 = nI n) (h10 : n ≤ 10) (h : ¬ (0 ≤ x.toInt ∧ x.toInt < n)) : Con 2 mMain_kind [aR 0 0 0, aI x] M (some (aI (-1000001))) M := by
  refine con_of okMain_kind [some (aR 0 0 0), some (aI x)] (some .int) ?_
  intro J hgo
  refine hgo [] _ _ _ _ ?_
  refine cl_ (c_House_isPaper n 0 _ _ hn (by omega)) ?_
  refine brbf h ?_
  refine hgo [] _ _ _ _ ?_
  exact ⟨rfl, rfl⟩
theorem c_Ref_kind_in (n p : Nat) (M : am_M) (hn : M 11 0 4 1 = nI n) (h10 : n ≤ 10) (hp : p < n) : Con 3 mRef_kind [aR 11 0 0, aI (nI p)] M (some (aI (M 11 0 4 (28 + 5 * p)))) (rT M) := by
  refine con_of okRef_kind [some (aR 11 0 0), some (aI (nI p))] (some .int) ?_
  intro J hgo
  refine hgo [] _ _ _ _ ?_
  refine cl_ (c_Ref_isPaper n _ _ hn (by omega)) ?_
  refine brbt (by rw [i3_n (by omega)]; omega) ?_
  refine cl_ (c_Ref_of p 0 _ (by omega) (by omega)) ?_
  refine hgo [] _ _ _ _ ?_
  exact ⟨rfl, rfl⟩
theorem c_Ref_kind_out (n : Nat) (x : Int32) (M : am_M) (hn : M 11 0 4 1 = nI n) (h10 : n ≤ 10) (h : ¬ (0 ≤ x.toInt ∧ x.toInt < n)) : Con 3 mRef_kind [aR 11 0 0, aI x] M (some (aI (-1000001))) (rT M) := by
  refine con_of okRef_kind [some (aR 11 0 0), some (aI x)] (some .int) ?_
  intro J hgo
  refine hgo [] _ _ _ _ ?_
  refine cl_ (c_Ref_isPaper n _ _ hn (by omega)) ?_
  refine brbf h ?_
  refine hgo [] _ _ _ _ ?_
  exact ⟨rfl, rfl⟩
/-- the numbers of the house, on both sides -/
theorem Rel_np {M : am_M} (hR : Rel M) : M 4 0 0 4 = nI (nP (M 11 0 4)) ∧ M 11 0 4 1 = nI (nP (M 11 0 4)) ∧ nP (M 11 0 4) ≤ 10 := by
  obtain ⟨hv, ⟨-, hp, -⟩, -⟩ := hR.2.2.2.1
  exact ⟨hp.1.trans hv.2.1.1, hv.2.1.1, hv.2.1.2⟩
theorem Rel_nw {M : am_M} (hR : Rel M) : M 4 0 0 0 = nI (nW (M 11 0 4)) ∧ M 11 0 4 0 = nI (nW (M 11 0 4)) ∧ nW (M 11 0 4) ≤ 8 := by
  obtain ⟨hv, ⟨hw, -⟩, -⟩ := hR.2.2.2.1
  exact ⟨hw.1.trans hv.1.1, hv.1.1, hv.1.2⟩
theorem Rel_nt {M : am_M} (hR : Rel M) : M 4 0 0 10 = nI (nT (M 11 0 4)) ∧ M 11 0 4 2 = nI (nT (M 11 0 4)) ∧ nT (M 11 0 4) ≤ 10 := by
  obtain ⟨hv, ⟨-, -, ht, -⟩, -⟩ := hR.2.2.2.1
  exact ⟨ht.1.trans hv.2.2.1.1, hv.2.2.1.1, hv.2.2.1.2⟩
theorem Rel_ns {M : am_M} (hR : Rel M) : M 5 0 0 0 = nI (nS (M 11 0 4)) ∧ M 11 0 4 3 = nI (nS (M 11 0 4)) ∧ nS (M 11 0 4) ≤ 9 := by
  obtain ⟨hv, ⟨-, -, -, hs⟩, -⟩ := hR.2.2.2.1
  exact ⟨hs.1.trans hv.2.2.2.1.1, hv.2.2.2.1.1, hv.2.2.2.1.2⟩
theorem op_kind (x : Int32) (M : am_M) (hR : Rel M) : OpAt mMain_kind mRef_kind [aI x] M := by
  obtain ⟨h1, h2, h3⟩ := Rel_np hR
  by_cases h : 0 ≤ x.toInt ∧ x.toInt < nP (M 11 0 4)
  · obtain ⟨p, hp, rfl⟩ := intN h
    have hc := c_Main_kind_in _ p M h1 h3 hp
    rw [(hR.2.2.2.1.2.1.2.1.2 p hp).1] at hc
    exact op_mk hc (c_Ref_kind_in _ p M h2 h3 hp) (Rel_bad hR)
  · exact op_mk (c_Main_kind_out _ x M h1 h3 h) (c_Ref_kind_out _ x M h2 h3 h) (Rel_bad hR)
end
section
theorem neN {x : Int32} {m c : Nat} (h : ¬ (0 ≤ x.toInt ∧ x.toInt < m)) (hc : c < m) (hm : m < 1000) : ¬ x = Int32.ofNat c := by
  intro e
  apply h
  rw [e]
  have := i3_n (n := c) (by omega)
  have e2 : (Int32.ofNat c).toInt = (c : Int) := this
  rw [e2]
  omega
theorem lt4 {k : Nat} (h : k < 4) : k = 0 ∨ k = 1 ∨ k = 2 ∨ k = 3 := by omega
theorem lt6 {k : Nat} (h : k < 6) : k = 0 ∨ k = 1 ∨ k = 2 ∨ k = 3 ∨ k = 4 ∨ k = 5 := by omega
/-! paper -/
theorem c_Main_paper_in (n p k : Nat) (M : am_M) (hn : M 4 0 0 4 = nI n) (h10 : n ≤ 10) (hp : p < n) (hk : k < 4) : Con 2 mMain_paper [aR 0 0 0, aI (nI p), aI (nI k)] M (some (aI (M 4 0 (5 + k) p))) M := by
  refine con_of okMain_paper [some (aR 0 0 0), some (aI (nI p)), some (aI (nI k))] (some .int) ?_
  intro J hgo
  refine hgo [] _ _ _ _ ?_
  refine cl_ (c_House_isPaper n 0 _ _ hn (by omega)) ?_
  refine brbt (by rw [i3_n (by omega)]; omega) ?_
  refine hgo [] _ _ _ _ ?_
  rcases lt4 hk with rfl | rfl | rfl | rfl
  · refine brt rfl ?_
    refine hgo [] _ _ _ _ ?_
    refine ob_ (vp_in_nI (by omega) (by omega)) ⟨?_, rfl⟩
    rw [cl_nI (by omega)]
  · refine brf (by decide) ?_
    refine brt rfl ?_
    refine hgo [] _ _ _ _ ?_
    refine ob_ (vp_in_nI (by omega) (by omega)) ⟨?_, rfl⟩
    rw [cl_nI (by omega)]
  · refine brf (by decide) ?_
    refine brf (by decide) ?_
    refine brt rfl ?_
    refine hgo [] _ _ _ _ ?_
    refine ob_ (vp_in_nI (by omega) (by omega)) ⟨?_, rfl⟩
    rw [cl_nI (by omega)]
  · refine brf (by decide) ?_
    refine brf (by decide) ?_
    refine brf (by decide) ?_
    refine brt rfl ?_
    refine hgo [] _ _ _ _ ?_
    refine ob_ (vp_in_nI (by omega) (by omega)) ⟨?_, rfl⟩
    rw [cl_nI (by omega)]
theorem c_Main_paper_out (n : Nat) (x w : Int32) (M : am_M) (hn : M 4 0 0 4 = nI n) (h10 : n ≤ 10) (h : ¬ ((0 ≤ x.toInt ∧ x.toInt < n) ∧ (0 ≤ w.toInt ∧ w.toInt < (4 : Nat)))) : Con 2 mMain_paper [aR 0 0 0, aI x, aI w] M (some (aI (-1000001))) M := by
  refine con_of okMain_paper [some (aR 0 0 0), some (aI x), some (aI w)] (some .int) ?_
  intro J hgo
  refine hgo [] _ _ _ _ ?_
  refine cl_ (c_House_isPaper n 0 _ _ hn (by omega)) ?_
  refine brb (fun h1 => ?_) (fun h1 => ?_)
  · exact ⟨rfl, rfl⟩
  · have h2 : ¬ (0 ≤ w.toInt ∧ w.toInt < (4 : Nat)) := fun q => h ⟨h1, q⟩
    refine hgo [] _ _ _ _ ?_
    refine brf (neN h2 (by omega) (by omega)) ?_
    refine brf (neN h2 (by omega) (by omega)) ?_
    refine brf (neN h2 (by omega) (by omega)) ?_
    refine brf (neN h2 (by omega) (by omega)) ?_
    refine hgo [] _ _ _ _ ?_
    exact ⟨rfl, rfl⟩
theorem c_Ref_paper_in (n p k : Nat) (M : am_M) (hn : M 11 0 4 1 = nI n) (h10 : n ≤ 10) (hp : p < n) (hk : k < 4) : Con 3 mRef_paper [aR 11 0 0, aI (nI p), aI (nI k)] M (some (aI (M 11 0 4 (28 + 5 * p + (1 + k))))) (rT M) := by
  refine con_of okRef_paper [some (aR 11 0 0), some (aI (nI p)), some (aI (nI k))] (some .int) ?_
  intro J hgo
  refine hgo [] _ _ _ _ ?_
  refine cl_ (c_Ref_isPaper n _ _ hn (by omega)) ?_
  refine brbt (by rw [i3_n (by omega)]; omega) ?_
  refine cl_ (c_Ref_in (nI k) 0 3 _ _ _ rfl (by decide) (by decide) _) ?_
  refine brbt ⟨nI_pos' (by omega), nI_le (b := 3) (by omega) (by omega)⟩ ?_
  refine cle (c_Ref_of p (1 + k) (rT M) (by omega) (by omega)) ?_ rfl ?_
  · rw [show (1 : Int32) + nI k = nI (1 + k) from nI_add 1 k]
  · refine hgo [] _ _ _ _ ?_
    exact ⟨rfl, rfl⟩
theorem c_Ref_paper_out (n : Nat) (x w : Int32) (M : am_M) (hn : M 11 0 4 1 = nI n) (h10 : n ≤ 10) (h : ¬ ((0 ≤ x.toInt ∧ x.toInt < n) ∧ (0 ≤ w.toInt ∧ w.toInt < (4 : Nat)))) : Con 3 mRef_paper [aR 11 0 0, aI x, aI w] M (some (aI (-1000001))) (rT M) := by
  refine con_of okRef_paper [some (aR 11 0 0), some (aI x), some (aI w)] (some .int) ?_
  intro J hgo
  refine hgo [] _ _ _ _ ?_
  refine cl_ (c_Ref_isPaper n _ _ hn (by omega)) ?_
  refine brb (fun h1 => ?_) (fun h1 => ?_)
  · refine hgo [] _ _ _ _ ?_
    exact ⟨rfl, rfl⟩
  · refine cl_ (c_Ref_in w 0 3 _ _ _ rfl (by decide) (by decide) _) ?_
    refine brbf (fun q => h ⟨h1, ?_⟩) ?_
    · (simp only [vp_in_iff, i3_lt, i3_le, i3_eq, Int32.reduceToInt, i3_m1] at q ⊢ <;> omega)
    · refine hgo [] _ _ _ _ ?_
      exact ⟨rfl, rfl⟩
theorem op_paper (x w : Int32) (M : am_M) (hR : Rel M) : OpAt mMain_paper mRef_paper [aI x, aI w] M := by
  obtain ⟨h1, h2, h3⟩ := Rel_np hR
  by_cases h : (0 ≤ x.toInt ∧ x.toInt < nP (M 11 0 4)) ∧ (0 ≤ w.toInt ∧ w.toInt < (4 : Nat))
  · obtain ⟨p, hp, rfl⟩ := intN h.1
    obtain ⟨k, hk, rfl⟩ := intN h.2
    have hc := c_Main_paper_in _ p k M h1 h3 hp hk
    have e0 : M 4 0 (5 + k) p = M 11 0 4 (28 + 5 * p + (1 + k)) := by
      obtain ⟨-, g1, g2, g3, g4⟩ := hR.2.2.2.1.2.1.2.1.2 p hp
      rcases lt4 hk with rfl | rfl | rfl | rfl
      · exact g1.trans (congrArg _ (by omega))
      · exact g2.trans (congrArg _ (by omega))
      · exact g3.trans (congrArg _ (by omega))
      · exact g4.trans (congrArg _ (by omega))
    rw [e0] at hc
    exact op_mk hc (c_Ref_paper_in _ p k M h2 h3 hp hk) (Rel_bad hR)
  · exact op_mk (c_Main_paper_out _ x w M h1 h3 h) (c_Ref_paper_out _ x w M h2 h3 h) (Rel_bad hR)
/-! spot -/
theorem c_Spots_layer (j n s k d : Nat) (M : am_M) (hn : M 5 j 0 0 = nI n) (h9 : n ≤ 9) (hs : s < n) (hd : M 5 j 2 s = nI d) (h8 : d ≤ 8) (hk : k < d) : Con 2 mSpots_layer [aR 5 j 0, aI (nI s), aI (nI k)] M (some (aI (M 5 j 3 (8 * s + k)))) M := by
  have e0 : nI s * 8 + nI k = nI (8 * s + k) := by
    show nI s * nI 8 + nI k = _
    rw [pk_mul, nI_add, Nat.mul_comm]
  refine con_of okSpots_layer [some (aR 5 j 0), some (aI (nI s)), some (aI (nI k))] (some .int) ?_
  intro J hgo
  refine hgo [] _ _ _ _ ?_
  refine cl_ (c_Spots_isSpot n j _ _ hn (by omega)) ?_
  refine brbt (by rw [i3_n (by omega)]; omega) ?_
  refine brf (nI_pos (by omega)) ?_
  refine ob_ (vp_in_nI (by omega) (by omega)) ?_
  refine brt (show nI k < M 5 j 2 (nI s).toNatClampNeg by rw [cl_nI (by omega), hd]; exact nI_lt hk (by omega)) ?_
  refine hgo [] _ _ _ _ ?_
  refine ob_ (by rw [e0]; exact vp_in_nI (by omega) (by omega)) ⟨?_, rfl⟩
  rw [e0, cl_nI (by omega)]
theorem c_Main_spot_bad (n : Nat) (x k : Int32) (M : am_M) (hn : M 5 0 0 0 = nI n) (h9 : n ≤ 9) (h : ¬ ((0 ≤ x.toInt ∧ x.toInt < n) ∧ -1 ≤ k.toInt)) : Con 3 mMain_spot [aR 0 0 0, aI x, aI k] M (some (aI (-1000001))) M := by
  refine con_of okMain_spot [some (aR 0 0 0), some (aI x), some (aI k)] (some .int) ?_
  intro J hgo
  refine hgo [] _ _ _ _ ?_
  refine cl_ (c_Spots_isSpot n 0 _ _ hn (by omega)) ?_
  refine brb (fun h1 => ?_) (fun h1 => ?_)
  · refine hgo [] _ _ _ _ ?_
    exact ⟨rfl, rfl⟩
  · refine brf (fun q => h ⟨h1, ?_⟩) ?_
    · (simp only [vp_in_iff, i3_lt, i3_le, i3_eq, Int32.reduceToInt, i3_m1] at q ⊢ <;> omega)
    · exact ⟨rfl, rfl⟩
theorem c_Main_spot_wall (n s : Nat) (M : am_M) (hn : M 5 0 0 0 = nI n) (h9 : n ≤ 9) (hs : s < n) : Con 3 mMain_spot [aR 0 0 0, aI (nI s), aI (-1)] M (some (aI (M 5 0 1 s))) M := by
  refine con_of okMain_spot [some (aR 0 0 0), some (aI (nI s)), some (aI (-1))] (some .int) ?_
  intro J hgo
  refine hgo [] _ _ _ _ ?_
  refine cl_ (c_Spots_isSpot n 0 _ _ hn (by omega)) ?_
  refine brbt (by rw [i3_n (by omega)]; omega) ?_
  refine brt (by decide) ?_
  refine hgo [] _ _ _ _ ?_
  refine brt rfl ?_
  refine ob_ (vp_in_nI (by omega) (by omega)) ⟨?_, rfl⟩
  rw [cl_nI (by omega)]
theorem c_Main_spot_in (n s k d : Nat) (M : am_M) (hn : M 5 0 0 0 = nI n) (h9 : n ≤ 9) (hs : s < n) (hd : M 5 0 2 s = nI d) (h8 : d ≤ 8) (hk : k < d) : Con 3 mMain_spot [aR 0 0 0, aI (nI s), aI (nI k)] M (some (aI (M 5 0 3 (8 * s + k)))) M := by
  have e1 := i3_n (n := k) (by omega)
  refine con_of okMain_spot [some (aR 0 0 0), some (aI (nI s)), some (aI (nI k))] (some .int) ?_
  intro J hgo
  refine hgo [] _ _ _ _ ?_
  refine cl_ (c_Spots_isSpot n 0 _ _ hn (by omega)) ?_
  refine brbt (by rw [i3_n (by omega)]; omega) ?_
  refine brt (by simp only [i3_le, i3_m1]; omega) ?_
  refine hgo [] _ _ _ _ ?_
  refine brf (by simp only [i3_eq, i3_m1]; omega) ?_
  refine hgo [] _ _ _ _ ?_
  refine ob_ (vp_in_nI (by omega) (by omega)) ?_
  refine brf (show ¬ M 5 0 2 (nI s).toNatClampNeg ≤ nI k by rw [cl_nI (by omega), hd]; exact nI_ge hk (by omega)) ?_
  refine cl_ (c_Spots_layer 0 n s k d _ hn h9 hs hd h8 hk) ?_
  refine hgo [] _ _ _ _ ?_
  exact ⟨rfl, rfl⟩
theorem c_Main_spot_out (n s d : Nat) (k : Int32) (M : am_M) (hn : M 5 0 0 0 = nI n) (h9 : n ≤ 9) (hs : s < n) (hd : M 5 0 2 s = nI d) (h8 : d ≤ 8) (hk : (d : Int) ≤ k.toInt) : Con 3 mMain_spot [aR 0 0 0, aI (nI s), aI k] M (some (aI (-1000000))) M := by
  refine con_of okMain_spot [some (aR 0 0 0), some (aI (nI s)), some (aI k)] (some .int) ?_
  intro J hgo
  refine hgo [] _ _ _ _ ?_
  refine cl_ (c_Spots_isSpot n 0 _ _ hn (by omega)) ?_
  refine brbt (by rw [i3_n (by omega)]; omega) ?_
  refine brt (by simp only [i3_le, i3_m1]; omega) ?_
  refine hgo [] _ _ _ _ ?_
  refine brf (by simp only [i3_eq, i3_m1]; omega) ?_
  refine hgo [] _ _ _ _ ?_
  refine ob_ (vp_in_nI (by omega) (by omega)) ?_
  refine brt (show M 5 0 2 (nI s).toNatClampNeg ≤ k by rw [cl_nI (by omega), hd]; simp only [i3_le]; rw [i3_n (by omega)]; omega) ?_
  refine hgo [] _ _ _ _ ?_
  exact ⟨rfl, rfl⟩
theorem c_Ref_spot_bad (n : Nat) (x k : Int32) (M : am_M) (hn : M 11 0 4 3 = nI n) (h9 : n ≤ 9) (h : ¬ ((0 ≤ x.toInt ∧ x.toInt < n) ∧ -1 ≤ k.toInt)) : Con 3 mRef_spot [aR 11 0 0, aI x, aI k] M (some (aI (-1000001))) (rT M) := by
  refine con_of okRef_spot [some (aR 11 0 0), some (aI x), some (aI k)] (some .int) ?_
  intro J hgo
  refine hgo [] _ _ _ _ ?_
  refine cl_ (c_Ref_isSpot n _ _ hn (by omega)) ?_
  refine brb (fun h1 => ?_) (fun h1 => ?_)
  · refine hgo [] _ _ _ _ ?_
    exact ⟨rfl, rfl⟩
  · refine brf (fun q => h ⟨h1, ?_⟩) ?_
    · (simp only [vp_in_iff, i3_lt, i3_le, i3_eq, Int32.reduceToInt, i3_m1] at q ⊢ <;> omega)
    · exact ⟨rfl, rfl⟩
theorem c_Ref_spot_wall (n s : Nat) (M : am_M) (hn : M 11 0 4 3 = nI n) (h9 : n ≤ 9) (hs : s < n) : Con 3 mRef_spot [aR 11 0 0, aI (nI s), aI (-1)] M (some (aI (M 11 0 4 (108 + 10 * s)))) (rT M) := by
  refine con_of okRef_spot [some (aR 11 0 0), some (aI (nI s)), some (aI (-1))] (some .int) ?_
  intro J hgo
  refine hgo [] _ _ _ _ ?_
  refine cl_ (c_Ref_isSpot n _ _ hn (by omega)) ?_
  refine brbt (by rw [i3_n (by omega)]; omega) ?_
  refine brt (by decide) ?_
  refine hgo [] _ _ _ _ ?_
  refine brf (by decide) ?_
  refine cl_ (c_Ref_wallOf s _ (by omega)) ?_
  refine hgo [] _ _ _ _ ?_
  exact ⟨rfl, rfl⟩
theorem c_Ref_spot_in (n s k d : Nat) (M : am_M) (hn : M 11 0 4 3 = nI n) (h9 : n ≤ 9) (hs : s < n) (hd : M 11 0 4 (109 + 10 * s) = nI d) (h8 : d ≤ 8) (hk : k < d) : Con 3 mRef_spot [aR 11 0 0, aI (nI s), aI (nI k)] M (some (aI (M 11 0 4 (110 + 10 * s + k)))) (rT M) := by
  have e1 := i3_n (n := k) (by omega)
  refine con_of okRef_spot [some (aR 11 0 0), some (aI (nI s)), some (aI (nI k))] (some .int) ?_
  intro J hgo
  refine hgo [] _ _ _ _ ?_
  refine cl_ (c_Ref_isSpot n _ _ hn (by omega)) ?_
  refine brbt (by rw [i3_n (by omega)]; omega) ?_
  refine brt (by simp only [i3_le, i3_m1]; omega) ?_
  refine hgo [] _ _ _ _ ?_
  refine brt (nI_pos' (by omega)) ?_
  refine hgo [] _ _ _ _ ?_
  refine cl_ (c_Ref_manyAt s _ (by omega)) ?_
  refine brf (show ¬ M 11 0 4 (109 + 10 * s) ≤ nI k by rw [hd]; exact nI_ge hk (by omega)) ?_
  refine cl_ (c_Ref_lies s k _ (by omega) (by omega)) ?_
  refine hgo [] _ _ _ _ ?_
  exact ⟨rfl, rfl⟩
theorem c_Ref_spot_out (n s d : Nat) (k : Int32) (M : am_M) (hn : M 11 0 4 3 = nI n) (h9 : n ≤ 9) (hs : s < n) (hd : M 11 0 4 (109 + 10 * s) = nI d) (h8 : d ≤ 8) (hk : (d : Int) ≤ k.toInt) : Con 3 mRef_spot [aR 11 0 0, aI (nI s), aI k] M (some (aI (-1000000))) (rT M) := by
  refine con_of okRef_spot [some (aR 11 0 0), some (aI (nI s)), some (aI k)] (some .int) ?_
  intro J hgo
  refine hgo [] _ _ _ _ ?_
  refine cl_ (c_Ref_isSpot n _ _ hn (by omega)) ?_
  refine brbt (by rw [i3_n (by omega)]; omega) ?_
  refine brt (by simp only [i3_le, i3_m1]; omega) ?_
  refine hgo [] _ _ _ _ ?_
  refine brt (by simp only [i3_le, Int32.reduceToInt]; omega) ?_
  refine hgo [] _ _ _ _ ?_
  refine cl_ (c_Ref_manyAt s _ (by omega)) ?_
  refine brt (show M 11 0 4 (109 + 10 * s) ≤ k by rw [hd]; simp only [i3_le]; rw [i3_n (by omega)]; omega) ?_
  refine hgo [] _ _ _ _ ?_
  exact ⟨rfl, rfl⟩
/-- a spot of both -/
theorem Rel_spot {M : am_M} (hR : Rel M) {s : Nat} (hs : s < nS (M 11 0 4)) : M 5 0 1 s = M 11 0 4 (108 + 10 * s) ∧ M 11 0 4 (108 + 10 * s) = nI (wl (M 11 0 4) s) ∧ wl (M 11 0 4) s < nW (M 11 0 4) ∧ M 5 0 2 s = nI (dp (M 11 0 4) s) ∧ M 11 0 4 (109 + 10 * s) = nI (dp (M 11 0 4) s) ∧ 1 ≤ dp (M 11 0 4) s ∧ dp (M 11 0 4) s ≤ 8 ∧ ∀ k, k < dp (M 11 0 4) s → M 5 0 3 (8 * s + k) = M 11 0 4 (110 + 10 * s + k) ∧ M 11 0 4 (110 + 10 * s + k) = nI (ly (M 11 0 4) s k) ∧ ly (M 11 0 4) s k < nP (M 11 0 4) := by
  obtain ⟨hv, ⟨-, -, -, hss⟩, -⟩ := hR.2.2.2.1
  obtain ⟨g1, g2, g3, g4, g5, g6⟩ := hv.2.2.2.2.2.2.2 s hs
  obtain ⟨q1, q2, q3⟩ := hss.2 s hs
  exact ⟨q1, g1, g2, q2.trans g3, g3, g4, g5, fun k hk => ⟨q3 k hk, (g6 k hk).1, (g6 k hk).2⟩⟩
theorem op_spot (x k : Int32) (M : am_M) (hR : Rel M) : OpAt mMain_spot mRef_spot [aI x, aI k] M := by
  obtain ⟨h1, h2, h3⟩ := Rel_ns hR
  by_cases h : (0 ≤ x.toInt ∧ x.toInt < nS (M 11 0 4)) ∧ -1 ≤ k.toInt
  · obtain ⟨s, hs, rfl⟩ := intN h.1
    obtain ⟨g1, g2, g3, g4, g5, g6, g7, g8⟩ := Rel_spot hR hs
    by_cases hk : k = -1
    · subst hk
      have hc := c_Main_spot_wall _ s M h1 h3 hs
      rw [g1] at hc
      exact op_mk hc (c_Ref_spot_wall _ s M h2 h3 hs) (Rel_bad hR)
    · have hk2 : ¬ k.toInt = -1 := by rw [← i3_m1]; exact fun q => hk (Int32.toInt_inj.mp q)
      by_cases hk3 : k.toInt < dp (M 11 0 4) s
      · obtain ⟨q, hq, rfl⟩ := intN (a := k) (m := dp (M 11 0 4) s) (by omega)
        have hc := c_Main_spot_in _ s q _ M h1 h3 hs g4 g7 hq
        rw [(g8 q hq).1] at hc
        exact op_mk hc (c_Ref_spot_in _ s q _ M h2 h3 hs g5 g7 hq) (Rel_bad hR)
      · exact op_mk (c_Main_spot_out _ s _ k M h1 h3 hs g4 g7 (by omega)) (c_Ref_spot_out _ s _ k M h2 h3 hs g5 g7 (by omega)) (Rel_bad hR)
  · exact op_mk (c_Main_spot_bad _ x k M h1 h3 h) (c_Ref_spot_bad _ x k M h2 h3 h) (Rel_bad hR)
end
section
/-! count -/
def cnt (P : Nat → Bool) : Nat → Nat
  | 0 => 0
  | n + 1 => cnt P n + (if P n then 1 else 0)
theorem cnt_le (P : Nat → Bool) : ∀ n, cnt P n ≤ n
  | 0 => Nat.le_refl _
  | n + 1 => by
    have := cnt_le P n
    unfold cnt
    split <;> omega
theorem cnt_cong {P Q : Nat → Bool} : ∀ {n : Nat}, (∀ i, i < n → P i = Q i) → cnt P n = cnt Q n
  | 0, _ => rfl
  | n + 1, h => by
    unfold cnt
    rw [cnt_cong (fun i hi => h i (by omega)), h n (by omega)]
theorem c_Rows_howMany (M : am_M) : Con 1 mRows_howMany [aR 1 0 0] M (some (aI (nI (cnt (fun r => !(M 1 0 1 r == 0)) 8)))) M := by
  refine con_of okRows_howMany [some (aR 1 0 0), none, none] (some .int) ?_
  intro J hgo
  have loop : ∀ m r a b, m = 8 - r → r ≤ 8 → a = nI (cnt (fun r => !(M 1 0 1 r == 0)) r) → b = nI r → J 4 [some (aR 1 0 0), some (aI a), some (aI b)] [] M := by
    intro m
    induction m with
    | zero =>
      intro r a b hm hr ha hb
      obtain rfl : r = 8 := by omega
      subst hb
      refine hgo [] _ _ _ _ ?_
      refine brt (by decide) ?_
      refine hgo [] _ _ _ _ ?_
      refine ⟨?_, rfl⟩
      rw [ha]
    | succ m ih =>
      intro r a b hm hr ha hb
      subst hb
      refine hgo [] _ _ _ _ ?_
      refine brf (nI_ge (b := 8) (by omega) (by omega)) ?_
      refine ob_ (vp_in_nI (by omega) (by omega)) ?_
      refine br_ (fun h1 => ?_) (fun h1 => ?_)
      · have h1 : M 1 0 1 (nI r).toNatClampNeg = 0 := h1
        rw [cl_nI (by omega)] at h1
        refine hgo [] _ _ _ _ ?_
        refine ih (r + 1) _ _ (by omega) (by omega) ?_ (nI_1 r)
        simp [cnt, h1, ha]
      · have h1 : ¬ M 1 0 1 (nI r).toNatClampNeg = 0 := h1
        rw [cl_nI (by omega)] at h1
        refine ih (r + 1) _ _ (by omega) (by omega) ?_ (nI_1 r)
        rw [ha]
        simp only [cnt, h1, beq_iff_eq, Bool.not_eq_true', beq_eq_false_iff_ne, ne_eq, not_false_eq_true, if_true]
        exact nI_1 _
  refine hgo [4] _ _ _ _ ?_
  exact loop _ 0 _ _ rfl (by omega) rfl rfl
theorem c_Main_count (k : Nat) (M : am_M) (hk : k < 6) : Con 2 mMain_count [aR 0 0 0, aI (nI k)] M (some (aI (match k with | 0 => nI (cnt (fun r => !(M 1 0 1 r == 0)) 8) | 1 => M 4 0 0 0 | 2 => M 4 0 0 4 | 3 => M 4 0 0 10 | 4 => M 5 0 0 0 | _ => M 2 0 0 1))) M := by
  refine con_of okMain_count [some (aR 0 0 0), some (aI (nI k))] (some .int) ?_
  intro J hgo
  refine hgo [] _ _ _ _ ?_
  rcases lt6 hk with rfl | rfl | rfl | rfl | rfl | rfl
  · refine brt rfl ?_
    refine hgo [] _ _ _ _ ?_
    refine cl_ (c_Rows_howMany _) ?_
    exact ⟨rfl, rfl⟩
  · refine brf (by decide) (brt rfl ?_)
    refine hgo [] _ _ _ _ ?_
    exact ⟨rfl, rfl⟩
  · refine brf (by decide) (brf (by decide) (brt rfl ?_))
    refine hgo [] _ _ _ _ ?_
    exact ⟨rfl, rfl⟩
  · refine brf (by decide) (brf (by decide) (brf (by decide) (brt rfl ?_)))
    refine hgo [] _ _ _ _ ?_
    exact ⟨rfl, rfl⟩
  · refine brf (by decide) (brf (by decide) (brf (by decide) (brf (by decide) (brt rfl ?_))))
    refine hgo [] _ _ _ _ ?_
    exact ⟨rfl, rfl⟩
  · refine brf (by decide) (brf (by decide) (brf (by decide) (brf (by decide) (brf (by decide) (brt rfl ?_)))))
    refine hgo [] _ _ _ _ ?_
    exact ⟨rfl, rfl⟩
theorem c_Main_count_bad (x : Int32) (M : am_M) (h : ¬ (0 ≤ x.toInt ∧ x.toInt < (6 : Nat))) : Con 2 mMain_count [aR 0 0 0, aI x] M (some (aI (-1000001))) M := by
  refine con_of okMain_count [some (aR 0 0 0), some (aI x)] (some .int) ?_
  intro J hgo
  refine hgo [] _ _ _ _ ?_
  refine brf (neN h (by omega) (by omega)) (brf (neN h (by omega) (by omega)) (brf (neN h (by omega) (by omega)) (brf (neN h (by omega) (by omega)) (brf (neN h (by omega) (by omega)) (brf (neN h (by omega) (by omega)) ?_)))))
  refine hgo [] _ _ _ _ ?_
  exact ⟨rfl, rfl⟩
theorem c_Ref_count0 (M : am_M) : Con 2 mRef_count [aR 11 0 0, aI 0] M (some (aI (nI (cnt (fun r => !decide (M 11 0 1 r < 0)) 8)))) (rT M) := by
  refine con_of okRef_count [some (aR 11 0 0), some (aI 0), none, none] (some .int) ?_
  intro J hgo
  have loop : ∀ m r a b, m = 8 - r → r ≤ 8 → a = nI (cnt (fun r => !decide (M 11 0 1 r < 0)) r) → b = nI r → J 50 [some (aR 11 0 0), some (aI 0), some (aI a), some (aI b)] [] (rT M) := by
    intro m
    induction m with
    | zero =>
      intro r a b hm hr ha hb
      obtain rfl : r = 8 := by omega
      subst hb
      refine hgo [] _ _ _ _ ?_
      refine brt (by decide) ?_
      refine hgo [] _ _ _ _ ?_
      refine ⟨?_, rfl⟩
      rw [ha]
    | succ m ih =>
      intro r a b hm hr ha hb
      subst hb
      refine hgo [] _ _ _ _ ?_
      refine brf (nI_ge (b := 8) (by omega) (by omega)) ?_
      refine ob_ (vp_in_nI (by omega) (by omega)) ?_
      refine br_ (fun h1 => ?_) (fun h1 => ?_)
      · have h1 : M 11 0 1 (nI r).toNatClampNeg < 0 := h1
        rw [cl_nI (by omega)] at h1
        refine hgo [] _ _ _ _ ?_
        refine ih (r + 1) _ _ (by omega) (by omega) ?_ (nI_1 r)
        rw [ha]
        simp only [cnt, h1, decide_true, Bool.not_true, Bool.false_eq_true, if_false]
        exact nI_add _ 0
      · have h1 : ¬ M 11 0 1 (nI r).toNatClampNeg < 0 := h1
        rw [cl_nI (by omega)] at h1
        refine hgo [] _ _ _ _ ?_
        refine ih (r + 1) _ _ (by omega) (by omega) ?_ (nI_1 r)
        rw [ha]
        simp only [cnt, h1, decide_false, Bool.not_false, if_true]
        exact nI_1 _
  refine hgo [] _ _ _ _ ?_
  refine brt (by decide) ?_
  refine hgo [50] _ _ _ _ ?_
  exact loop _ 0 _ _ rfl (by omega) rfl rfl
theorem c_Ref_count (k : Nat) (M : am_M) (hk : k < 4) : Con 2 mRef_count [aR 11 0 0, aI (nI (k + 1))] M (some (aI (M 11 0 4 k))) (rT M) := by
  have e0 : nI (k + 1) - 1 = nI k := nI_pred k
  have fin : ∀ J : Nat → am_L → List am_V → am_M → Prop, am_cl 2 none (some .int) kRef_count J (fun a b => a = some (aI (M 11 0 4 k)) ∧ b = rT M) → J 81 [some (aR 11 0 0), some (aI (nI (k + 1))), some (aI 0), none] [] (rT M) := by
    intro J hgo
    refine hgo [] _ _ _ _ ?_
    refine ob_ (by rw [e0]; exact vp_in_nI (by omega) (by omega)) ⟨?_, rfl⟩
    rw [e0, cl_nI (by omega)]
    rfl
  refine con_of okRef_count [some (aR 11 0 0), some (aI (nI (k + 1))), none, none] (some .int) ?_
  intro J hgo
  have f1 := fin J hgo
  refine hgo [] _ _ _ _ ?_
  rcases lt4 hk with rfl | rfl | rfl | rfl
  · exact brf (by decide) (brt rfl f1)
  · exact brf (by decide) (brf (by decide) (brt rfl f1))
  · exact brf (by decide) (brf (by decide) (brf (by decide) (brt rfl f1)))
  · exact brf (by decide) (brf (by decide) (brf (by decide) (brf (by decide) (brt rfl f1))))
theorem c_Ref_count5 (M : am_M) : Con 2 mRef_count [aR 11 0 0, aI 5] M (some (aI (M 11 0 0 9))) (rT M) := by
  refine con_of okRef_count [some (aR 11 0 0), some (aI 5), none, none] (some .int) ?_
  intro J hgo
  refine hgo [] _ _ _ _ ?_
  refine brf (by decide) (brf (by decide) (brf (by decide) (brf (by decide) (brf (by decide) (brt rfl ?_)))))
  refine hgo [] _ _ _ _ ?_
  exact ⟨rfl, rfl⟩
theorem c_Ref_count_bad (x : Int32) (M : am_M) (h : ¬ (0 ≤ x.toInt ∧ x.toInt < (6 : Nat))) : Con 2 mRef_count [aR 11 0 0, aI x] M (some (aI (-1000001))) (rT M) := by
  refine con_of okRef_count [some (aR 11 0 0), some (aI x), none, none] (some .int) ?_
  intro J hgo
  refine hgo [] _ _ _ _ ?_
  refine brf (neN h (by omega) (by omega)) (brf (neN h (by omega) (by omega)) (brf (neN h (by omega) (by omega)) (brf (neN h (by omega) (by omega)) (brf (neN h (by omega) (by omega)) (brf (neN h (by omega) (by omega)) ?_)))))
  refine hgo [] _ _ _ _ ?_
  exact ⟨rfl, rfl⟩
theorem op_count (x : Int32) (M : am_M) (hR : Rel M) : OpAt mMain_count mRef_count [aI x] M := by
  by_cases h : 0 ≤ x.toInt ∧ x.toInt < (6 : Nat)
  · obtain ⟨k, hk, rfl⟩ := intN h
    have hc := c_Main_count k M hk
    rcases lt6 hk with rfl | rfl | rfl | rfl | rfl | rfl
    · rw [cnt_cong (Q := fun r => !decide (M 11 0 1 r < 0)) (fun r hr => by
        rcases hR.1 r hr with ⟨g1, g2, g3⟩ | ⟨g1, g2, g3, -⟩
        · simp only [g1, g2]; decide
        · have : ¬ M 11 0 1 r < 0 := by rw [g3]; exact ge_nlt g2.1
          simp only [g1, this]; decide)] at hc
      exact op_mk hc (c_Ref_count0 M) (Rel_bad hR)
    · rw [hR.2.2.2.1.2.1.1.1] at hc
      exact op_mk hc (c_Ref_count 0 M (by omega)) (Rel_bad hR)
    · rw [hR.2.2.2.1.2.1.2.1.1] at hc
      exact op_mk hc (c_Ref_count 1 M (by omega)) (Rel_bad hR)
    · rw [hR.2.2.2.1.2.1.2.2.1.1] at hc
      exact op_mk hc (c_Ref_count 2 M (by omega)) (Rel_bad hR)
    · rw [hR.2.2.2.1.2.1.2.2.2.1] at hc
      exact op_mk hc (c_Ref_count 3 M (by omega)) (Rel_bad hR)
    · obtain ⟨n, g1, g2, g3, -⟩ := hR.2.1
      rw [g2.trans g3.symm] at hc
      exact op_mk hc (c_Ref_count5 M) (Rel_bad hR)
  · exact op_mk (c_Main_count_bad x M h) (c_Ref_count_bad x M h) (Rel_bad hR)
/-! as -/
def isk (kd of : Nat) : Bool := of == 0 || kd == of || (of == 1 && kd == 4) || (of == 2 && kd == 3)
theorem c_House_isKind (x : Int32) (M : am_M) : Con 1 mHouse_isKind [aI x] M (some (aI (b2i (0 ≤ x ∧ x ≤ 5)))) M := by
  refine con_of okHouse_isKind [some (aI x)] (some .boolean) ?_
  intro J hgo
  refine hgo [] _ _ _ _ ?_
  refine br_ (fun h1 => ?_) (fun h1 => ?_)
  · skip
    refine hgo [] _ _ _ _ ?_
    refine ob_ (by first | decide | exact nar_b) ?_
    (first | exact ⟨rfl, rfl⟩ | (refine ⟨?_, rfl⟩; (first | rfl | (simp [b2i, h1]; done) | (rw [b2i_t]; simp only [vp_in_iff, i3_lt, i3_le, i3_eq, Int32.reduceToInt, i3_m1] at h1 ⊢ <;> omega) | (rw [b2i_f]; simp only [vp_in_iff, i3_lt, i3_le, i3_eq, Int32.reduceToInt, i3_m1] at h1 ⊢ <;> omega) | (exfalso; simp only [vp_in_iff, i3_lt, i3_le, i3_eq, Int32.reduceToInt, i3_m1] at h1; omega))))   -- leaf1
  · skip
    refine br_ (fun h2 => ?_) (fun h2 => ?_)
    · skip
      refine hgo [] _ _ _ _ ?_
      refine ob_ (by first | decide | exact nar_b) ?_
      (first | exact ⟨rfl, rfl⟩ | (refine ⟨?_, rfl⟩; (first | rfl | (simp [b2i, h1, h2]; done) | (rw [b2i_t]; simp only [vp_in_iff, i3_lt, i3_le, i3_eq, Int32.reduceToInt, i3_m1] at h1 h2 ⊢ <;> omega) | (rw [b2i_f]; simp only [vp_in_iff, i3_lt, i3_le, i3_eq, Int32.reduceToInt, i3_m1] at h1 h2 ⊢ <;> omega) | (exfalso; simp only [vp_in_iff, i3_lt, i3_le, i3_eq, Int32.reduceToInt, i3_m1] at h1 h2; omega))))   -- leaf2
    · skip
      refine hgo [] _ _ _ _ ?_
      refine ob_ (by first | decide | exact nar_b) ?_
      (first | exact ⟨rfl, rfl⟩ | (refine ⟨?_, rfl⟩; (first | rfl | (simp [b2i, h1, h2]; done) | (rw [b2i_t]; simp only [vp_in_iff, i3_lt, i3_le, i3_eq, Int32.reduceToInt, i3_m1] at h1 h2 ⊢ <;> omega) | (rw [b2i_f]; simp only [vp_in_iff, i3_lt, i3_le, i3_eq, Int32.reduceToInt, i3_m1] at h1 h2 ⊢ <;> omega) | (exfalso; simp only [vp_in_iff, i3_lt, i3_le, i3_eq, Int32.reduceToInt, i3_m1] at h1 h2; omega))))   -- leaf3
theorem c_Ref_isOf (kd of : Nat) (M : am_M) (h1 : kd < 6) (h2 : of < 6) : Con 1 mRef_isOf [aI (nI kd), aI (nI of)] M (some (aI (b2i (isk kd of = true)))) M := by
  refine con_of okRef_isOf [some (aI (nI kd)), some (aI (nI of))] (some .boolean) ?_
  intro J hgo
  refine hgo [] _ _ _ _ ?_
  rcases lt6 h1 with rfl | rfl | rfl | rfl | rfl | rfl <;> rcases lt6 h2 with rfl | rfl | rfl | rfl | rfl | rfl <;> (repeat (first | refine brt (by decide) ?_ | refine brf (by decide) ?_ | refine hgo [] _ _ _ _ ?_)) <;> exact ⟨by decide, by decide, rfl⟩
theorem c_House_isOf (j n p kd of : Nat) (M : am_M) (hn : M 4 j 0 4 = nI n) (h10 : n ≤ 10) (hp : p < n) (hk : M 4 j 4 p = nI kd) (hk1 : 1 ≤ kd) (hk5 : kd ≤ 5) (h2 : of < 6) : Con 2 mHouse_isOf [aR 4 j 0, aI (nI p), aI (nI of)] M (some (aI (b2i (isk kd of = true)))) M := by
  refine con_of okHouse_isOf [some (aR 4 j 0), some (aI (nI p)), some (aI (nI of)), none, none] (some .boolean) ?_
  intro J hgo
  have end0 : isk kd of = false → ∀ s, s ≤ 5 → J 22 [some (aR 4 j 0), some (aI (nI p)), some (aI (nI of)), some (aI (-1)), some (aI (nI s))] [] M := by
    intro hq s hs
    refine hgo [] _ _ _ _ ?_
    refine brf (nI_ge (b := 6) (by omega) (by omega)) ?_
    refine cl_ (c_House_isKind _ _) ?_
    refine brbf (by decide) ?_
    refine hgo [] _ _ _ _ ?_
    refine ob_ (by decide) ⟨?_, rfl⟩
    rw [b2i_f (by rw [hq]; decide)]
  have stp : ∀ (s v : Nat) (w : Int32), s ≤ 4 → v < 6 → (am_sc 0).getD v 0 = w → (v = of → isk kd of = true) → (v ≠ of → J 22 [some (aR 4 j 0), some (aI (nI p)), some (aI (nI of)), some (aI w), some (aI (nI (s + 1)))] [] M) → J 22 [some (aR 4 j 0), some (aI (nI p)), some (aI (nI of)), some (aI (nI v)), some (aI (nI s))] [] M := by
    intro s v w hs hv hw hy hno
    refine hgo [] _ _ _ _ ?_
    refine brf (nI_ge (b := 6) (by omega) (by omega)) ?_
    refine cl_ (c_House_isKind _ _) ?_
    refine brbt ⟨nI_pos' (by omega), nI_le (b := 5) (by omega) (by omega)⟩ ?_
    refine br_ (fun h1 => ?_) (fun h1 => ?_)
    · refine ob_ (by decide) ⟨?_, rfl⟩
      rw [b2i_t (hy ((nI_eq (by omega) (by omega)).mp h1))]
    · refine hgo [] _ _ _ _ ?_
      refine ob_ (vp_in_nI (by omega) (by omega)) ?_
      rw [cl_nI (by omega), hw]
      have := hno (fun e => h1 (by rw [e]))
      rw [nI_succ] at this
      exact this
  have at0 : ∀ s, s ≤ 4 → (of ≠ 0 → isk kd of = false) → J 22 [some (aR 4 j 0), some (aI (nI p)), some (aI (nI of)), some (aI (nI 0)), some (aI (nI s))] [] M := by
    intro s hs hq
    refine stp s 0 (-1) hs (by omega) rfl (fun e => by subst e; rfl) (fun h => end0 (hq (Ne.symm h)) (s + 1) (by omega))
  refine hgo [] _ _ _ _ ?_
  refine cl_ (c_House_isPaper n j _ _ hn (by omega)) ?_
  refine brbt (by rw [i3_n (by omega)]; omega) ?_
  refine ob_ (vp_in_nI (by omega) (by omega)) ?_
  refine hgo [22] _ _ _ _ ?_
  rw [cl_nI (by omega), hk]
  have hof := lt6 h2
  have hkd : kd = 1 ∨ kd = 2 ∨ kd = 3 ∨ kd = 4 ∨ kd = 5 := by omega
  rcases hkd with rfl | rfl | rfl | rfl | rfl
  · refine stp 0 1 (nI 0) (by omega) (by omega) rfl (fun e => by subst e; rfl) (fun h => at0 1 (by omega) (fun h0 => ?_))
    rcases hof with rfl | rfl | rfl | rfl | rfl | rfl <;> first | rfl | omega
  · refine stp 0 2 (nI 0) (by omega) (by omega) rfl (fun e => by subst e; rfl) (fun h => at0 1 (by omega) (fun h0 => ?_))
    rcases hof with rfl | rfl | rfl | rfl | rfl | rfl <;> first | rfl | omega
  · refine stp 0 3 (nI 2) (by omega) (by omega) rfl (fun e => by subst e; rfl) (fun h => stp 1 2 (nI 0) (by omega) (by omega) rfl (fun e => by subst e; rfl) (fun h3 => at0 2 (by omega) (fun h0 => ?_)))
    rcases hof with rfl | rfl | rfl | rfl | rfl | rfl <;> first | rfl | omega
  · refine stp 0 4 (nI 1) (by omega) (by omega) rfl (fun e => by subst e; rfl) (fun h => stp 1 1 (nI 0) (by omega) (by omega) rfl (fun e => by subst e; rfl) (fun h3 => at0 2 (by omega) (fun h0 => ?_)))
    rcases hof with rfl | rfl | rfl | rfl | rfl | rfl <;> first | rfl | omega
  · refine stp 0 5 (nI 0) (by omega) (by omega) rfl (fun e => by subst e; rfl) (fun h => at0 1 (by omega) (fun h0 => ?_))
    rcases hof with rfl | rfl | rfl | rfl | rfl | rfl <;> first | rfl | omega
theorem c_Main_as_bad (n : Nat) (x w : Int32) (M : am_M) (hn : M 4 0 0 4 = nI n) (h10 : n ≤ 10) (h : ¬ ((0 ≤ x.toInt ∧ x.toInt < n) ∧ (0 ≤ w.toInt ∧ w.toInt < (6 : Nat)))) : Con 3 mMain_as [aR 0 0 0, aI x, aI w] M (some (aI (-1000001))) M := by
  refine con_of okMain_as [some (aR 0 0 0), some (aI x), some (aI w)] (some .int) ?_
  intro J hgo
  refine hgo [] _ _ _ _ ?_
  refine cl_ (c_House_isPaper n 0 _ _ hn (by omega)) ?_
  refine brb (fun h1 => ?_) (fun h1 => ?_)
  · refine hgo [] _ _ _ _ ?_
    exact ⟨rfl, rfl⟩
  · refine cl_ (c_House_isKind _ _) ?_
    refine brbf (fun q => h ⟨h1, ?_⟩) ?_
    · (simp only [vp_in_iff, i3_lt, i3_le, i3_eq, Int32.reduceToInt, i3_m1] at q ⊢ <;> omega)
    · exact ⟨rfl, rfl⟩
theorem c_Main_as (n p kd of : Nat) (M : am_M) (hn : M 4 0 0 4 = nI n) (h10 : n ≤ 10) (hp : p < n) (hk : M 4 0 4 p = nI kd) (hk1 : 1 ≤ kd) (hk5 : kd ≤ 5) (h2 : of < 6) : Con 3 mMain_as [aR 0 0 0, aI (nI p), aI (nI of)] M (some (aI (if isk kd of = true then nI p else -1000013))) (mS M (if isk kd of = true then 0 else 3)) := by
  refine con_of okMain_as [some (aR 0 0 0), some (aI (nI p)), some (aI (nI of))] (some .int) ?_
  intro J hgo
  refine hgo [] _ _ _ _ ?_
  refine cl_ (c_House_isPaper n 0 _ _ hn (by omega)) ?_
  refine brbt (by rw [i3_n (by omega)]; omega) ?_
  refine cl_ (c_House_isKind _ _) ?_
  refine brbt ⟨nI_pos' (by omega), nI_le (b := 5) (by omega) (by omega)⟩ ?_
  refine hgo [] _ _ _ _ ?_
  refine cl_ (c_House_isOf 0 n p kd of _ hn h10 hp hk hk1 hk5 h2) ?_
  refine brb (fun h1 => ?_) (fun h1 => ?_)
  · refine hgo [] _ _ _ _ ?_
    refine cl_ (c_Main_found _ _) ?_
    refine ⟨?_, ?_⟩
    · rw [if_neg h1]; rfl
    · rw [if_neg h1]
  · refine cl_ (c_Main_clean _ _) ?_
    refine hgo [] _ _ _ _ ?_
    refine ⟨?_, ?_⟩
    · rw [if_pos h1]
    · rw [if_pos h1]
theorem c_Ref_as_bad (n : Nat) (x w : Int32) (M : am_M) (hn : M 11 0 4 1 = nI n) (h10 : n ≤ 10) (h : ¬ ((0 ≤ x.toInt ∧ x.toInt < n) ∧ (0 ≤ w.toInt ∧ w.toInt < (6 : Nat)))) : Con 3 mRef_as [aR 11 0 0, aI x, aI w] M (some (aI (-1000001))) (rT M) := by
  refine con_of okRef_as [some (aR 11 0 0), some (aI x), some (aI w)] (some .int) ?_
  intro J hgo
  refine hgo [] _ _ _ _ ?_
  refine cl_ (c_Ref_isPaper n _ _ hn (by omega)) ?_
  refine brb (fun h1 => ?_) (fun h1 => ?_)
  · refine hgo [] _ _ _ _ ?_
    exact ⟨rfl, rfl⟩
  · refine cl_ (c_Ref_in w 0 5 _ _ _ rfl (by decide) (by decide) _) ?_
    refine brbf (fun q => h ⟨h1, ?_⟩) ?_
    · (simp only [vp_in_iff, i3_lt, i3_le, i3_eq, Int32.reduceToInt, i3_m1] at q ⊢ <;> omega)
    · exact ⟨rfl, rfl⟩
theorem c_Ref_as (n p kd of : Nat) (M : am_M) (hn : M 11 0 4 1 = nI n) (h10 : n ≤ 10) (hp : p < n) (hk : M 11 0 4 (28 + 5 * p) = nI kd) (hk1 : 1 ≤ kd) (hk5 : kd ≤ 5) (h2 : of < 6) : Con 3 mRef_as [aR 11 0 0, aI (nI p), aI (nI of)] M (some (aI (if isk kd of = true then nI p else -1000013))) (if isk kd of = true then rS (rT M) 0 else rS (rS (rT M) 0) 3) := by
  refine con_of okRef_as [some (aR 11 0 0), some (aI (nI p)), some (aI (nI of))] (some .int) ?_
  intro J hgo
  refine hgo [] _ _ _ _ ?_
  refine cl_ (c_Ref_isPaper n _ _ hn (by omega)) ?_
  refine brbt (by rw [i3_n (by omega)]; omega) ?_
  refine cl_ (c_Ref_in (nI of) 0 5 _ _ _ rfl (by decide) (by decide) _) ?_
  refine brbt ⟨nI_pos' (by omega), nI_le (b := 5) (by omega) (by omega)⟩ ?_
  refine hgo [] _ _ _ _ ?_
  refine cl_ (c_Ref_of p 0 _ (by omega) (by omega)) ?_
  refine cle (c_Ref_isOf kd of (rS (rT M) 0) (by omega) h2) ?_ rfl ?_
  · show [aI (M 11 0 4 (28 + 5 * p)), aI (nI of)] = _
    rw [hk]
  · refine brb (fun h1 => ?_) (fun h1 => ?_)
    · refine hgo [] _ _ _ _ ?_
      refine cl_ (c_Ref_finding _ _) ?_
      refine ⟨?_, ?_⟩
      · rw [if_neg h1]; rfl
      · rw [if_neg h1]; rfl
    · refine hgo [] _ _ _ _ ?_
      refine ⟨?_, ?_⟩
      · rw [if_pos h1]
      · rw [if_pos h1]
theorem Rel_clean {M : am_M} (hR : Rel M) : Rel (rS (rT (mS M 0)) 0) := by
  refine Rel_keep hR rfl rfl rfl rfl rfl rfl rfl ?_ ?_ rfl rfl
  · intro o ho
    simp only [rS, rT, mS, sA_o ho, sA_k (show (11 : Nat) ≠ 0 by decide)]
  · intro i hi; rcases hi with rfl | rfl | rfl | rfl | rfl <;> rfl
/-- a paper's numbers -/
theorem Rel_pap {M : am_M} (hR : Rel M) {p : Nat} (hp : p < nP (M 11 0 4)) : ∃ kd md la pr re : Nat, (M 4 0 4 p = nI kd ∧ M 11 0 4 (28 + 5 * p) = nI kd ∧ 1 ≤ kd ∧ kd ≤ 5) ∧ (M 4 0 5 p = nI md ∧ M 11 0 4 (29 + 5 * p) = nI md ∧ 1700 ≤ md ∧ md ≤ 1999) ∧ (M 4 0 6 p = nI la ∧ M 11 0 4 (30 + 5 * p) = nI la ∧ md ≤ la ∧ la ≤ 1999) ∧ (M 4 0 7 p = nI pr ∧ M 11 0 4 (31 + 5 * p) = nI pr ∧ pr ≤ 99) ∧ (M 4 0 8 p = nI re ∧ M 11 0 4 (32 + 5 * p) = nI re ∧ 1 ≤ re ∧ re ≤ 99) := by
  obtain ⟨hv, ⟨-, hpp, -⟩, -⟩ := hR.2.2.2.1
  obtain ⟨kd, md, la, pr, re, a1, a2, a3, a4, a5, a6, a7, a8, a9, a10, a11, a12, a13, a14⟩ := hv.2.2.2.2.2.1 p hp
  obtain ⟨b1, b2, b3, b4, b5⟩ := hpp.2 p hp
  exact ⟨kd, md, la, pr, re, ⟨b1.trans a1, a1, a2, a3⟩, ⟨b2.trans a4, a4, a5, a6⟩, ⟨b3.trans a7, a7, a8, a9⟩, ⟨b4.trans a10, a10, a11⟩, ⟨b5.trans a12, a12, a13, a14⟩⟩
theorem op_as (x w : Int32) (M : am_M) (hR : Rel M) : OpAt mMain_as mRef_as [aI x, aI w] M := by
  obtain ⟨h1, h2, h3⟩ := Rel_np hR
  by_cases h : (0 ≤ x.toInt ∧ x.toInt < nP (M 11 0 4)) ∧ (0 ≤ w.toInt ∧ w.toInt < (6 : Nat))
  · obtain ⟨p, hp, rfl⟩ := intN h.1
    obtain ⟨k, hk, rfl⟩ := intN h.2
    obtain ⟨kd, md, la, pr, re, ⟨g1, g2, g3, g4⟩, -⟩ := Rel_pap hR hp
    refine op_mk (c_Main_as _ p kd k M h1 h3 hp g1 g3 g4 hk) (c_Ref_as _ p kd k _ h2 h3 hp g2 g3 g4 hk) ?_
    by_cases hq : isk kd k = true
    · rw [if_pos hq, if_pos hq]; exact Rel_clean hR
    · rw [if_neg hq, if_neg hq]; exact Rel_find hR 3
  · exact op_mk (c_Main_as_bad _ x w M h1 h3 h) (c_Ref_as_bad _ x w M h2 h3 h) (Rel_bad hR)
end
section
/-! feed -/
def byC (w : Int64) (i : Nat) : Int32 := (w.toUInt64 >>> ((8 * nI i).toInt64.toUInt64 &&& Int64.toUInt64 63)).toInt64.toInt32 &&& 255
def byR (w : Int64) (i : Nat) : Int32 := ((w >>> ((8 * nI i).toInt64 &&& 63)) &&& 255).toInt32
theorem lt8 {k : Nat} (h : k < 8) : k = 0 ∨ k = 1 ∨ k = 2 ∨ k = 3 ∨ k = 4 ∨ k = 5 ∨ k = 6 ∨ k = 7 := by omega
theorem byC_bv (w : Int64) {i : Nat} (h : i < 8) : (byC w i).toBitVec = (w.toBitVec >>> (8 * i)).setWidth 32 &&& 255#32 := by
  have hs : ((8 * nI i).toInt64.toUInt64 &&& Int64.toUInt64 63) = UInt64.ofNat (8 * i) := by
    rcases lt8 h with rfl | rfl | rfl | rfl | rfl | rfl | rfl | rfl <;> decide
  have hq : ((UInt64.ofNat (8 * i)).toBitVec % 64).toNat = 8 * i := by
    rcases lt8 h with rfl | rfl | rfl | rfl | rfl | rfl | rfl | rfl <;> decide
  unfold byC
  rw [hs, Int32.toBitVec_and, Int64.toBitVec_toInt32, UInt64.toBitVec_toInt64, UInt64.toBitVec_shiftRight, BitVec.signExtend_eq_setWidth_of_le _ (by omega), BitVec.ushiftRight_eq', hq]
  rfl
theorem byR_bv (w : Int64) {i : Nat} (h : i < 8) : (byR w i).toBitVec = ((w.toBitVec.sshiftRight (8 * i)) &&& 255#64).setWidth 32 := by
  have hs : (8 * nI i).toInt64 &&& 63 = Int64.ofNat (8 * i) := by
    rcases lt8 h with rfl | rfl | rfl | rfl | rfl | rfl | rfl | rfl <;> decide
  have hq : ((Int64.ofNat (8 * i)).toBitVec.smod 64).toNat = 8 * i := by
    rcases lt8 h with rfl | rfl | rfl | rfl | rfl | rfl | rfl | rfl <;> decide
  unfold byR
  rw [hs, Int64.toBitVec_toInt32, Int64.toBitVec_and, Int64.toBitVec_shiftRight, BitVec.signExtend_eq_setWidth_of_le _ (by omega), BitVec.sshiftRight_eq', hq]
  rfl
theorem bit255 (n j : Nat) (hn : 8 ≤ n) : (255#n).getLsbD j = decide (j < 8) := by
  rw [BitVec.getLsbD_ofNat]
  have := Nat.testBit_two_pow_sub_one 8 j
  have e0 : (2 ^ 8 - 1 : Nat) = 255 := rfl
  rw [e0] at this
  rw [this]
  by_cases h : j < 8
  · simp [h]; omega
  · simp [h]
theorem by_eq (w : Int64) {i : Nat} (h : i < 8) : byC w i = byR w i := by
  apply Int32.toBitVec_inj.mp
  rw [byC_bv w h, byR_bv w h]
  apply BitVec.eq_of_getLsbD_eq
  intro j hj
  rw [BitVec.getLsbD_and, BitVec.getLsbD_setWidth, BitVec.getLsbD_setWidth, BitVec.getLsbD_and, bit255 32 j (by omega), bit255 64 j (by omega), BitVec.getLsbD_ushiftRight, BitVec.getLsbD_sshiftRight]
  by_cases h8 : j < 8
  · have h1 : 8 * i + j < 64 := by omega
    have h2 : j < 64 := by omega
    simp [hj, h8, h1, h2]
  · simp [h8]
theorem by_c (w : Int64) {i : Nat} (h : i < 8) : ∃ c, c < 256 ∧ byR w i = nI c := by
  rw [← by_eq w h]
  obtain ⟨c, h1, h2⟩ := pk_andE ((w.toUInt64 >>> ((8 * nI i).toInt64.toUInt64 &&& Int64.toUInt64 63)).toInt64.toInt32) (m := 255) 8 (by decide)
  exact ⟨c, h1, h2⟩
/-- t of the lowest n bytes of w, the highest first, from place a on -/
def fb (g : Nat → Int32) (f : Nat → Int32) (a n : Nat) : Nat → Nat → Int32
  | 0 => f
  | t + 1 => upd (fb g f a n t) (a + t) (g (n - 1 - t))
theorem fb_lo {g f : Nat → Int32} {a n i : Nat} : ∀ {t : Nat}, i < a → fb g f a n t i = f i
  | 0, _ => rfl
  | t + 1, h => by
    show upd (fb g f a n t) (a + t) (g (n - 1 - t)) i = f i
    rw [upd_n (by omega), fb_lo h]
theorem fb_in {g f : Nat → Int32} {a n i : Nat} : ∀ {t : Nat}, i < t → fb g f a n t (a + i) = g (n - 1 - i)
  | 0, h => by omega
  | t + 1, h => by
    show upd (fb g f a n t) (a + t) (g (n - 1 - t)) (a + i) = _
    by_cases he : i = t
    · subst he; exact upd_s
    · rw [upd_n (by omega), fb_in (by omega)]
theorem sA_c {M : am_M} {k j o k2 j2 o2 : Nat} {f g : Nat → Int32} (h : ¬ (k, j, o) = (k2, j2, o2)) : sA (sA M k j o f) k2 j2 o2 g = sA (sA M k2 j2 o2 g) k j o f := by
  funext a b c
  simp only [sA]
  by_cases h1 : a = k2 ∧ b = j2 ∧ c = o2
  · rw [if_pos h1, if_neg (fun q => h (by rw [← q.1, ← q.2.1, ← q.2.2, h1.1, h1.2.1, h1.2.2])), if_pos h1]
  · rw [if_neg h1, if_neg h1]
theorem upd_upd {f : Nat → Int32} {i : Nat} {x y : Int32} : upd (upd f i x) i y = upd f i y := by
  funext q
  simp only [upd]
  split <;> rfl
theorem upd_id {f : Nat → Int32} {i : Nat} : upd f i (f i) = f := by
  funext q
  simp only [upd]
  split
  · next h => rw [h]
  · rfl
theorem c_Tape_hasRoom0 (x : Int32) (M : am_M) : Con 1 mTape_hasRoom [aR 2 0 0, aI x] M (some (aI (b2i (x ≤ 500 - M 2 0 0 1)))) M := by
  refine con_of okTape_hasRoom [some (aR 2 0 0), some (aI x)] (some .boolean) ?_
  intro J hgo
  refine hgo [] _ _ _ _ ?_
  refine br_ (fun h1 => ?_) (fun h1 => ?_)
  · skip
    refine hgo [] _ _ _ _ ?_
    refine ob_ (by first | decide | exact nar_b) ?_
    refine ⟨?_, rfl⟩   -- leaf1
    first | rw [b2i_f (Int32.not_le.mpr h1)] | rw [b2i_t (Int32.not_lt.mp h1)]
  · skip
    refine hgo [] _ _ _ _ ?_
    refine ob_ (by first | decide | exact nar_b) ?_
    refine ⟨?_, rfl⟩   -- leaf2
    first | rw [b2i_f (Int32.not_le.mpr h1)] | rw [b2i_t (Int32.not_lt.mp h1)]
theorem c_Tape_hasRoom (n a : Nat) (M : am_M) (hl : M 2 0 0 1 = nI a) (ha : a ≤ 500) (hn : n ≤ 8) : Con 1 mTape_hasRoom [aR 2 0 0, aI (nI n)] M (some (aI (b2i (a + n ≤ 500)))) M := by
  have := c_Tape_hasRoom0 (nI n) M
  rw [hl, show (500 : Int32) - nI a = nI (500 - a) from pk_sub (a := 500) ha, b2i_iff (q := a + n ≤ 500) (by rw [nI_leI (by omega) (by omega)]; omega)] at this
  exact this
theorem c_Tape_append (w : Int64) (n a : Nat) (M : am_M) (hl : M 2 0 0 1 = nI a) (hn : n ≤ 8) (ha : a + n ≤ 500) : Con 1 mTape_append [aR 2 0 0, aL w, aI (nI n)] M none (sA (sA M 2 0 0 (upd (M 2 0 0) 1 (nI (a + n)))) 2 0 1 (fb (byC w) (M 2 0 1) a n n)) := by
  refine con_of okTape_append [some (aR 2 0 0), some (aL w), none, some (aI (nI n)), none] none ?_
  intro J hgo
  have loop : ∀ m t iv M2, m = n - t → t ≤ n → iv + 1 = nI (n - t) → M2 = sA (sA M 2 0 0 (upd (M 2 0 0) 1 (nI (a + t)))) 2 0 1 (fb (byC w) (M 2 0 1) a n t) → J 5 [some (aR 2 0 0), some (aL w), none, some (aI (nI n)), some (aI iv)] [] M2 := by
    intro m
    induction m with
    | zero =>
      intro t iv M2 hm ht hv hM
      obtain rfl : t = n := by omega
      have hv : iv = -1 := by
        rw [Nat.sub_self] at hv
        have : iv = iv + 1 - 1 := by simp
        rw [this, hv]
        decide
      subst hv
      refine hgo [] _ _ _ _ ?_
      refine brt (by decide) ?_
      refine hgo [] _ _ _ _ ?_
      exact ⟨rfl, hM⟩
    | succ m ih =>
      intro t iv M2 hm ht hv hM
      have hv : iv = nI (n - 1 - t) := by
        have h1 : iv = iv + 1 - 1 := by simp
        obtain ⟨q, hq⟩ : ∃ q, n - t = q + 1 := ⟨n - t - 1, by omega⟩
        rw [h1, hv, hq, nI_pred]
        congr 1
        omega
      subst hv
      have el : M2 2 0 0 1 = nI (a + t) := by rw [hM]; rfl
      refine hgo [] _ _ _ _ ?_
      refine brf (nI_pos (by omega)) ?_
      refine brf (show ¬ 500 ≤ M2 2 0 0 1 by rw [el]; exact nI_ge (b := 500) (by omega) (by omega)) ?_
      refine ob_ (show vp_in (M2 2 0 0 1) 500 by rw [el]; exact vp_in_nI (by omega) (by omega)) ?_
      refine ih (t + 1) _ _ (by omega) (by omega) ?_ ?_
      · have h2 : n - (t + 1) = n - 1 - t := by omega
        rw [h2]
        have h1 : nI (n - 1 - t) + -1 + 1 = nI (n - 1 - t) := by
          rw [Int32.add_assoc]
          have : (-1 : Int32) + 1 = 0 := by decide
          rw [this, Int32.add_zero]
        exact h1
      · have h9 : ((w.toUInt64 >>> ((8 * nI (n - 1 - t)).toInt64.toUInt64 &&& Int64.toUInt64 63)).toInt64.toInt32 &&& 255) = byC w (n - 1 - t) := rfl
        rw [h9, el, cl_nI (by omega), hM]
        simp only [sA_s, sA_sA, sA_o (show (0 : Nat) ≠ 1 by decide), sA_o (show (1 : Nat) ≠ 0 by decide), upd_s]
        rw [sA_c (by decide), sA_sA, upd_upd, nI_1]
        rfl
  refine hgo [5] _ _ _ _ ?_
  refine loop _ 0 _ _ rfl (by omega) ?_ ?_
  · show nI n - 1 + 1 = nI n
    simp
  · show M = sA (sA M 2 0 0 (upd (M 2 0 0) 1 (nI (a + 0)))) 2 0 1 (M 2 0 1)
    rw [Nat.add_zero, ← hl, upd_id, sA_id, sA_id]
/-! the class's feed -/
theorem c_Main_feed_bad (w : Int64) (n : Int32) (M : am_M) (h : ¬ (1 ≤ n ∧ n ≤ 8)) : Con 2 mMain_feed [aR 0 0 0, aL w, aI n] M (some (aI (-1000001))) M := by
  refine con_of okMain_feed [some (aR 0 0 0), some (aL w), none, some (aI n)] (some .int) ?_
  intro J hgo
  refine hgo [] _ _ _ _ ?_
  refine br_ (fun h1 => ?_) (fun h1 => ?_)
  · refine hgo [] _ _ _ _ ?_
    exact ⟨rfl, rfl⟩
  · refine brf (fun h2 => h ?_) ?_
    · (simp only [vp_in_iff, i3_lt, i3_le, i3_eq, Int32.reduceToInt, i3_m1] at h1 h2 ⊢ <;> omega)
    · exact ⟨rfl, rfl⟩
theorem c_Main_feed_full (w : Int64) (n a : Nat) (M : am_M) (hl : M 2 0 0 1 = nI a) (ha : a ≤ 500) (h1 : 1 ≤ n) (hn : n ≤ 8) (h : ¬ a + n ≤ 500) : Con 2 mMain_feed [aR 0 0 0, aL w, aI (nI n)] M (some (aI (-1000003))) M := by
  refine con_of okMain_feed [some (aR 0 0 0), some (aL w), none, some (aI (nI n))] (some .int) ?_
  intro J hgo
  refine hgo [] _ _ _ _ ?_
  refine brf (nI_nlt (b := 1) h1 (by omega)) ?_
  refine brt (nI_le (b := 8) hn (by omega)) ?_
  refine hgo [] _ _ _ _ ?_
  refine cl_ (c_Tape_hasRoom n a _ hl ha hn) ?_
  refine brbf h ?_
  exact ⟨rfl, rfl⟩
theorem c_Main_feed_ok (w : Int64) (n a : Nat) (M : am_M) (hl : M 2 0 0 1 = nI a) (h1 : 1 ≤ n) (hn : n ≤ 8) (h : a + n ≤ 500) : Con 2 mMain_feed [aR 0 0 0, aL w, aI (nI n)] M (some (aI (nI (a + n)))) (sA (sA M 2 0 0 (upd (M 2 0 0) 1 (nI (a + n)))) 2 0 1 (fb (byC w) (M 2 0 1) a n n)) := by
  refine con_of okMain_feed [some (aR 0 0 0), some (aL w), none, some (aI (nI n))] (some .int) ?_
  intro J hgo
  refine hgo [] _ _ _ _ ?_
  refine brf (nI_nlt (b := 1) h1 (by omega)) ?_
  refine brt (nI_le (b := 8) hn (by omega)) ?_
  refine hgo [] _ _ _ _ ?_
  refine cl_ (c_Tape_hasRoom n a _ hl (by omega) hn) ?_
  refine brbt h ?_
  refine hgo [] _ _ _ _ ?_
  refine cl_ (c_Tape_append w n a _ hl hn h) ?_
  exact ⟨rfl, rfl⟩
/-! the reference's -/
theorem c_Ref_feed_bad (w : Int64) (n : Int32) (M : am_M) (h : ¬ (1 ≤ n ∧ n ≤ 8)) : Con 2 mRef_feed [aR 11 0 0, aL w, aI n] M (some (aI (-1000001))) (rT M) := by
  refine con_of okRef_feed [some (aR 11 0 0), some (aL w), none, some (aI n), none] (some .int) ?_
  intro J hgo
  refine hgo [] _ _ _ _ ?_
  refine cl_ (c_Ref_in n 1 8 _ _ _ rfl (by decide) (by decide) _) ?_
  refine brbf h ?_
  exact ⟨rfl, rfl⟩
theorem c_Ref_feed_full (w : Int64) (n a : Nat) (M : am_M) (hl : M 11 0 0 9 = nI a) (ha : a ≤ 500) (h1 : 1 ≤ n) (hn : n ≤ 8) (h : ¬ a + n ≤ 500) : Con 2 mRef_feed [aR 11 0 0, aL w, aI (nI n)] M (some (aI (-1000003))) (rT M) := by
  refine con_of okRef_feed [some (aR 11 0 0), some (aL w), none, some (aI (nI n)), none] (some .int) ?_
  intro J hgo
  refine hgo [] _ _ _ _ ?_
  refine cl_ (c_Ref_in (nI n) 1 8 _ _ _ rfl (by decide) (by decide) _) ?_
  refine brbt ⟨nI_le (a := 1) h1 (by omega), nI_le (b := 8) hn (by omega)⟩ ?_
  refine hgo [] _ _ _ _ ?_
  refine brf (show ¬ M 11 0 0 9 + nI n ≤ 500 by rw [hl, nI_add]; exact nI_ge (a := 500) (by omega) (by omega)) ?_
  exact ⟨rfl, rfl⟩
theorem c_Ref_feed_ok (w : Int64) (n a : Nat) (M : am_M) (hl : M 11 0 0 9 = nI a) (h1 : 1 ≤ n) (hn : n ≤ 8) (h : a + n ≤ 500) : Con 2 mRef_feed [aR 11 0 0, aL w, aI (nI n)] M (some (aI (nI (a + n)))) (sA (sA (rT M) 11 0 0 (upd (rT M 11 0 0) 9 (nI (a + n)))) 11 0 6 (fb (byR w) (M 11 0 6) a n n)) := by
  refine con_of okRef_feed [some (aR 11 0 0), some (aL w), none, some (aI (nI n)), none] (some .int) ?_
  intro J hgo
  have loop : ∀ m t iv M2, m = n - t → t ≤ n → iv + 1 = nI (n - t) → M2 = sA (sA (rT M) 11 0 0 (upd (rT M 11 0 0) 9 (nI (a + t)))) 11 0 6 (fb (byR w) (M 11 0 6) a n t) → J 40 [some (aR 11 0 0), some (aL w), none, some (aI (nI n)), some (aI iv)] [] M2 := by
    intro m
    induction m with
    | zero =>
      intro t iv M2 hm ht hv hM
      obtain rfl : t = n := by omega
      have hv : iv = -1 := by
        rw [Nat.sub_self] at hv
        have : iv = iv + 1 - 1 := by simp
        rw [this, hv]
        decide
      subst hv
      refine hgo [] _ _ _ _ ?_
      refine brt (by decide) ?_
      refine hgo [] _ _ _ _ ?_
      refine ⟨?_, hM⟩
      rw [hM]
      rfl
    | succ m ih =>
      intro t iv M2 hm ht hv hM
      have hv : iv = nI (n - 1 - t) := by
        have h1 : iv = iv + 1 - 1 := by simp
        obtain ⟨q, hq⟩ : ∃ q, n - t = q + 1 := ⟨n - t - 1, by omega⟩
        rw [h1, hv, hq, nI_pred]
        congr 1
        omega
      subst hv
      have el : M2 11 0 0 9 = nI (a + t) := by rw [hM]; rfl
      refine hgo [] _ _ _ _ ?_
      refine brf (nI_pos (by omega)) ?_
      refine ob_ (show vp_in (M2 11 0 0 9) 500 by rw [el]; exact vp_in_nI (by omega) (by omega)) ?_
      refine ih (t + 1) _ _ (by omega) (by omega) ?_ ?_
      · have h2 : n - (t + 1) = n - 1 - t := by omega
        rw [h2]
        have h1 : nI (n - 1 - t) + -1 + 1 = nI (n - 1 - t) := by
          rw [Int32.add_assoc]
          have : (-1 : Int32) + 1 = 0 := by decide
          rw [this, Int32.add_zero]
        exact h1
      · have h9 : ((w >>> ((8 * nI (n - 1 - t)).toInt64 &&& 63)) &&& 255).toInt32 = byR w (n - 1 - t) := rfl
        rw [h9, el, cl_nI (by omega), hM]
        simp only [sA_s, sA_sA, sA_o (show (0 : Nat) ≠ 6 by decide), sA_o (show (6 : Nat) ≠ 0 by decide), upd_s]
        rw [sA_c (by decide), sA_sA, upd_upd, nI_1]
        rfl
  refine hgo [] _ _ _ _ ?_
  refine cl_ (c_Ref_in (nI n) 1 8 _ _ _ rfl (by decide) (by decide) _) ?_
  refine brbt ⟨nI_le (a := 1) h1 (by omega), nI_le (b := 8) hn (by omega)⟩ ?_
  refine hgo [] _ _ _ _ ?_
  refine brt (show M 11 0 0 9 + nI n ≤ 500 by rw [hl, nI_add]; exact nI_le (b := 500) (by omega) (by omega)) ?_
  refine hgo [40] _ _ _ _ ?_
  refine loop _ 0 _ _ rfl (by omega) ?_ ?_
  · show nI n - 1 + 1 = nI n
    simp
  · show rT M = sA (sA (rT M) 11 0 0 (upd (rT M 11 0 0) 9 (nI (a + 0)))) 11 0 6 (M 11 0 6)
    rw [Nat.add_zero, ← hl, show M 11 0 0 9 = rT M 11 0 0 9 from rfl, upd_id, sA_id]
    exact (sA_id (M := rT M) (k := 11) (j := 0) (o := 6)).symm
theorem op_feed (w : Int64) (x : Int32) (M : am_M) (hR : Rel M) : OpAt mMain_feed mRef_feed [aL w, aI x] M := by
  obtain ⟨a, g1, g2, g3, g4⟩ := hR.2.1
  by_cases hx : 1 ≤ x ∧ x ≤ 8
  · obtain ⟨n, hn, rfl⟩ := intN (a := x) (m := 9) (by (simp only [vp_in_iff, i3_lt, i3_le, i3_eq, Int32.reduceToInt, i3_m1] at hx ⊢ <;> omega))
    have h1 : 1 ≤ n := (nI_leI (a := 1) (b := n) (by omega) (by omega)).mp hx.1
    by_cases h : a + n ≤ 500
    · refine op_mk (c_Main_feed_ok w n a M g2 h1 (by omega) h) (c_Ref_feed_ok w n a _ g3 h1 (by omega) h) ?_
      obtain ⟨r1, r2, r3, r4, r5, r6, r7⟩ := hR
      refine ⟨r1, ⟨a + n, h, rfl, rfl, fun i hi => ?_⟩, ⟨r3.1, r3.2⟩, r4, r5, r6, r7⟩
      show fb (byC w) (M 2 0 1) a n n i = fb (byR w) (M 11 0 6) a n n i ∧ ∃ c, c < 256 ∧ fb (byR w) (M 11 0 6) a n n i = nI c
      by_cases hia : i < a
      · rw [fb_lo hia, fb_lo hia]
        exact g4 i hia
      · obtain ⟨q, rfl⟩ : ∃ q, i = a + q := ⟨i - a, by omega⟩
        rw [fb_in (by omega), fb_in (by omega)]
        exact ⟨by_eq w (by omega), by_c w (by omega)⟩
    · exact op_mk (c_Main_feed_full w n a M g2 g1 h1 (by omega) h) (c_Ref_feed_full w n a M g3 g1 h1 (by omega) h) (Rel_bad hR)
  · exact op_mk (c_Main_feed_bad w x M hx) (c_Ref_feed_bad w x M hx) (Rel_bad hR)
end
section
/-! sets as arguments; has, isIn -/
theorem exB_iff {P : Nat → Bool} : ∀ {n : Nat}, exB P n = true ↔ ∃ i, i < n ∧ P i = true
  | 0 => by simp [exB]
  | n + 1 => by
    unfold exB
    rw [Bool.or_eq_true, exB_iff]
    constructor
    · rintro (⟨i, h1, h2⟩ | h)
      · exact ⟨i, by omega, h2⟩
      · exact ⟨n, by omega, h⟩
    · rintro ⟨i, h1, h2⟩
      by_cases hi : i = n
      · subst hi; exact Or.inr h2
      · exact Or.inl ⟨i, by omega, h2⟩
theorem bs_ofx {x : Int32} (h0 : 0 ≤ x.toInt) (h1 : x.toInt < 1024) : ∃ f : Nat → Bool, x = bs f ∧ ∀ i, f i = x.toNatClampNeg.testBit i := by
  refine ⟨fun i => x.toNatClampNeg.testBit i, ?_, fun i => rfl⟩
  have e0 := i3_cl h0
  have e1 := i3_of h0
  have e2 : nI x.toNatClampNeg = bs (fun i => x.toNatClampNeg.testBit i) := by
    apply bs_of
    intro i
    by_cases hi : i < 10
    · simp [hi]
    · have : x.toNatClampNeg < 2 ^ i := Nat.lt_of_lt_of_le (show x.toNatClampNeg < 2 ^ 10 by omega) (Nat.pow_le_pow_right (by omega) (by omega))
      simp [hi, Nat.testBit_lt_two_pow this]
  rw [← e2]
  exact e1
theorem c_Main_has (f : Nat → Bool) (p : Nat) (M : am_M) (hp : p < 10) : Con 1 mMain_has [aI (bs f), aI (nI p)] M (some (aI (b2i (f p = true)))) M := by
  refine con_of okMain_has [some (aI (bs f)), some (aI (nI p))] (some .boolean) ?_
  intro J hgo
  refine hgo [] _ _ _ _ ?_
  refine br_ (fun h1 => ?_) (fun h1 => ?_)
  · refine hgo [] _ _ _ _ ?_
    refine ob_ (by decide) ⟨?_, rfl⟩
    rw [bs_shr f hp] at h1
    rw [b2i_f (b2i_0.mp h1)]
  · refine hgo [] _ _ _ _ ?_
    refine ob_ (by decide) ⟨?_, rfl⟩
    rw [bs_shr f hp] at h1
    rw [b2i_t (Decidable.not_not.mp (fun q => h1 (b2i_0.mpr q)))]
theorem c_Ref_isIn (f : Nat → Bool) (p : Nat) (M : am_M) (hp : p < 10) : Con 1 mRef_isIn [aI (bs f), aI (nI p)] M (some (aI (b2i (f p = true)))) M := by
  refine con_of okRef_isIn [some (aI (bs f)), some (aI (nI p))] (some .boolean) ?_
  intro J hgo
  refine hgo [] _ _ _ _ ?_
  refine br_ (fun h1 => ?_) (fun h1 => ?_)
  · refine hgo [] _ _ _ _ ?_
    refine ob_ (by decide) ⟨?_, rfl⟩
    rw [bs_shr f hp] at h1
    by_cases hf : f p = true
    · rw [b2i_t hf]
    · rw [b2i_f hf] at h1
      exact absurd h1 (by decide)
  · refine hgo [] _ _ _ _ ?_
    refine ob_ (by decide) ⟨?_, rfl⟩
    rw [bs_shr f hp] at h1
    rw [b2i_f (fun q => h1 (b2i_t q))]
/-! the rest of a division -/
theorem i3_rem {x y : Int32} (hx1 : -1000000 < x.toInt) (hx2 : x.toInt < 1000000) (hy : 0 < y.toInt) : (x - x / y * y).toInt = x.toInt.tmod y.toInt := by
  have rx := i3_rng x
  have ry := i3_rng y
  have hne : y ≠ -1 := by
    intro e
    rw [e, i3_m1] at hy
    omega
  have hd := Int32.toInt_div_of_ne_right x y hne
  have h1 : (x.toInt.tdiv y.toInt * y.toInt).natAbs ≤ x.toInt.natAbs := by
    rw [Int.natAbs_mul, Int.natAbs_tdiv]
    exact Nat.div_mul_le_self _ _
  have h2 := Int.mul_tdiv_add_tmod x.toInt y.toInt
  have h3 : y.toInt * x.toInt.tdiv y.toInt = x.toInt.tdiv y.toInt * y.toInt := Int.mul_comm _ _
  have h4 : (x / y * y).toInt = x.toInt.tdiv y.toInt * y.toInt := by
    rw [i3_mul (by rw [hd]; omega) (by rw [hd]; omega), hd]
  rw [i3_sub (by rw [h4]; omega) (by rw [h4]; omega), h4]
  omega
theorem rem_nI {a r : Nat} (ha : a < 1000000) (h0 : 0 < r) (hr : r < 1000000) : nI a - nI a / nI r * nI r = nI (a % r) := pk_rem (by omega) h0 (by omega)
theorem c_House_leftBy (a r : Nat) (M : am_M) (ha : a < 1000000) (h0 : 0 < r) (hr : r < 1000000) : Con 1 mHouse_leftBy [aI (nI a), aI (nI r)] M (some (aI (nI (a % r)))) M := by
  refine con_of okHouse_leftBy [some (aI (nI a)), some (aI (nI r))] (some .int) ?_
  intro J hgo
  refine hgo [] _ _ _ _ ?_
  refine brt (nI_lt (a := 0) h0 (by omega)) ?_
  refine hgo [] _ _ _ _ ?_
  refine ob_ (nI_ne0 h0 (by omega)) ?_
  refine ⟨?_, rfl⟩
  rw [rem_nI ha h0 hr]
theorem c_Math_abs (x : Int32) (M : am_M) : Con 1 mMath_abs [aI x] M (some (aI (if 0 ≤ x then x else -x))) M := by
  refine con_of okMath_abs [some (aI x)] (some .int) ?_
  intro J hgo
  refine hgo [] _ _ _ _ ?_
  refine br_ (fun h1 => ?_) (fun h1 => ?_)
  · refine hgo [] _ _ _ _ ?_
    exact ⟨by rw [if_pos h1], rfl⟩
  · refine hgo [] _ _ _ _ ?_
    exact ⟨by rw [if_neg h1], rfl⟩
theorem c_Math_max (x y : Int32) (M : am_M) : Con 1 mMath_max [aI x, aI y] M (some (aI (if x < y then y else x))) M := by
  refine con_of okMath_max [some (aI x), some (aI y)] (some .int) ?_
  intro J hgo
  refine hgo [] _ _ _ _ ?_
  refine br_ (fun h1 => ?_) (fun h1 => ?_)
  · refine hgo [] _ _ _ _ ?_
    exact ⟨by rw [if_pos h1], rfl⟩
  · refine hgo [] _ _ _ _ ?_
    exact ⟨by rw [if_neg h1], rfl⟩
theorem c_Math_min (x y : Int32) (M : am_M) : Con 1 mMath_min [aI x, aI y] M (some (aI (if y < x then y else x))) M := by
  refine con_of okMath_min [some (aI x), some (aI y)] (some .int) ?_
  intro J hgo
  refine hgo [] _ _ _ _ ?_
  refine br_ (fun h1 => ?_) (fun h1 => ?_)
  · refine hgo [] _ _ _ _ ?_
    exact ⟨by rw [if_pos h1], rfl⟩
  · refine hgo [] _ _ _ _ ?_
    exact ⟨by rw [if_neg h1], rfl⟩
theorem bs_add {f : Nat → Bool} {p : Nat} (hp : p < 10) : bs f ||| (1 : Int32) <<< (nI p &&& 31) = bs (fun i => f i || decide (i = p)) := by
  rw [bs_one hp, bs_or]
theorem bs_or0 {f : Nat → Bool} : bs f ||| 0 = bs f := by
  rw [← bs_0, bs_or]
  exact bs_cong (fun i _ => by simp)
/-! scrap -/
def scF (n : Nat) (kd re : Nat → Nat) (ap : Nat) (p : Nat) : Bool := decide (p < n) && (!(kd p == 5) && (ap % re p == 0))
theorem scF_s {n m : Nat} {kd re : Nat → Nat} {ap p : Nat} : (decide (p < m + 1) && (!(kd p == 5) && (ap % re p == 0))) = ((decide (p < m) && (!(kd p == 5) && (ap % re p == 0))) || (decide (p = m) && (!(kd m == 5) && (ap % re m == 0)))) := by
  by_cases h : p = m
  · subst h; simp
  · have : decide (p < m + 1) = decide (p < m) := by simp; omega
    simp [h, this]
theorem c_House_printedEvery (n ap : Nat) (kd re : Nat → Nat) (M : am_M) (hn : M 4 0 0 4 = nI n) (h10 : n ≤ 10) (hap : ap ≤ 400) (hk : ∀ p, p < n → M 4 0 4 p = nI (kd p) ∧ kd p ≤ 5) (hr : ∀ p, p < n → M 4 0 8 p = nI (re p) ∧ 1 ≤ re p ∧ re p ≤ 99) : Con 2 mHouse_printedEvery [aR 4 0 0, aI (nI ap)] M (some (aI (bs (scF n kd re ap)))) M := by
  refine con_of okHouse_printedEvery [some (aR 4 0 0), some (aI (nI ap)), none, none] (some .int) ?_
  intro J hgo
  have loop : ∀ m p sv pv, m = n - p → p ≤ n → sv = bs (scF p kd re ap) → pv = nI p → J 4 [some (aR 4 0 0), some (aI (nI ap)), some (aI sv), some (aI pv)] [] M := by
    intro m
    induction m with
    | zero =>
      intro p sv pv hm hp hs hv
      obtain rfl : p = n := by omega
      subst hv
      refine hgo [] _ _ _ _ ?_
      refine brt (show M 4 0 0 4 ≤ nI p by rw [hn]; exact nI_le (Nat.le_refl _) (by omega)) ?_
      refine hgo [] _ _ _ _ ?_
      exact ⟨by rw [hs], rfl⟩
    | succ m ih =>
      intro p sv pv hm hp hs hv
      subst hv
      have hpn : p < n := by omega
      have e3 : (nI p).toNatClampNeg = p := cl_nI (by omega)
      obtain ⟨k1, k2⟩ := hk p hpn
      obtain ⟨r1, r2, r3⟩ := hr p hpn
      have nx : (kd p = 5 ∨ ¬ ap % re p = 0) → J 41 [some (aR 4 0 0), some (aI (nI ap)), some (aI sv), some (aI (nI p))] [] M := by
        intro hno
        refine hgo [] _ _ _ _ ?_
        refine ih (p + 1) _ _ (by omega) (by omega) ?_ (nI_1 p)
        rw [hs]
        apply bs_cong
        intro i hi
        simp only [scF]
        rw [scF_s (n := n)]
        by_cases hip : i = p
        · subst hip
          rcases hno with q | q
          · simp [q]
          · simp [q]
        · simp [hip]
      refine hgo [] _ _ _ _ ?_
      refine brf (show ¬ M 4 0 0 4 ≤ nI p by rw [hn]; exact nI_ge hpn (by omega)) ?_
      refine ob_ (vp_in_nI (by omega) (by omega)) ?_
      refine br_ (fun h1 => ?_) (fun h1 => ?_)
      · have h1 : M 4 0 4 (nI p).toNatClampNeg = 5 := h1
        rw [e3, k1] at h1
        exact nx (Or.inl ((nI_eq (b := 5) (by omega) (by omega)).mp h1))
      · have h1 : ¬ M 4 0 4 (nI p).toNatClampNeg = 5 := h1
        rw [e3, k1] at h1
        have h1 : ¬ kd p = 5 := fun q => h1 (by rw [q]; rfl)
        refine ob_ (vp_in_nI (by omega) (by omega)) ?_
        refine cle (c_House_leftBy ap (re p) M (by omega) (by omega) (by omega)) ?_ rfl ?_
        · show [aI (nI ap), aI (M 4 0 8 (nI p).toNatClampNeg)] = _
          rw [e3, r1]
        refine br_ (fun h2 => ?_) (fun h2 => ?_)
        · have h2 : ap % re p = 0 := (nI_eq (b := 0) (by have := Nat.mod_lt ap (show 0 < re p by omega); omega) (by omega)).mp h2
          refine ih (p + 1) _ _ (by omega) (by omega) ?_ (nI_1 p)
          rw [hs, bs_add (by omega)]
          apply bs_cong
          intro i hi
          simp only [scF]
          rw [scF_s (n := n)]
          have h1b : (kd p == 5) = false := by simp [h1]
          simp [h1b, h2]
        · have h2 : ¬ ap % re p = 0 := fun q => h2 (by rw [q]; rfl)
          exact nx (Or.inr h2)
  refine hgo [4] _ _ _ _ ?_
  refine loop _ 0 _ _ rfl (by omega) ?_ rfl
  rw [← bs_0]
  exact bs_cong (fun i _ => by simp [scF])
theorem c_Main_scrap_state (h k : Int32) (M : am_M) (hn : M 4 0 0 0 = nI 0) : Con 4 mMain_scrap [aR 0 0 0, aI h, aI k] M (some (aI (-1000002))) M := by
  refine con_of okMain_scrap [some (aR 0 0 0), some (aI h), some (aI k)] (some .int) ?_
  intro J hgo
  refine hgo [] _ _ _ _ ?_
  refine cl_ (c_House_stands 0 0 _ hn (by omega)) ?_
  refine brbf (by omega) ?_
  exact ⟨rfl, rfl⟩
theorem c_Main_scrap_bad (w : Nat) (h k : Int32) (M : am_M) (hn : M 4 0 0 0 = nI w) (hw : 0 < w) (hw8 : w ≤ 8) (hb : ¬ ((0 ≤ h ∧ h ≤ 400) ∧ (0 ≤ k ∧ k ≤ 400))) : Con 4 mMain_scrap [aR 0 0 0, aI h, aI k] M (some (aI (-1000001))) M := by
  refine con_of okMain_scrap [some (aR 0 0 0), some (aI h), some (aI k)] (some .int) ?_
  intro J hgo
  have fin : J 35 [some (aR 0 0 0), some (aI h), some (aI k)] [] M := by
    refine hgo [] _ _ _ _ ?_
    exact ⟨rfl, rfl⟩
  refine hgo [] _ _ _ _ ?_
  refine cl_ (c_House_stands w 0 _ hn (by omega)) ?_
  refine brbt hw ?_
  refine hgo [35] _ _ _ _ ?_
  refine br_ (fun _ => fin) (fun h1 => ?_)
  refine br_ (fun _ => fin) (fun h2 => ?_)
  refine br_ (fun _ => fin) (fun h3 => ?_)
  refine brf (fun h4 => hb ?_) fin
  (simp only [vp_in_iff, i3_lt, i3_le, i3_eq, Int32.reduceToInt, i3_m1] at h1 h2 h3 h4 ⊢ <;> omega)
theorem c_Main_scrap_ok (w n a b : Nat) (kd re : Nat → Nat) (M : am_M) (hnw : M 4 0 0 0 = nI w) (hw : 0 < w) (hw8 : w ≤ 8) (ha : a ≤ 400) (hb : b ≤ 400) (hn : M 4 0 0 4 = nI n) (h10 : n ≤ 10) (hk : ∀ p, p < n → M 4 0 4 p = nI (kd p) ∧ kd p ≤ 5) (hr : ∀ p, p < n → M 4 0 8 p = nI (re p) ∧ 1 ≤ re p ∧ re p ≤ 99) : Con 4 mMain_scrap [aR 0 0 0, aI (nI a), aI (nI b)] M (some (aI (bs (scF n kd re (a - b + (b - a)))))) M := by
  refine con_of okMain_scrap [some (aR 0 0 0), some (aI (nI a)), some (aI (nI b))] (some .int) ?_
  intro J hgo
  refine hgo [] _ _ _ _ ?_
  refine cl_ (c_House_stands w 0 _ hnw (by omega)) ?_
  refine brbt hw ?_
  refine hgo [] _ _ _ _ ?_
  refine brf (nI_pos (by omega)) ?_
  refine brf (nI_nlt (a := 400) (b := a) (by omega) (by omega)) ?_
  refine brf (nI_pos (by omega)) ?_
  refine brt (nI_le (b := 400) hb (by omega)) ?_
  refine hgo [] _ _ _ _ ?_
  refine cl_ (c_Math_abs _ _) ?_
  refine cle (c_House_printedEvery n (a - b + (b - a)) kd re M hn h10 (by omega) hk hr) ?_ rfl ?_
  · have e0 : (if 0 ≤ nI a - nI b then nI a - nI b else -(nI a - nI b)) = nI (a - b + (b - a)) := by
      by_cases hab : b ≤ a
      · rw [pk_sub hab, if_pos (nI_pos' (by omega))]
        congr 1
        omega
      · have h1 : (nI a - nI b).toInt = (a : Int) - b := pk_sub_toInt (by omega) (by omega)
        rw [if_neg (by simp only [i3_le, Int32.reduceToInt]; omega), Int32.neg_sub, pk_sub (by omega)]
        congr 1
        omega
    rw [e0]
  · exact ⟨rfl, rfl⟩
theorem c_Ref_scrap_state (h k : Int32) (M : am_M) (hn : M 11 0 0 7 = 0) : Con 3 mRef_scrap [aR 11 0 0, aI h, aI k] M (some (aI (-1000002))) (rT M) := by
  refine con_of okRef_scrap [some (aR 11 0 0), some (aI h), some (aI k), none, none] (some .int) ?_
  intro J hgo
  refine hgo [] _ _ _ _ ?_
  refine brt hn ?_
  exact ⟨rfl, rfl⟩
theorem c_Ref_scrap_bad (h k : Int32) (M : am_M) (hn : M 11 0 0 7 = 1) (hb : ¬ ((0 ≤ h ∧ h ≤ 400) ∧ (0 ≤ k ∧ k ≤ 400))) : Con 3 mRef_scrap [aR 11 0 0, aI h, aI k] M (some (aI (-1000001))) (rT M) := by
  refine con_of okRef_scrap [some (aR 11 0 0), some (aI h), some (aI k), none, none] (some .int) ?_
  intro J hgo
  refine hgo [] _ _ _ _ ?_
  refine brf (show ¬ M 11 0 0 7 = 0 by rw [hn]; decide) ?_
  refine hgo [] _ _ _ _ ?_
  refine cl_ (c_Ref_in h 0 400 _ _ _ rfl (by decide) (by decide) _) ?_
  refine brb (fun h1 => ?_) (fun h1 => ?_)
  · refine hgo [] _ _ _ _ ?_
    exact ⟨rfl, rfl⟩
  · refine cl_ (c_Ref_in k 0 400 _ _ _ rfl (by decide) (by decide) _) ?_
    refine brbf (fun q => hb ⟨h1, q⟩) ?_
    exact ⟨rfl, rfl⟩
theorem dvd_abs {a b r : Nat} (hr : 0 < r) : (((a : Int) - b).tmod r = 0) ↔ (a - b + (b - a)) % r = 0 := by
  have h1 : ((a : Int) - b).tmod r = 0 ↔ (r : Int) ∣ ((a : Int) - b) := ⟨Int.dvd_of_tmod_eq_zero, Int.tmod_eq_zero_of_dvd⟩
  rw [h1, ← Nat.dvd_iff_mod_eq_zero, Int.ofNat_dvd_left]
  have e0 : ((a : Int) - b).natAbs = a - b + (b - a) := by omega
  rw [e0]
theorem c_Ref_scrap_ok (n a b : Nat) (kd re : Nat → Nat) (M : am_M) (hth : M 11 0 0 7 = 1) (ha : a ≤ 400) (hb : b ≤ 400) (hn : M 11 0 4 1 = nI n) (h10 : n ≤ 10) (hk : ∀ p, p < n → M 11 0 4 (28 + 5 * p) = nI (kd p) ∧ kd p ≤ 5) (hr : ∀ p, p < n → M 11 0 4 (32 + 5 * p) = nI (re p) ∧ 1 ≤ re p ∧ re p ≤ 99) : Con 3 mRef_scrap [aR 11 0 0, aI (nI a), aI (nI b)] M (some (aI (bs (scF n kd re (a - b + (b - a)))))) (rT M) := by
  refine con_of okRef_scrap [some (aR 11 0 0), some (aI (nI a)), some (aI (nI b)), none, none] (some .int) ?_
  intro J hgo
  have loop : ∀ m p sv pv, m = n - p → p ≤ n → sv = bs (scF p kd re (a - b + (b - a))) → pv = nI p → J 47 [some (aR 11 0 0), some (aI (nI a)), some (aI (nI b)), some (aI sv), some (aI pv)] [] (rT M) := by
    intro m
    induction m with
    | zero =>
      intro p sv pv hm hp hs hv
      obtain rfl : p = n := by omega
      subst hv
      refine hgo [] _ _ _ _ ?_
      refine ob_ (vp_in_nI (n := 1) (N := 198) (by omega) (by omega)) ?_
      refine brt (show M 11 0 4 1 ≤ nI p by rw [hn]; exact nI_le (Nat.le_refl _) (by omega)) ?_
      refine hgo [] _ _ _ _ ?_
      exact ⟨by rw [hs], rfl⟩
    | succ m ih =>
      intro p sv pv hm hp hs hv
      subst hv
      have hpn : p < n := by omega
      obtain ⟨k1, k2⟩ := hk p hpn
      obtain ⟨r1, r2, r3⟩ := hr p hpn
      have nx : (kd p = 5 ∨ ¬ (a - b + (b - a)) % re p = 0) → J 91 [some (aR 11 0 0), some (aI (nI a)), some (aI (nI b)), some (aI sv), some (aI (nI p))] [aI sv] (rT M) := by
        intro hno
        refine hgo [] _ _ _ _ ?_
        refine ih (p + 1) _ _ (by omega) (by omega) ?_ (nI_1 p)
        rw [hs, bs_or0]
        apply bs_cong
        intro i hi
        simp only [scF]
        rw [scF_s (n := n)]
        by_cases hip : i = p
        · subst hip
          rcases hno with q | q
          · simp [q]
          · simp [q]
        · simp [hip]
      refine hgo [] _ _ _ _ ?_
      refine ob_ (vp_in_nI (n := 1) (N := 198) (by omega) (by omega)) ?_
      refine brf (show ¬ M 11 0 4 1 ≤ nI p by rw [hn]; exact nI_ge hpn (by omega)) ?_
      refine cl_ (c_Ref_of p 0 _ (by omega) (by omega)) ?_
      refine br_ (fun h1 => ?_) (fun h1 => ?_)
      · have h1 : M 11 0 4 (28 + 5 * p) = 5 := h1
        rw [k1] at h1
        exact nx (Or.inl ((nI_eq (b := 5) (by omega) (by omega)).mp h1))
      · have h1 : ¬ M 11 0 4 (28 + 5 * p) = 5 := h1
        rw [k1] at h1
        have h1 : ¬ kd p = 5 := fun q => h1 (by rw [q]; rfl)
        refine cl_ (c_Ref_of p 4 _ (by omega) (by omega)) ?_
        have e5 : rT M 11 0 4 (28 + 5 * p + 4) = nI (re p) := by
          show M 11 0 4 (28 + 5 * p + 4) = _
          rw [← r1]
          congr 1
          omega
        refine ob_ (by rw [e5]; exact nI_ne0 (by omega) (by omega)) ?_
        have e6 : (nI a - nI b - (nI a - nI b) / nI (re p) * nI (re p)).toInt = ((a : Int) - b).tmod (re p) := by
          have e7 := i3_n (n := re p) (by omega)
          rw [i3_rem (by rw [pk_sub_toInt (by omega) (by omega)]; omega) (by rw [pk_sub_toInt (by omega) (by omega)]; omega) (by omega), pk_sub_toInt (by omega) (by omega), e7]
        rw [e5]
        refine br_ (fun h2 => ?_) (fun h2 => ?_)
        · have h2 : (a - b + (b - a)) % re p = 0 := by
            rw [← dvd_abs (by omega), ← e6, h2]
            rfl
          refine hgo [] _ _ _ _ ?_
          refine ih (p + 1) _ _ (by omega) (by omega) ?_ (nI_1 p)
          rw [hs, bs_add (by omega)]
          apply bs_cong
          intro i hi
          simp only [scF]
          rw [scF_s (n := n)]
          have h1b : (kd p == 5) = false := by simp [h1]
          simp [h1b, h2]
        · refine nx (Or.inr (fun q => h2 ?_))
          rw [← dvd_abs (by omega), ← e6] at q
          exact Int32.toInt_inj.mp (by rw [q]; rfl)
  refine hgo [] _ _ _ _ ?_
  refine brf (show ¬ M 11 0 0 7 = 0 by rw [hth]; decide) ?_
  refine hgo [] _ _ _ _ ?_
  refine cl_ (c_Ref_in (nI a) 0 400 _ _ _ rfl (by decide) (by decide) _) ?_
  refine brbt ⟨nI_pos' (by omega), nI_le (b := 400) ha (by omega)⟩ ?_
  refine cl_ (c_Ref_in (nI b) 0 400 _ _ _ rfl (by decide) (by decide) _) ?_
  refine brbt ⟨nI_pos' (by omega), nI_le (b := 400) hb (by omega)⟩ ?_
  refine hgo [47] _ _ _ _ ?_
  refine loop _ 0 _ _ rfl (by omega) ?_ rfl
  rw [← bs_0]
  exact bs_cong (fun i _ => by simp [scF])
/-- the papers' numbers as functions -/
theorem Rel_papF {M : am_M} (hR : Rel M) : (∀ p, p < nP (M 11 0 4) → M 4 0 4 p = nI (hN (M 11 0 4) (28 + 5 * p)) ∧ M 11 0 4 (28 + 5 * p) = nI (hN (M 11 0 4) (28 + 5 * p)) ∧ 1 ≤ hN (M 11 0 4) (28 + 5 * p) ∧ hN (M 11 0 4) (28 + 5 * p) ≤ 5) ∧ (∀ p, p < nP (M 11 0 4) → M 4 0 8 p = nI (hN (M 11 0 4) (32 + 5 * p)) ∧ M 11 0 4 (32 + 5 * p) = nI (hN (M 11 0 4) (32 + 5 * p)) ∧ 1 ≤ hN (M 11 0 4) (32 + 5 * p) ∧ hN (M 11 0 4) (32 + 5 * p) ≤ 99) := by
  refine ⟨fun p hp => ?_, fun p hp => ?_⟩
  · obtain ⟨kd, md, la, pr, re, ⟨g1, g2, g3, g4⟩, -⟩ := Rel_pap hR hp
    have : hN (M 11 0 4) (28 + 5 * p) = kd := by unfold hN; rw [g2]; exact cl_nI (by omega)
    rw [this]
    exact ⟨g1, g2, g3, g4⟩
  · obtain ⟨kd, md, la, pr, re, -, -, -, -, g1, g2, g3, g4⟩ := Rel_pap hR hp
    have : hN (M 11 0 4) (32 + 5 * p) = re := by unfold hN; rw [g2]; exact cl_nI (by omega)
    rw [this]
    exact ⟨g1, g2, g3, g4⟩
theorem Rel_there {M : am_M} (hR : Rel M) : (nW (M 11 0 4) = 0 ∧ M 11 0 0 7 = 0) ∨ (0 < nW (M 11 0 4) ∧ M 11 0 0 7 = 1) := by
  have h := hR.2.2.2.1.2.2.1
  by_cases hw : 0 < nW (M 11 0 4)
  · exact Or.inr ⟨hw, by rw [h, b2i_t hw]⟩
  · exact Or.inl ⟨by omega, by rw [h, b2i_f hw]⟩
theorem op_scrap (h k : Int32) (M : am_M) (hR : Rel M) : OpAt mMain_scrap mRef_scrap [aI h, aI k] M := by
  obtain ⟨w1, w2, w3⟩ := Rel_nw hR
  obtain ⟨p1, p2, p3⟩ := Rel_np hR
  rcases Rel_there hR with ⟨t1, t2⟩ | ⟨t1, t2⟩
  · rw [t1] at w1
    exact op_mk (c_Main_scrap_state h k M w1) (c_Ref_scrap_state h k M t2) (Rel_bad hR)
  · by_cases hb : (0 ≤ h ∧ h ≤ 400) ∧ (0 ≤ k ∧ k ≤ 400)
    · obtain ⟨a, ha, rfl⟩ := intN (a := h) (m := 401) (by have := hb.1; (simp only [vp_in_iff, i3_lt, i3_le, i3_eq, Int32.reduceToInt, i3_m1] at this ⊢ <;> omega))
      obtain ⟨b, hb2, rfl⟩ := intN (a := k) (m := 401) (by have := hb.2; (simp only [vp_in_iff, i3_lt, i3_le, i3_eq, Int32.reduceToInt, i3_m1] at this ⊢ <;> omega))
      obtain ⟨f1, f2⟩ := Rel_papF hR
      exact op_mk (c_Main_scrap_ok _ _ a b (fun p => hN (M 11 0 4) (28 + 5 * p)) (fun p => hN (M 11 0 4) (32 + 5 * p)) M w1 t1 w3 (by omega) (by omega) p1 p3 (fun p hp => ⟨(f1 p hp).1, (f1 p hp).2.2.2⟩) (fun p hp => ⟨(f2 p hp).1, (f2 p hp).2.2⟩)) (c_Ref_scrap_ok _ a b (fun p => hN (M 11 0 4) (28 + 5 * p)) (fun p => hN (M 11 0 4) (32 + 5 * p)) M t2 (by omega) (by omega) p2 p3 (fun p hp => ⟨(f1 p hp).2.1, (f1 p hp).2.2.2⟩) (fun p hp => ⟨(f2 p hp).2.1, (f2 p hp).2.2⟩)) (Rel_bad hR)
    · exact op_mk (c_Main_scrap_bad _ h k M w1 t1 w3 hb) (c_Ref_scrap_bad h k M t2 hb) (Rel_bad hR)
end
section
/-! tells -/
theorem lt11 {k : Nat} (h : k < 11) : k = 0 ∨ k = 1 ∨ k = 2 ∨ k = 3 ∨ k = 4 ∨ k = 5 ∨ k = 6 ∨ k = 7 ∨ k = 8 ∨ k = 9 ∨ k = 10 := by omega
theorem shl1 {n : Nat} (h : n < 11) : (1 : Int32) <<< (nI n &&& 31) = nI (2 ^ n) := by
  rcases lt11 h with rfl | rfl | rfl | rfl | rfl | rfl | rfl | rfl | rfl | rfl | rfl <;> decide
theorem p2le {n : Nat} (h : n < 11) : 2 ^ n ≤ 1024 := by
  rcases lt11 h with rfl | rfl | rfl | rfl | rfl | rfl | rfl | rfl | rfl | rfl | rfl <;> decide
theorem c_Main_isSetOf (x : Int32) (n : Nat) (M : am_M) (hn : n < 11) : Con 1 mMain_isSetOf [aI x, aI (nI n)] M (some (aI (b2i (0 ≤ x.toInt ∧ x.toInt < (2 ^ n : Nat))))) M := by
  have e0 := i3_n (n := 2 ^ n) (by have := p2le hn; omega)
  refine con_of okMain_isSetOf [some (aI x), some (aI (nI n))] (some .boolean) ?_
  intro J hgo
  refine hgo [] _ _ _ _ ?_
  refine br_ (fun h1 => ?_) (fun h1 => ?_)
  · refine hgo [] _ _ _ _ ?_
    refine ob_ (by decide) ⟨?_, rfl⟩
    simp only [i3_lt, Int32.reduceToInt] at h1
    rw [b2i_f (by omega)]
  · refine br_ (fun h2 => ?_) (fun h2 => ?_)
    · refine hgo [] _ _ _ _ ?_
      refine ob_ (by decide) ⟨?_, rfl⟩
      rw [shl1 hn] at h2
      simp only [i3_lt, i3_le, Int32.reduceToInt] at h1 h2
      rw [b2i_f (by omega)]
    · refine hgo [] _ _ _ _ ?_
      refine ob_ (by decide) ⟨?_, rfl⟩
      rw [shl1 hn] at h2
      simp only [i3_lt, i3_le, Int32.reduceToInt] at h1 h2
      rw [b2i_t (by omega)]
def bad2 (re : Nat → Nat) (f : Nat → Bool) (len a b : Nat) : Bool := f a && (f b && (re a % len == re b % len))
def tbB (n : Nat) (re : Nat → Nat) (f : Nat → Bool) (len : Nat) : Bool := !exB (fun b => exB (fun a => bad2 re f len a b) b) n
theorem tbB_f {n : Nat} {re : Nat → Nat} {f : Nat → Bool} {len a b : Nat} (hab : a < b) (hb : b < n) (h : bad2 re f len a b = true) : tbB n re f len = false := by
  unfold tbB
  have h1 : exB (fun b => exB (fun a => bad2 re f len a b) b) n = true := exB_iff.mpr ⟨b, hb, exB_iff.mpr ⟨a, hab, h⟩⟩
  rw [h1]
  rfl
theorem tbB_t {n : Nat} {re : Nat → Nat} {f : Nat → Bool} {len : Nat} (h : ∀ a b, a < b → b < n → bad2 re f len a b = false) : tbB n re f len = true := by
  unfold tbB
  rw [Bool.not_eq_true', ← Bool.not_eq_true]
  intro q
  obtain ⟨b, hb, q2⟩ := exB_iff.mp q
  obtain ⟨a, ha, q3⟩ := exB_iff.mp q2
  rw [h a b ha hb] at q3
  cases q3
theorem c_House_isToldBy (n len : Nat) (re : Nat → Nat) (f : Nat → Bool) (M : am_M) (hn : M 4 0 0 4 = nI n) (h10 : n ≤ 10) (hl : 1 ≤ len) (hl2 : len ≤ 99) (hr : ∀ p, p < n → M 4 0 8 p = nI (re p) ∧ 1 ≤ re p ∧ re p ≤ 99) : Con 2 mHouse_isToldBy [aR 4 0 0, aI (bs f), aI (nI len)] M (some (aI (b2i (tbB n re f len = true)))) M := by
  refine con_of okHouse_isToldBy [some (aR 4 0 0), some (aI (bs f)), some (aI (nI len)), none, none, none] (some .boolean) ?_
  intro J hgo
  have outer : ∀ m a av (y z : Option am_V), m = n - a → a ≤ n → av = nI a → (∀ a2 b, a2 < a → a2 < b → b < n → bad2 re f len a2 b = false) → J 2 [some (aR 4 0 0), some (aI (bs f)), some (aI (nI len)), some (aI av), y, z] [] M := by
    intro m
    induction m with
    | zero =>
      intro a av y z hm ha hv hI
      obtain rfl : a = n := by omega
      subst hv
      refine hgo [] _ _ _ _ ?_
      refine brt (show M 4 0 0 4 ≤ nI a by rw [hn]; exact nI_le (Nat.le_refl _) (by omega)) ?_
      refine hgo [] _ _ _ _ ?_
      refine ob_ (by decide) ⟨?_, rfl⟩
      rw [b2i_t (tbB_t (fun a2 b h1 h2 => hI a2 b (by omega) h1 h2))]
    | succ m ih =>
      intro a av y z hm ha hv hI
      subst hv
      have han : a < n := by omega
      obtain ⟨r1, r2, r3⟩ := hr a han
      have inner : ∀ q b bv (z : Option am_V), q = n - b → a < b → b ≤ n → bv = nI b → (∀ b2, a < b2 → b2 < b → bad2 re f len a b2 = false) → J 15 [some (aR 4 0 0), some (aI (bs f)), some (aI (nI len)), some (aI (nI a)), some (aI bv), z] [] M := by
        intro q
        induction q with
        | zero =>
          intro b bv z hq hab hb hv hI2
          obtain rfl : b = n := by omega
          subst hv
          refine hgo [] _ _ _ _ ?_
          refine brt (show M 4 0 0 4 ≤ nI b by rw [hn]; exact nI_le (Nat.le_refl _) (by omega)) ?_
          refine hgo [] _ _ _ _ ?_
          refine ih (a + 1) _ _ _ (by omega) (by omega) (nI_1 a) (fun a2 b2 h1 h2 h3 => ?_)
          by_cases he : a2 = a
          · subst he; exact hI2 b2 h2 h3
          · exact hI a2 b2 (by omega) h2 h3
        | succ q ih2 =>
          intro b bv z hq hab hb hv hI2
          subst hv
          have hbn : b < n := by omega
          obtain ⟨s1, s2, s3⟩ := hr b hbn
          have nx : ∀ z : Option am_V, bad2 re f len a b = false → J 79 [some (aR 4 0 0), some (aI (bs f)), some (aI (nI len)), some (aI (nI a)), some (aI (nI b)), z] [] M := by
            intro z hg
            refine hgo [] _ _ _ _ ?_
            refine ih2 (b + 1) _ _ (by omega) (by omega) (by omega) (nI_1 b) (fun b2 h1 h2 => ?_)
            by_cases he : b2 = b
            · subst he; exact hg
            · exact hI2 b2 h1 (by omega)
          refine hgo [] _ _ _ _ ?_
          refine brf (show ¬ M 4 0 0 4 ≤ nI b by rw [hn]; exact nI_ge hbn (by omega)) ?_
          refine cl_ (c_Main_has f a _ (by omega)) ?_
          refine brb (fun h1 => ?_) (fun h1 => ?_)
          · refine hgo [] _ _ _ _ ?_
            refine brt rfl ?_
            exact nx _ (by simp [bad2, h1])
          · refine cl_ (c_Main_has f b _ (by omega)) ?_
            refine brb (fun h2 => ?_) (fun h2 => ?_)
            · refine hgo [] _ _ _ _ ?_
              refine brt rfl ?_
              exact nx _ (by simp [bad2, h2])
            · refine hgo [] _ _ _ _ ?_
              refine brf (by decide) ?_
              refine ob_ (vp_in_nI (by omega) (by omega)) ?_
              refine cle (c_House_leftBy (re a) len M (by omega) (by omega) (by omega)) ?_ rfl ?_
              · show [aI (M 4 0 8 (nI a).toNatClampNeg), aI (nI len)] = _
                rw [cl_nI (by omega), r1]
              refine ob_ (vp_in_nI (by omega) (by omega)) ?_
              refine cle (c_House_leftBy (re b) len M (by omega) (by omega) (by omega)) ?_ rfl ?_
              · show [aI (M 4 0 8 (nI b).toNatClampNeg), aI (nI len)] = _
                rw [cl_nI (by omega), s1]
              have l1 := Nat.mod_lt (re a) (show 0 < len by omega)
              have l2 := Nat.mod_lt (re b) (show 0 < len by omega)
              refine br_ (fun h3 => ?_) (fun h3 => ?_)
              · have h3 : re a % len = re b % len := (nI_eq (by omega) (by omega)).mp h3
                refine ob_ (by decide) ⟨?_, rfl⟩
                rw [b2i_f (by rw [tbB_f hab hbn (by simp [bad2, h1, h2, h3])]; decide)]
              · have h3 : ¬ re a % len = re b % len := fun e => h3 (by rw [e])
                exact nx _ (by simp [bad2, h3])
      refine hgo [15] _ _ _ _ ?_
      refine brf (show ¬ M 4 0 0 4 ≤ nI a by rw [hn]; exact nI_ge han (by omega)) ?_
      exact inner _ (a + 1) _ _ rfl (by omega) (by omega) (nI_1 a) (fun b2 h1 h2 => by omega)
  refine hgo [2] _ _ _ _ ?_
  exact outer _ 0 _ _ _ rfl (by omega) rfl (fun a2 b h1 => by omega)
def tlF (n : Nat) (re : Nat → Nat) (f : Nat → Bool) : Nat → Nat → Int32
  | 0, _ => -1000000
  | m + 1, l => if tbB n re f l = true then nI l else tlF n re f m (l + 1)
theorem c_Main_tells_state (x : Int32) (M : am_M) (hn : M 4 0 0 0 = nI 0) : Con 4 mMain_tells [aR 0 0 0, aI x] M (some (aI (-1000002))) M := by
  refine con_of okMain_tells [some (aR 0 0 0), some (aI x), none] (some .int) ?_
  intro J hgo
  refine hgo [] _ _ _ _ ?_
  refine cl_ (c_House_stands 0 0 _ hn (by omega)) ?_
  refine brbf (by omega) ?_
  exact ⟨rfl, rfl⟩
theorem c_Main_tells_bad (w n : Nat) (x : Int32) (M : am_M) (hnw : M 4 0 0 0 = nI w) (hw : 0 < w) (hw8 : w ≤ 8) (hn : M 4 0 0 4 = nI n) (h10 : n ≤ 10) (hb : ¬ (0 ≤ x.toInt ∧ x.toInt < (2 ^ n : Nat))) : Con 4 mMain_tells [aR 0 0 0, aI x] M (some (aI (-1000001))) M := by
  refine con_of okMain_tells [some (aR 0 0 0), some (aI x), none] (some .int) ?_
  intro J hgo
  refine hgo [] _ _ _ _ ?_
  refine cl_ (c_House_stands w 0 _ hnw (by omega)) ?_
  refine brbt hw ?_
  refine hgo [] _ _ _ _ ?_
  refine cle (c_Main_isSetOf x n M (by omega)) (by show [aI x, aI (M 4 0 0 4)] = _; rw [hn]) rfl ?_
  refine brbf hb ?_
  exact ⟨rfl, rfl⟩
theorem c_Main_tells_ok (w n : Nat) (x : Int32) (f : Nat → Bool) (re : Nat → Nat) (M : am_M) (hnw : M 4 0 0 0 = nI w) (hw : 0 < w) (hw8 : w ≤ 8) (hn : M 4 0 0 4 = nI n) (h10 : n ≤ 10) (hb : 0 ≤ x.toInt ∧ x.toInt < (2 ^ n : Nat)) (hx : x = bs f) (hr : ∀ p, p < n → M 4 0 8 p = nI (re p) ∧ 1 ≤ re p ∧ re p ≤ 99) : Con 4 mMain_tells [aR 0 0 0, aI x] M (some (aI (tlF n re f 99 1))) M := by
  refine con_of okMain_tells [some (aR 0 0 0), some (aI x), none] (some .int) ?_
  intro J hgo
  have loop : ∀ m l lv, l + m = 100 → lv = nI l → 1 ≤ l → tlF n re f m l = tlF n re f 99 1 → J 32 [some (aR 0 0 0), some (aI x), some (aI lv)] [] M := by
    intro m
    induction m with
    | zero =>
      intro l lv hm hv hl he
      obtain rfl : l = 100 := by omega
      subst hv
      refine hgo [] _ _ _ _ ?_
      refine brt (by decide) ?_
      refine hgo [] _ _ _ _ ?_
      exact ⟨by rw [← he]; rfl, rfl⟩
    | succ m ih =>
      intro l lv hm hv hl he
      subst hv
      refine hgo [] _ _ _ _ ?_
      refine brf (nI_nlt (a := 99) (b := l) (by omega) (by omega)) ?_
      refine cle (c_House_isToldBy n l re f M hn h10 hl (by omega) hr) (by rw [hx]) rfl ?_
      refine brb (fun h1 => ?_) (fun h1 => ?_)
      · refine hgo [] _ _ _ _ ?_
        refine ih (l + 1) _ (by omega) (nI_1 l) (by omega) ?_
        rw [← he]
        show _ = if tbB n re f l = true then nI l else tlF n re f m (l + 1)
        rw [if_neg h1]
      · refine ⟨?_, rfl⟩
        rw [← he]
        show _ = some (aI (if tbB n re f l = true then nI l else tlF n re f m (l + 1)))
        rw [if_pos h1]
  refine hgo [] _ _ _ _ ?_
  refine cl_ (c_House_stands w 0 _ hnw (by omega)) ?_
  refine brbt hw ?_
  refine hgo [] _ _ _ _ ?_
  refine cle (c_Main_isSetOf x n M (by omega)) (by show [aI x, aI (M 4 0 0 4)] = _; rw [hn]) rfl ?_
  refine brbt hb ?_
  refine hgo [32] _ _ _ _ ?_
  exact loop 99 1 _ rfl rfl (by omega) rfl
/-! the reference -/
theorem c_Ref_tellsBy (n len : Nat) (re : Nat → Nat) (f : Nat → Bool) (M : am_M) (hn : M 11 0 4 1 = nI n) (h10 : n ≤ 10) (hl : 1 ≤ len) (hl2 : len ≤ 99) (hr : ∀ p, p < n → M 11 0 4 (32 + 5 * p) = nI (re p) ∧ 1 ≤ re p ∧ re p ≤ 99) : Con 2 mRef_tellsBy [aR 11 0 0, aI (bs f), aI (nI len)] M (some (aI (b2i (tbB n re f len = true)))) M := by
  have hr2 : ∀ p, p < n → M 11 0 4 (28 + 5 * p + 4) = nI (re p) := by
    intro p hp
    rw [← (hr p hp).1]
    congr 1
    omega
  refine con_of okRef_tellsBy [some (aR 11 0 0), some (aI (bs f)), some (aI (nI len)), none, none, none, none] (some .boolean) ?_
  intro J hgo
  have outer : ∀ m b bv iv (y z : Option am_V), m = n - b → b ≤ n → bv = nI b → iv = b2i (tbB b re f len = true) → J 5 [some (aR 11 0 0), some (aI (bs f)), some (aI (nI len)), some (aI iv), some (aI bv), y, z] [] M := by
    intro m
    induction m with
    | zero =>
      intro b bv iv y z hm hb hv hi
      obtain rfl : b = n := by omega
      subst hv
      refine hgo [] _ _ _ _ ?_
      refine ob_ (vp_in_nI (n := 1) (N := 198) (by omega) (by omega)) ?_
      refine brt (show M 11 0 4 1 ≤ nI b by rw [hn]; exact nI_le (Nat.le_refl _) (by omega)) ?_
      refine hgo [] _ _ _ _ ?_
      refine ob_ (by rw [hi]; exact nar_b) ⟨?_, rfl⟩
      rw [hi]
    | succ m ih =>
      intro b bv iv y z hm hb hv hi
      subst hv
      have hbn : b < n := by omega
      obtain ⟨s1, s2, s3⟩ := hr b hbn
      have inner : ∀ q a av iv (z : Option am_V), q = b - a → a ≤ b → av = nI a → iv = b2i ((tbB b re f len && !exB (fun a => bad2 re f len a b) a) = true) → J 19 [some (aR 11 0 0), some (aI (bs f)), some (aI (nI len)), some (aI iv), some (aI (nI b)), some (aI av), z] [] M := by
        intro q
        induction q with
        | zero =>
          intro a av iv z hq ha hv hi
          obtain rfl : a = b := by omega
          subst hv
          refine hgo [] _ _ _ _ ?_
          refine brt (nI_le (Nat.le_refl _) (by omega)) ?_
          refine hgo [] _ _ _ _ ?_
          refine ih (a + 1) _ _ _ _ (by omega) (by omega) (nI_1 a) ?_
          rw [hi]
          apply b2i_iff
          have : tbB (a + 1) re f len = (tbB a re f len && !exB (fun a2 => bad2 re f len a2 a) a) := by
            simp only [tbB, exB, Bool.not_or]
          rw [this]
        | succ q ih2 =>
          intro a av iv z hq ha hv hi
          subst hv
          obtain ⟨r1, r2, r3⟩ := hr a (by omega)
          have key : ∀ c : Bool, (tbB b re f len && !exB (fun a => bad2 re f len a b) (a + 1)) = ((tbB b re f len && !exB (fun a => bad2 re f len a b) a) && !bad2 re f len a b) := by
            intro _
            simp only [exB, Bool.not_or, Bool.and_assoc]
          have st : ∀ (z : Option am_V) (r : Int32), r = b2i (((tbB b re f len && !exB (fun a => bad2 re f len a b) a) && !bad2 re f len a b) = true) → J 86 [some (aR 11 0 0), some (aI (bs f)), some (aI (nI len)), some (aI iv), some (aI (nI b)), some (aI (nI a)), z] [aI r] M := by
            intro z r hr0
            refine hgo [] _ _ _ _ ?_
            refine ih2 (a + 1) _ _ _ (by omega) (by omega) (nI_1 a) ?_
            rw [hr0]
            apply b2i_iff
            rw [key true]
          have dead : ∀ z : Option am_V, iv = 0 → J 85 [some (aR 11 0 0), some (aI (bs f)), some (aI (nI len)), some (aI iv), some (aI (nI b)), some (aI (nI a)), z] [] M := by
            intro z h0
            refine hgo [86] _ _ _ _ ?_
            refine st _ _ ?_
            rw [hi] at h0
            have h0 := b2i_0.mp h0
            rw [b2i_f (fun q => h0 ((Bool.and_eq_true _ _).mp q).1)]
          have live : ∀ z : Option am_V, ¬ iv = 0 → bad2 re f len a b = false → J 81 [some (aR 11 0 0), some (aI (bs f)), some (aI (nI len)), some (aI iv), some (aI (nI b)), some (aI (nI a)), z] [] M := by
            intro z h0 hg
            refine hgo [] _ _ _ _ ?_
            refine st _ _ ?_
            rw [hi] at h0
            have h0 := Decidable.not_not.mp (fun q => h0 (b2i_0.mpr q))
            rw [b2i_t (by rw [h0, hg]; rfl)]
          refine hgo [] _ _ _ _ ?_
          refine brf (nI_ge (by omega) (by omega)) ?_
          refine cl_ (c_Ref_isIn f b _ (by omega)) ?_
          refine brb (fun h1 => ?_) (fun h1 => ?_)
          · refine hgo [] _ _ _ _ ?_
            refine br_ (fun h0 => dead _ h0) (fun h0 => ?_)
            refine brt rfl ?_
            exact live _ h0 (by simp [bad2, h1])
          · refine cl_ (c_Ref_isIn f a _ (by omega)) ?_
            refine brb (fun h2 => ?_) (fun h2 => ?_)
            · refine hgo [] _ _ _ _ ?_
              refine br_ (fun h0 => dead _ h0) (fun h0 => ?_)
              refine brt rfl ?_
              exact live _ h0 (by simp [bad2, h2])
            · refine hgo [] _ _ _ _ ?_
              refine br_ (fun h0 => dead _ h0) (fun h0 => ?_)
              refine brf (by decide) ?_
              refine cl_ (c_Ref_of b 4 _ (by omega) (by omega)) ?_
              rw [hr2 b hbn]
              refine ob_ (nI_ne0 (by omega) (by omega)) ?_
              refine cl_ (c_Ref_of a 4 _ (by omega) (by omega)) ?_
              rw [hr2 a (by omega)]
              refine ob_ (nI_ne0 (by omega) (by omega)) ?_
              rw [rem_nI (by omega) (by omega) (by omega), rem_nI (by omega) (by omega) (by omega)]
              have l1 := Nat.mod_lt (re a) (show 0 < len by omega)
              have l2 := Nat.mod_lt (re b) (show 0 < len by omega)
              refine br_ (fun h3 => ?_) (fun h3 => ?_)
              · have h3 : re b % len = re a % len := (nI_eq (by omega) (by omega)).mp h3
                refine hgo [86] _ _ _ _ ?_
                refine st _ _ ?_
                rw [b2i_f (by simp [bad2, h1, h2, h3])]
              · have h3 : ¬ re a % len = re b % len := fun e => h3 (by rw [e])
                refine st _ _ ?_
                rw [hi] at h0
                have h0 := Decidable.not_not.mp (fun q => h0 (b2i_0.mpr q))
                rw [b2i_t (by rw [h0]; simp [bad2, h3])]
      refine hgo [19] _ _ _ _ ?_
      refine ob_ (vp_in_nI (n := 1) (N := 198) (by omega) (by omega)) ?_
      refine brf (show ¬ M 11 0 4 1 ≤ nI b by rw [hn]; exact nI_ge hbn (by omega)) ?_
      refine inner _ 0 _ _ _ rfl (by omega) rfl ?_
      rw [hi]
      apply b2i_iff
      simp [exB]
  refine hgo [5] _ _ _ _ ?_
  exact outer _ 0 _ _ _ _ rfl (by omega) rfl rfl
theorem c_Ref_tells_state (x : Int32) (M : am_M) (hn : M 11 0 0 7 = 0) : Con 4 mRef_tells [aR 11 0 0, aI x] M (some (aI (-1000002))) (rT M) := by
  refine con_of okRef_tells [some (aR 11 0 0), some (aI x), none] (some .int) ?_
  intro J hgo
  refine hgo [] _ _ _ _ ?_
  refine brt hn ?_
  exact ⟨rfl, rfl⟩
theorem setIn {x : Int32} {n : Nat} (hn : n < 11) : (0 ≤ x ∧ x ≤ (1 : Int32) <<< (nI n &&& 31) - 1) ↔ (0 ≤ x.toInt ∧ x.toInt < (2 ^ n : Nat)) := by
  have h1 := p2le hn
  have h2 : 0 < 2 ^ n := Nat.two_pow_pos n
  have h3 : nI (2 ^ n) - 1 = nI (2 ^ n - 1) := pk_sub (a := 2 ^ n) (b := 1) h2
  rw [shl1 hn, h3]
  have e0 := i3_n (n := 2 ^ n - 1) (by omega)
  simp only [i3_le, Int32.reduceToInt]
  rw [e0]
  omega
theorem c_Ref_tells_bad (n : Nat) (x : Int32) (M : am_M) (hth : M 11 0 0 7 = 1) (hn : M 11 0 4 1 = nI n) (h10 : n ≤ 10) (hb : ¬ (0 ≤ x.toInt ∧ x.toInt < (2 ^ n : Nat))) : Con 4 mRef_tells [aR 11 0 0, aI x] M (some (aI (-1000001))) (rT M) := by
  refine con_of okRef_tells [some (aR 11 0 0), some (aI x), none] (some .int) ?_
  intro J hgo
  refine hgo [] _ _ _ _ ?_
  refine brf (show ¬ M 11 0 0 7 = 0 by rw [hth]; decide) ?_
  refine hgo [] _ _ _ _ ?_
  refine ob_ (vp_in_nI (n := 1) (N := 198) (by omega) (by omega)) ?_
  refine cl_ (c_Ref_in x 0 ((1 : Int32) <<< (M 11 0 4 1 &&& 31) - 1) _ _ _ rfl (by decide) rfl _) ?_
  refine brbf (by rw [hn, setIn (by omega)]; exact hb) ?_
  exact ⟨rfl, rfl⟩
theorem c_Ref_tells_ok (n : Nat) (x : Int32) (f : Nat → Bool) (re : Nat → Nat) (M : am_M) (hth : M 11 0 0 7 = 1) (hn : M 11 0 4 1 = nI n) (h10 : n ≤ 10) (hb : 0 ≤ x.toInt ∧ x.toInt < (2 ^ n : Nat)) (hx : x = bs f) (hr : ∀ p, p < n → M 11 0 4 (32 + 5 * p) = nI (re p) ∧ 1 ≤ re p ∧ re p ≤ 99) : Con 4 mRef_tells [aR 11 0 0, aI x] M (some (aI (tlF n re f 99 1))) (rT M) := by
  refine con_of okRef_tells [some (aR 11 0 0), some (aI x), none] (some .int) ?_
  intro J hgo
  have loop : ∀ m l lv, l + m = 100 → lv = nI l → 1 ≤ l → tlF n re f m l = tlF n re f 99 1 → J 40 [some (aR 11 0 0), some (aI x), some (aI lv)] [] (rT M) := by
    intro m
    induction m with
    | zero =>
      intro l lv hm hv hl he
      obtain rfl : l = 100 := by omega
      subst hv
      refine hgo [] _ _ _ _ ?_
      refine brt (by decide) ?_
      refine hgo [] _ _ _ _ ?_
      exact ⟨by rw [← he]; rfl, rfl⟩
    | succ m ih =>
      intro l lv hm hv hl he
      subst hv
      refine hgo [] _ _ _ _ ?_
      refine brf (nI_ge (b := 100) (by omega) (by omega)) ?_
      refine cle (c_Ref_tellsBy n l re f (rT M) hn h10 hl (by omega) hr) (by rw [hx]) rfl ?_
      refine brb (fun h1 => ?_) (fun h1 => ?_)
      · refine hgo [] _ _ _ _ ?_
        refine ih (l + 1) _ (by omega) (nI_1 l) (by omega) ?_
        rw [← he]
        show _ = if tbB n re f l = true then nI l else tlF n re f m (l + 1)
        rw [if_neg h1]
      · refine ⟨?_, rfl⟩
        rw [← he]
        show _ = some (aI (if tbB n re f l = true then nI l else tlF n re f m (l + 1)))
        rw [if_pos h1]
  refine hgo [] _ _ _ _ ?_
  refine brf (show ¬ M 11 0 0 7 = 0 by rw [hth]; decide) ?_
  refine hgo [] _ _ _ _ ?_
  refine ob_ (vp_in_nI (n := 1) (N := 198) (by omega) (by omega)) ?_
  refine cl_ (c_Ref_in x 0 ((1 : Int32) <<< (M 11 0 4 1 &&& 31) - 1) _ _ _ rfl (by decide) rfl _) ?_
  refine brbt (by rw [hn, setIn (by omega)]; exact hb) ?_
  refine hgo [40] _ _ _ _ ?_
  exact loop 99 1 _ rfl rfl (by omega) rfl
theorem op_tells (x : Int32) (M : am_M) (hR : Rel M) : OpAt mMain_tells mRef_tells [aI x] M := by
  obtain ⟨w1, w2, w3⟩ := Rel_nw hR
  obtain ⟨p1, p2, p3⟩ := Rel_np hR
  rcases Rel_there hR with ⟨t1, t2⟩ | ⟨t1, t2⟩
  · rw [t1] at w1
    exact op_mk (c_Main_tells_state x M w1) (c_Ref_tells_state x M t2) (Rel_bad hR)
  · by_cases hb : 0 ≤ x.toInt ∧ x.toInt < (2 ^ nP (M 11 0 4) : Nat)
    · have := p2le (show nP (M 11 0 4) < 11 by omega)
      obtain ⟨f, hf, -⟩ := bs_ofx hb.1 (by omega)
      obtain ⟨f1, f2⟩ := Rel_papF hR
      exact op_mk (c_Main_tells_ok _ _ x f (fun p => hN (M 11 0 4) (32 + 5 * p)) M w1 t1 w3 p1 p3 hb hf (fun p hp => ⟨(f2 p hp).1, (f2 p hp).2.2⟩)) (c_Ref_tells_ok _ x f (fun p => hN (M 11 0 4) (32 + 5 * p)) M t2 p2 p3 hb hf (fun p hp => ⟨(f2 p hp).2.1, (f2 p hp).2.2⟩)) (Rel_bad hR)
    · exact op_mk (c_Main_tells_bad _ _ x M w1 t1 w3 p1 p3 hb) (c_Ref_tells_bad _ x M t2 p2 p3 hb) (Rel_bad hR)
end
section
/-! papers -/
theorem off_in {x : Int32} {c n : Nat} (hc : c < 1000) (hn : n < 1000) : (0 ≤ (x - nI c).toInt ∧ (x - nI c).toInt < n) ↔ (c ≤ x.toInt ∧ x.toInt < c + n) := by
  have hr := i3_rng x
  have e0 := i3_n (n := c) (by omega)
  by_cases h : -2147483648 ≤ x.toInt - (nI c).toInt
  · rw [i3_sub h (by omega), e0]
    omega
  · have e1 : (x - nI c).toInt = x.toInt - c + 4294967296 := by
      rw [Int32.toInt_sub, e0, Int.bmod_def]
      split <;> omega
    rw [e1]
    omega
theorem off_ix {x : Int32} {c : Nat} (hc : c < 1000) (h : c ≤ x.toInt) : x - nI c = nI (x.toInt.toNat - c) := by
  have hr := i3_rng x
  have e0 := i3_n (n := c) (by omega)
  have e1 := i3_n (n := x.toInt.toNat - c) (by omega)
  rw [i3_eq, e1, i3_sub (by omega) (by omega), e0]
  omega
theorem c_Ref_inRings (S : Nat → Nat → Bool) (M : am_M) (hs : ∀ p, p < 10 → M 11 0 9 p = bs (S p)) : Con 1 mRef_inRings [aR 11 0 0] M (some (aI (bs (fun p => S p p)))) M := by
  refine con_of okRef_inRings [some (aR 11 0 0), none, none] (some .int) ?_
  intro J hgo
  have loop : ∀ m i iv x, m = 10 - i → i ≤ 10 → iv = nI i → x = bs (fun p => decide (p < i) && S p p) → J 4 [some (aR 11 0 0), some (aI x), some (aI iv)] [] M := by
    intro m
    induction m with
    | zero =>
      intro i iv x hm hi hv hx
      obtain rfl : i = 10 := by omega
      subst hv
      refine hgo [] _ _ _ _ ?_
      refine brt (by decide) ?_
      refine hgo [] _ _ _ _ ?_
      refine ⟨?_, rfl⟩
      rw [hx]
      congr 2
    | succ m ih =>
      intro i iv x hm hi hv hx
      subst hv
      have hi : i < 10 := by omega
      refine hgo [] _ _ _ _ ?_
      refine brf (nI_ge (b := 10) hi (by omega)) ?_
      refine ob_ (vp_in_nI (by omega) (by omega)) ?_
      refine ih (i + 1) _ _ (by omega) (by omega) (nI_1 i) ?_
      rw [cl_nI (by omega), hs i hi, bs_one hi, bs_and, hx, bs_or]
      apply bs_cong
      intro p hp
      by_cases h1 : p = i
      · subst h1
        simp
      · have h2 : decide (p < i + 1) = decide (p < i) := by
          apply decide_eq_decide.mpr
          omega
        simp [h1, h2]
  refine hgo [4] _ _ _ _ ?_
  exact loop _ 0 _ _ rfl (by omega) rfl (by rw [← bs_0]; exact bs_cong (fun p hp => by simp))
def ppA (x : Int32) (seen ring : Int32) (sure on : Nat → Int32) (w n : Nat) : Int32 := if x = 0 then seen else if x = 1 then ring else if 10 ≤ x.toInt ∧ x.toInt < 10 + n then sure (x.toInt.toNat - 10) else if 30 ≤ x.toInt ∧ x.toInt < 30 + w then on (x.toInt.toNat - 30) else -1000001
theorem c_Main_papers_state (x : Int32) (M : am_M) (hn : M 4 0 0 0 = nI 0) : Con 4 mMain_papers [aR 0 0 0, aI x] M (some (aI (-1000002))) M := by
  refine con_of okMain_papers [some (aR 0 0 0), some (aI x)] (some .int) ?_
  intro J hgo
  refine hgo [] _ _ _ _ ?_
  refine cl_ (c_House_stands 0 0 _ hn (by omega)) ?_
  refine brbf (by omega) ?_
  exact ⟨rfl, rfl⟩
theorem c_Main_papers (w n : Nat) (x : Int32) (M : am_M) (hnw : M 4 0 0 0 = nI w) (hw : 0 < w) (hw8 : w ≤ 8) (hn : M 4 0 0 4 = nI n) (h10 : n ≤ 10) : Con 4 mMain_papers [aR 0 0 0, aI x] M (some (aI (ppA x (M 7 0 0 2) (M 7 0 0 3) (M 7 0 3) (M 7 0 1) w n))) M := by
  refine con_of okMain_papers [some (aR 0 0 0), some (aI x)] (some .int) ?_
  intro J hgo
  have p104 : ¬ x = 0 → ¬ x = 1 → ¬ (10 ≤ x.toInt ∧ x.toInt < 10 + n) → ¬ (30 ≤ x.toInt ∧ x.toInt < 30 + w) → J 104 [some (aR 0 0 0), some (aI x)] [] M := by
    intro h0 h1 h2 h3
    refine hgo [] _ _ _ _ ?_
    refine ⟨?_, rfl⟩
    unfold ppA
    rw [if_neg h0, if_neg h1, if_neg h2, if_neg h3]
  have p71 : ¬ x = 0 → ¬ x = 1 → ¬ (10 ≤ x.toInt ∧ x.toInt < 10 + n) → J 71 [some (aR 0 0 0), some (aI x)] [] M := by
    intro h0 h1 h2
    refine hgo [] _ _ _ _ ?_
    refine br_ (fun h3 => ?_) (fun h3 => ?_)
    · have h3 : x.toInt < 30 := i3_lt.mp h3
      exact p104 h0 h1 h2 (by omega)
    · have h3 : ¬ x.toInt < 30 := fun q => h3 (i3_lt.mpr q)
      refine cl_ (c_House_isWall w 0 _ _ hnw (by omega)) ?_
      refine brb (fun h4 => ?_) (fun h4 => ?_)
      · exact p104 h0 h1 h2 (fun q => h4 ((off_in (c := 30) (by omega) (by omega)).mpr q))
      · have h4 : 30 ≤ x.toInt ∧ x.toInt < 30 + w := (off_in (c := 30) (n := w) (by omega) (by omega)).mp h4
        have h5 := off_ix (x := x) (c := 30) (by omega) (by omega)
        refine ob_ (by rw [show x - 30 = _ from h5]; exact vp_in_nI (by omega) (by omega)) ⟨?_, rfl⟩
        rw [show x - 30 = _ from h5, cl_nI (by omega)]
        unfold ppA
        rw [if_neg h0, if_neg h1, if_neg h2, if_pos h4]
  refine hgo [] _ _ _ _ ?_
  refine cl_ (c_House_stands w 0 _ hnw (by omega)) ?_
  refine brbt hw ?_
  refine hgo [] _ _ _ _ ?_
  refine br_ (fun h0 => ?_) (fun h0 => ?_)
  · refine ⟨?_, rfl⟩
    unfold ppA
    rw [if_pos h0]
  · refine hgo [] _ _ _ _ ?_
    refine br_ (fun h1 => ?_) (fun h1 => ?_)
    · refine ⟨?_, rfl⟩
      unfold ppA
      rw [if_neg h0, if_pos h1]
    · refine hgo [] _ _ _ _ ?_
      refine br_ (fun h2 => ?_) (fun h2 => ?_)
      · have h2 : x.toInt < 10 := i3_lt.mp h2
        exact p71 h0 h1 (by omega)
      · have h2 : ¬ x.toInt < 10 := fun q => h2 (i3_lt.mpr q)
        refine cl_ (c_House_isPaper n 0 _ _ hn (by omega)) ?_
        refine brb (fun h4 => ?_) (fun h4 => ?_)
        · exact p71 h0 h1 (fun q => h4 ((off_in (c := 10) (by omega) (by omega)).mpr q))
        · have h4 : 10 ≤ x.toInt ∧ x.toInt < 10 + n := (off_in (c := 10) (n := n) (by omega) (by omega)).mp h4
          have h5 := off_ix (x := x) (c := 10) (by omega) (by omega)
          refine ob_ (by rw [show x - 10 = _ from h5]; exact vp_in_nI (by omega) (by omega)) ⟨?_, rfl⟩
          rw [show x - 10 = _ from h5, cl_nI (by omega)]
          unfold ppA
          rw [if_neg h0, if_neg h1, if_pos h4]
theorem c_Ref_papers_state (x : Int32) (M : am_M) (hn : M 11 0 0 7 = 0) : Con 4 mRef_papers [aR 11 0 0, aI x] M (some (aI (-1000002))) (rT M) := by
  refine con_of okRef_papers [some (aR 11 0 0), some (aI x)] (some .int) ?_
  intro J hgo
  refine hgo [] _ _ _ _ ?_
  refine brt hn ?_
  exact ⟨rfl, rfl⟩
theorem c_Ref_papers (w n : Nat) (S : Nat → Nat → Bool) (x : Int32) (M : am_M) (hth : M 11 0 0 7 = 1) (hnw : M 11 0 4 0 = nI w) (hw8 : w ≤ 8) (hn : M 11 0 4 1 = nI n) (h10 : n ≤ 10) (hs : ∀ p, p < 10 → M 11 0 9 p = bs (S p)) : Con 4 mRef_papers [aR 11 0 0, aI x] M (some (aI (ppA x (M 11 0 0 18) (bs (fun p => S p p)) (M 11 0 9) (M 11 0 7) w n))) (rT M) := by
  refine con_of okRef_papers [some (aR 11 0 0), some (aI x)] (some .int) ?_
  intro J hgo
  have p24 : x = 0 ∨ x = 1 → J 24 [some (aR 11 0 0), some (aI x)] [] (rT M) := by
    intro h
    refine hgo [] _ _ _ _ ?_
    refine br_ (fun h0 => ?_) (fun h0 => ?_)
    · refine hgo [] _ _ _ _ ?_
      refine ⟨?_, rfl⟩
      unfold ppA
      rw [if_pos h0]
      rfl
    · have h1 : x = 1 := by
        rcases h with h | h
        · exact absurd h h0
        · exact h
      refine hgo [] _ _ _ _ ?_
      refine cl_ (c_Ref_inRings S _ hs) ?_
      refine ⟨?_, rfl⟩
      unfold ppA
      rw [if_neg h0, if_pos h1]
  refine hgo [] _ _ _ _ ?_
  refine brf (show ¬ M 11 0 0 7 = 0 by rw [hth]; decide) ?_
  refine hgo [24] _ _ _ _ ?_
  refine br_ (fun h0 => p24 (Or.inl h0)) (fun h0 => ?_)
  refine br_ (fun h1 => ?_) (fun h1 => ?_)
  · exact p24 (Or.inr h1)
  · refine hgo [] _ _ _ _ ?_
    refine cl_ (c_Ref_isPaper n _ _ hn (by omega)) ?_
    refine brb (fun h4 => ?_) (fun h4 => ?_)
    · have h4 : ¬ (10 ≤ x.toInt ∧ x.toInt < 10 + n) := fun q => h4 ((off_in (c := 10) (by omega) (by omega)).mpr q)
      refine hgo [] _ _ _ _ ?_
      refine cl_ (c_Ref_isWall w _ _ hnw (by omega)) ?_
      refine brb (fun h5 => ?_) (fun h5 => ?_)
      · have h5 : ¬ (30 ≤ x.toInt ∧ x.toInt < 30 + w) := fun q => h5 ((off_in (c := 30) (by omega) (by omega)).mpr q)
        refine hgo [] _ _ _ _ ?_
        refine ⟨?_, rfl⟩
        unfold ppA
        rw [if_neg h0, if_neg h1, if_neg h4, if_neg h5]
      · have h5 : 30 ≤ x.toInt ∧ x.toInt < 30 + w := (off_in (c := 30) (n := w) (by omega) (by omega)).mp h5
        have h6 := off_ix (x := x) (c := 30) (by omega) (by omega)
        refine ob_ (by rw [show x - 30 = _ from h6]; exact vp_in_nI (by omega) (by omega)) ?_
        refine hgo [] _ _ _ _ ?_
        refine ⟨?_, rfl⟩
        rw [show x - 30 = _ from h6, cl_nI (by omega)]
        unfold ppA
        rw [if_neg h0, if_neg h1, if_neg h4, if_pos h5]
        rfl
    · have h4 : 10 ≤ x.toInt ∧ x.toInt < 10 + n := (off_in (c := 10) (n := n) (by omega) (by omega)).mp h4
      have h5 := off_ix (x := x) (c := 10) (by omega) (by omega)
      refine ob_ (by rw [show x - 10 = _ from h5]; exact vp_in_nI (by omega) (by omega)) ?_
      refine hgo [] _ _ _ _ ?_
      refine ⟨?_, rfl⟩
      rw [show x - 10 = _ from h5, cl_nI (by omega)]
      unfold ppA
      rw [if_neg h0, if_neg h1, if_pos h4]
      rfl
theorem op_papers (x : Int32) (M : am_M) (hR : Rel M) : OpAt mMain_papers mRef_papers [aI x] M := by
  obtain ⟨w1, w2, w3⟩ := Rel_nw hR
  obtain ⟨p1, p2, p3⟩ := Rel_np hR
  obtain ⟨-, -, -, ⟨-, -, -, f1, f2, f3, f4⟩, ⟨g1, g2, g3, g4, g5⟩, -, -⟩ := id hR
  rcases Rel_there hR with ⟨t1, t2⟩ | ⟨t1, t2⟩
  · rw [t1] at w1
    exact op_mk (c_Main_papers_state x M w1) (c_Ref_papers_state x M t2) (Rel_bad hR)
  · have e : ppA x (M 7 0 0 2) (M 7 0 0 3) (M 7 0 3) (M 7 0 1) (nW (M 11 0 4)) (nP (M 11 0 4)) = ppA x (M 11 0 0 18) (bs (fun p => Su (M 11 0 4) p p)) (M 11 0 9) (M 11 0 7) (nW (M 11 0 4)) (nP (M 11 0 4)) := by
      unfold ppA
      rw [g1, g2, f1]
      have e1 : bs (Ring (M 11 0 4)) = bs (fun p => Su (M 11 0 4) p p) := rfl
      rw [e1]
      by_cases h1 : 10 ≤ x.toInt ∧ x.toInt < 10 + nP (M 11 0 4)
      · rw [if_pos h1, if_pos h1, g5 _ (by omega), f4 _ (by omega)]
      · rw [if_neg h1, if_neg h1]
        by_cases h2 : 30 ≤ x.toInt ∧ x.toInt < 30 + nW (M 11 0 4)
        · rw [if_pos h2, if_pos h2, g3 _ (by omega), f2 _ (by omega)]
        · rw [if_neg h2, if_neg h2]
    refine op_mk (c_Main_papers _ _ x M w1 t1 w3 p1 p3) ?_ (Rel_bad hR) (d2 := 4)
    rw [e]
    exact c_Ref_papers _ _ (Su (M 11 0 4)) x M t2 w2 w3 p2 p3 f4
end
section
/-! one house into another -/
def HSame (M M2 : am_M) (j : Nat) : Prop := (∀ k, k ≠ 4 → M2 k = M k) ∧ ∀ i, i ≠ j → M2 4 i = M 4 i
theorem HSame.tr {M M1 M2 : am_M} {j : Nat} (h1 : HSame M M1 j) (h2 : HSame M1 M2 j) : HSame M M2 j := ⟨fun k hk => (h2.1 k hk).trans (h1.1 k hk), fun i hi => (h2.2 i hi).trans (h1.2 i hi)⟩
theorem HSame.rf {M : am_M} {j : Nat} : HSame M M j := ⟨fun _ _ => rfl, fun _ _ => rfl⟩
theorem HSame.sa {M : am_M} {j o : Nat} {f : Nat → Int32} : HSame M (sA M 4 j o f) j := ⟨fun _ hk => sA_k hk, fun _ hi => sA_j hi⟩
theorem c_House_clear (j : Nat) (M : am_M) : ConP 1 mHouse_clear [aR 4 j 0] M (fun r M2 => r = none ∧ HSame M M2 j ∧ M2 4 j 0 0 = 0 ∧ M2 4 j 0 4 = 0 ∧ M2 4 j 0 10 = 0) := by
  refine con_of okHouse_clear [some (aR 4 j 0)] none ?_
  intro J hgo
  refine hgo [] _ _ _ _ ?_
  refine ⟨rfl, (HSame.sa.tr HSame.sa).tr HSame.sa, ?_, ?_, ?_⟩ <;> simp [sA, upd]
theorem c_House_addWall (j n : Nat) (a b c : Int32) (M : am_M) (hn : M 4 j 0 0 = nI n) (h8 : n < 8) : ConP 1 mHouse_addWall [aR 4 j 0, aI a, aI b, aI c] M (fun r M2 => r = none ∧ HSame M M2 j ∧ M2 4 j 0 = upd (M 4 j 0) 0 (nI (n + 1)) ∧ M2 4 j 1 = upd (M 4 j 1) n a ∧ M2 4 j 2 = upd (M 4 j 2) n b ∧ M2 4 j 3 = upd (M 4 j 3) n c ∧ ∀ o, o ≠ 0 → (o < 1 ∨ 4 ≤ o) → M2 4 j o = M 4 j o) := by
  have hc : (nI n).toNatClampNeg = n := cl_nI (by omega)
  refine con_of okHouse_addWall [some (aR 4 j 0), some (aI a), some (aI b), some (aI c)] none ?_
  intro J hgo
  refine hgo [] _ _ _ _ ?_
  refine brt (show M 4 j 0 0 < nI 8 by rw [hn]; exact nI_lt h8 (by omega)) ?_
  refine hgo [] _ _ _ _ ?_
  refine ob_ (by rw [hn]; exact vp_in_nI (by omega) (by omega)) ?_
  refine ob_ (by rw [sA_o (by decide), hn]; exact vp_in_nI (by omega) (by omega)) ?_
  refine ob_ (by rw [sA_o (by decide), sA_o (by decide), hn]; exact vp_in_nI (by omega) (by omega)) ?_
  refine ⟨rfl, (((HSame.sa.tr HSame.sa).tr HSame.sa).tr HSame.sa), ?_, ?_, ?_, ?_, ?_⟩
  · simp [sA, hn, nI_1]
  · simp [sA, hn, hc]
  · simp [sA, hn, hc]
  · simp [sA, hn, hc]
  · intro o h0 ho
    have g0 : o ≠ 1 := by omega
    have g1 : o ≠ 2 := by omega
    have g2 : o ≠ 3 := by omega
    rw [sA_o h0, sA_o g2, sA_o g1, sA_o g0]
theorem c_House_addPaper (j n : Nat) (a b c e g : Int32) (M : am_M) (hn : M 4 j 0 4 = nI n) (h8 : n < 10) : ConP 1 mHouse_addPaper [aR 4 j 0, aI a, aI b, aI c, aI e, aI g] M (fun r M2 => r = none ∧ HSame M M2 j ∧ M2 4 j 0 = upd (M 4 j 0) 4 (nI (n + 1)) ∧ M2 4 j 4 = upd (M 4 j 4) n a ∧ M2 4 j 5 = upd (M 4 j 5) n b ∧ M2 4 j 6 = upd (M 4 j 6) n c ∧ M2 4 j 7 = upd (M 4 j 7) n e ∧ M2 4 j 8 = upd (M 4 j 8) n g ∧ ∀ o, o ≠ 0 → (o < 4 ∨ 9 ≤ o) → M2 4 j o = M 4 j o) := by
  have hc : (nI n).toNatClampNeg = n := cl_nI (by omega)
  refine con_of okHouse_addPaper [some (aR 4 j 0), some (aI a), some (aI b), some (aI c), some (aI e), some (aI g)] none ?_
  intro J hgo
  refine hgo [] _ _ _ _ ?_
  refine brt (show M 4 j 0 4 < nI 10 by rw [hn]; exact nI_lt h8 (by omega)) ?_
  refine hgo [] _ _ _ _ ?_
  refine ob_ (by rw [hn]; exact vp_in_nI (by omega) (by omega)) ?_
  refine ob_ (by rw [sA_o (by decide), hn]; exact vp_in_nI (by omega) (by omega)) ?_
  refine ob_ (by rw [sA_o (by decide), sA_o (by decide), hn]; exact vp_in_nI (by omega) (by omega)) ?_
  refine ob_ (by rw [sA_o (by decide), sA_o (by decide), sA_o (by decide), hn]; exact vp_in_nI (by omega) (by omega)) ?_
  refine ob_ (by rw [sA_o (by decide), sA_o (by decide), sA_o (by decide), sA_o (by decide), hn]; exact vp_in_nI (by omega) (by omega)) ?_
  refine ⟨rfl, (((((HSame.sa.tr HSame.sa).tr HSame.sa).tr HSame.sa).tr HSame.sa).tr HSame.sa), ?_, ?_, ?_, ?_, ?_, ?_, ?_⟩
  · simp [sA, hn, nI_1]
  · simp [sA, hn, hc]
  · simp [sA, hn, hc]
  · simp [sA, hn, hc]
  · simp [sA, hn, hc]
  · simp [sA, hn, hc]
  · intro o h0 ho
    have g0 : o ≠ 4 := by omega
    have g1 : o ≠ 5 := by omega
    have g2 : o ≠ 6 := by omega
    have g3 : o ≠ 7 := by omega
    have g4 : o ≠ 8 := by omega
    rw [sA_o h0, sA_o g4, sA_o g3, sA_o g2, sA_o g1, sA_o g0]
theorem c_House_addTenant (j n : Nat) (a b c : Int32) (M : am_M) (hn : M 4 j 0 10 = nI n) (h8 : n < 10) : ConP 1 mHouse_addTenant [aR 4 j 0, aI a, aI b, aI c] M (fun r M2 => r = none ∧ HSame M M2 j ∧ M2 4 j 0 = upd (M 4 j 0) 10 (nI (n + 1)) ∧ M2 4 j 9 = upd (M 4 j 9) n a ∧ M2 4 j 10 = upd (M 4 j 10) n b ∧ M2 4 j 11 = upd (M 4 j 11) n c ∧ ∀ o, o ≠ 0 → (o < 9 ∨ 12 ≤ o) → M2 4 j o = M 4 j o) := by
  have hc : (nI n).toNatClampNeg = n := cl_nI (by omega)
  refine con_of okHouse_addTenant [some (aR 4 j 0), some (aI a), some (aI b), some (aI c)] none ?_
  intro J hgo
  refine hgo [] _ _ _ _ ?_
  refine brt (show M 4 j 0 10 < nI 10 by rw [hn]; exact nI_lt h8 (by omega)) ?_
  refine hgo [] _ _ _ _ ?_
  refine ob_ (by rw [hn]; exact vp_in_nI (by omega) (by omega)) ?_
  refine ob_ (by rw [sA_o (by decide), hn]; exact vp_in_nI (by omega) (by omega)) ?_
  refine ob_ (by rw [sA_o (by decide), sA_o (by decide), hn]; exact vp_in_nI (by omega) (by omega)) ?_
  refine ⟨rfl, (((HSame.sa.tr HSame.sa).tr HSame.sa).tr HSame.sa), ?_, ?_, ?_, ?_, ?_⟩
  · simp [sA, hn, nI_1]
  · simp [sA, hn, hc]
  · simp [sA, hn, hc]
  · simp [sA, hn, hc]
  · intro o h0 ho
    have g0 : o ≠ 9 := by omega
    have g1 : o ≠ 10 := by omega
    have g2 : o ≠ 11 := by omega
    rw [sA_o h0, sA_o g2, sA_o g1, sA_o g0]
end
section
/-! take -/
theorem c_House_take (j i : Nat) (h : Nat → Int32) (M : am_M) (hij : i ≠ j) (hv : HV h) (hw : RHw (M 4 i) h) (hp : RHp (M 4 i) h) (ht : RHt (M 4 i) h) : ConP 3 mHouse_take [aR 4 j 0, aR 4 i 0] M (fun r M2 => r = none ∧ HSame M M2 j ∧ RHw (M2 4 j) h ∧ RHp (M2 4 j) h ∧ RHt (M2 4 j) h) := by
  obtain ⟨⟨v0, w8⟩, ⟨v1, p10⟩, ⟨v2, t10⟩, -, -, -, -, -⟩ := id hv
  obtain ⟨hw0, hw1⟩ := id hw
  obtain ⟨hp0, hp1⟩ := id hp
  obtain ⟨ht0, ht1⟩ := id ht
  rw [v0] at hw0
  rw [v1] at hp0
  rw [v2] at ht0
  refine con_of okHouse_take [some (aR 4 j 0), some (aR 4 i 0), none] none ?_
  intro J hgo
  have lt : ∀ m c cv M2, m = nT h - c → c ≤ nT h → cv = nI c → (HSame M M2 j) → (RHw (M2 4 j) h) → (RHp (M2 4 j) h) → (M2 4 j 0 10 = nI c) → (∀ q, q < c → M2 4 j 9 q = h (78 + 3 * q) ∧ M2 4 j 10 q = h (79 + 3 * q) ∧ M2 4 j 11 q = h (80 + 3 * q)) → J 94 [some (aR 4 j 0), some (aR 4 i 0), some (aI cv)] [] M2 := by
    intro m
    induction m with
    | zero =>
      intro c cv M2 hm hc hv i0 r0 r1 is ia
      obtain rfl : c = nT h := by omega
      subst hv
      refine hgo [] _ _ _ _ ?_
      refine brt (show M2 4 i 0 10 ≤ nI (nT h) by rw [i0.2 i hij, ht0]; exact nI_le (Nat.le_refl _) (by omega)) ?_
      refine hgo [] _ _ _ _ ?_
      exact ⟨rfl, i0, r0, r1, by rw [is, v2], ia⟩
    | succ m ih =>
      intro c cv M2 hm hc hv i0 r0 r1 is ia
      subst hv
      have hlt : c < nT h := by omega
      have hcl : (nI c).toNatClampNeg = c := cl_nI (by omega)
      refine hgo [] _ _ _ _ ?_
      refine brf (show ¬ M2 4 i 0 10 ≤ nI c by rw [i0.2 i hij, ht0]; exact nI_ge hlt (by omega)) ?_
      refine ob_ (vp_in_nI (by omega) (by omega)) ?_
      refine ob_ (vp_in_nI (by omega) (by omega)) ?_
      refine ob_ (vp_in_nI (by omega) (by omega)) ?_
      refine clp (c_House_addTenant j c _ _ _ M2 is (by omega)) ?_
      rintro r M3 ⟨rfl, a0, a1, b0, b1, b2, a2⟩
      refine ih (c + 1) _ M3 (by omega) (by omega) (nI_1 c) (i0.tr a0) ⟨by rw [a1, upd_n (by decide)]; exact r0.1, fun q hq => by rw [a2 1 (by decide) (by decide), a2 2 (by decide) (by decide), a2 3 (by decide) (by decide)]; exact r0.2 q hq⟩ ⟨by rw [a1, upd_n (by decide)]; exact r1.1, fun q hq => by rw [a2 4 (by decide) (by decide), a2 5 (by decide) (by decide), a2 6 (by decide) (by decide), a2 7 (by decide) (by decide), a2 8 (by decide) (by decide)]; exact r1.2 q hq⟩ (by rw [a1]; exact upd_s) (fun q hq => ?_)
      obtain ⟨e0, e1, e2⟩ := ht1 c hlt
      by_cases hqc : q = c
      · subst hqc
        rw [b0, b1, b2]
        refine ⟨?_, ?_, ?_⟩ <;> rw [upd_s, i0.2 i hij, hcl]
        · exact e0
        · exact e1
        · exact e2
      · rw [b0, b1, b2, upd_n hqc, upd_n hqc, upd_n hqc]
        exact ia q (by omega)
  have lp : ∀ m c cv M2, m = nP h - c → c ≤ nP h → cv = nI c → (HSame M M2 j) → (RHw (M2 4 j) h) → (M2 4 j 0 4 = nI c) → (M2 4 j 0 10 = 0) → (∀ q, q < c → M2 4 j 4 q = h (28 + 5 * q) ∧ M2 4 j 5 q = h (29 + 5 * q) ∧ M2 4 j 6 q = h (30 + 5 * q) ∧ M2 4 j 7 q = h (31 + 5 * q) ∧ M2 4 j 8 q = h (32 + 5 * q)) → J 44 [some (aR 4 j 0), some (aR 4 i 0), some (aI cv)] [] M2 := by
    intro m
    induction m with
    | zero =>
      intro c cv M2 hm hc hv i0 r0 is z0 ia
      obtain rfl : c = nP h := by omega
      subst hv
      refine hgo [] _ _ _ _ ?_
      refine brt (show M2 4 i 0 4 ≤ nI (nP h) by rw [i0.2 i hij, hp0]; exact nI_le (Nat.le_refl _) (by omega)) ?_
      refine hgo [94] _ _ _ _ ?_
      exact lt _ 0 _ M2 rfl (by omega) rfl i0 r0 ⟨by rw [is, v1], ia⟩ z0 (fun q hq => by omega)
    | succ m ih =>
      intro c cv M2 hm hc hv i0 r0 is z0 ia
      subst hv
      have hlt : c < nP h := by omega
      have hcl : (nI c).toNatClampNeg = c := cl_nI (by omega)
      refine hgo [] _ _ _ _ ?_
      refine brf (show ¬ M2 4 i 0 4 ≤ nI c by rw [i0.2 i hij, hp0]; exact nI_ge hlt (by omega)) ?_
      refine ob_ (vp_in_nI (by omega) (by omega)) ?_
      refine ob_ (vp_in_nI (by omega) (by omega)) ?_
      refine ob_ (vp_in_nI (by omega) (by omega)) ?_
      refine ob_ (vp_in_nI (by omega) (by omega)) ?_
      refine ob_ (vp_in_nI (by omega) (by omega)) ?_
      refine clp (c_House_addPaper j c _ _ _ _ _ M2 is (by omega)) ?_
      rintro r M3 ⟨rfl, a0, a1, b0, b1, b2, b3, b4, a2⟩
      refine ih (c + 1) _ M3 (by omega) (by omega) (nI_1 c) (i0.tr a0) ⟨by rw [a1, upd_n (by decide)]; exact r0.1, fun q hq => by rw [a2 1 (by decide) (by decide), a2 2 (by decide) (by decide), a2 3 (by decide) (by decide)]; exact r0.2 q hq⟩ (by rw [a1]; exact upd_s) (by rw [a1, upd_n (by decide)]; exact z0) (fun q hq => ?_)
      obtain ⟨e0, e1, e2, e3, e4⟩ := hp1 c hlt
      by_cases hqc : q = c
      · subst hqc
        rw [b0, b1, b2, b3, b4]
        refine ⟨?_, ?_, ?_, ?_, ?_⟩ <;> rw [upd_s, i0.2 i hij, hcl]
        · exact e0
        · exact e1
        · exact e2
        · exact e3
        · exact e4
      · rw [b0, b1, b2, b3, b4, upd_n hqc, upd_n hqc, upd_n hqc, upd_n hqc, upd_n hqc]
        exact ia q (by omega)
  have lw : ∀ m c cv M2, m = nW h - c → c ≤ nW h → cv = nI c → (HSame M M2 j) → (M2 4 j 0 0 = nI c) → (M2 4 j 0 4 = 0) → (M2 4 j 0 10 = 0) → (∀ q, q < c → M2 4 j 1 q = h (4 + 3 * q) ∧ M2 4 j 2 q = h (5 + 3 * q) ∧ M2 4 j 3 q = h (6 + 3 * q)) → J 6 [some (aR 4 j 0), some (aR 4 i 0), some (aI cv)] [] M2 := by
    intro m
    induction m with
    | zero =>
      intro c cv M2 hm hc hv i0 is z0 z1 ia
      obtain rfl : c = nW h := by omega
      subst hv
      refine hgo [] _ _ _ _ ?_
      refine brt (show M2 4 i 0 0 ≤ nI (nW h) by rw [i0.2 i hij, hw0]; exact nI_le (Nat.le_refl _) (by omega)) ?_
      refine hgo [44] _ _ _ _ ?_
      exact lp _ 0 _ M2 rfl (by omega) rfl i0 ⟨by rw [is, v0], ia⟩ z0 z1 (fun q hq => by omega)
    | succ m ih =>
      intro c cv M2 hm hc hv i0 is z0 z1 ia
      subst hv
      have hlt : c < nW h := by omega
      have hcl : (nI c).toNatClampNeg = c := cl_nI (by omega)
      refine hgo [] _ _ _ _ ?_
      refine brf (show ¬ M2 4 i 0 0 ≤ nI c by rw [i0.2 i hij, hw0]; exact nI_ge hlt (by omega)) ?_
      refine ob_ (vp_in_nI (by omega) (by omega)) ?_
      refine ob_ (vp_in_nI (by omega) (by omega)) ?_
      refine ob_ (vp_in_nI (by omega) (by omega)) ?_
      refine clp (c_House_addWall j c _ _ _ M2 is (by omega)) ?_
      rintro r M3 ⟨rfl, a0, a1, b0, b1, b2, a2⟩
      refine ih (c + 1) _ M3 (by omega) (by omega) (nI_1 c) (i0.tr a0) (by rw [a1]; exact upd_s) (by rw [a1, upd_n (by decide)]; exact z0) (by rw [a1, upd_n (by decide)]; exact z1) (fun q hq => ?_)
      obtain ⟨e0, e1, e2⟩ := hw1 c hlt
      by_cases hqc : q = c
      · subst hqc
        rw [b0, b1, b2]
        refine ⟨?_, ?_, ?_⟩ <;> rw [upd_s, i0.2 i hij, hcl]
        · exact e0
        · exact e1
        · exact e2
      · rw [b0, b1, b2, upd_n hqc, upd_n hqc, upd_n hqc]
        exact ia q (by omega)
  refine hgo [6] _ _ _ _ ?_
  refine clp (c_House_clear j M) ?_
  rintro r M2 ⟨rfl, a0, a1, a2, a3⟩
  exact lw _ 0 _ M2 rfl (by omega) rfl a0 a1 a2 a3 (fun q hq => by omega)
def SSame (M M2 : am_M) (j : Nat) : Prop := (∀ k, k ≠ 5 → M2 k = M k) ∧ ∀ i, i ≠ j → M2 5 i = M 5 i
theorem SSame.tr {M M1 M2 : am_M} {j : Nat} (h1 : SSame M M1 j) (h2 : SSame M1 M2 j) : SSame M M2 j := ⟨fun k hk => (h2.1 k hk).trans (h1.1 k hk), fun i hi => (h2.2 i hi).trans (h1.2 i hi)⟩
theorem SSame.sa {M : am_M} {j o : Nat} {f : Nat → Int32} : SSame M (sA M 5 j o f) j := ⟨fun _ hk => sA_k hk, fun _ hi => sA_j hi⟩
theorem c_Spots_take (j i : Nat) (h : Nat → Int32) (M : am_M) (hij : i ≠ j) (hv : HV h) (hs : RHs (M 5 i) h) : ConP 3 mSpots_take [aR 5 j 0, aR 5 i 0] M (fun r M2 => r = none ∧ SSame M M2 j ∧ RHs (M2 5 j) h) := by
  obtain ⟨-, -, -, ⟨v3, s9⟩, -, -, -, hsp⟩ := id hv
  refine con_of okSpots_take [some (aR 5 j 0), some (aR 5 i 0)] none ?_
  intro J hgo
  refine hgo [] _ _ _ _ ?_
  refine ob_ (by decide) ?_
  refine ob_ (by decide) ?_
  refine ob_ (by decide) ?_
  refine ⟨rfl, ((SSame.sa.tr SSame.sa).tr SSame.sa).tr SSame.sa, ?_, ?_⟩
  · rw [sA_o (by decide), sA_o (by decide), sA_o (by decide), sA_s, upd_s]
    exact hs.1
  · intro s hs2
    obtain ⟨g1, g2, g3⟩ := hs.2 s hs2
    obtain ⟨-, -, -, -, d8, -⟩ := hsp s hs2
    refine ⟨?_, ?_, ?_⟩
    · rw [sA_o (by decide), sA_o (by decide), sA_s, sA_j hij, ← g1]
      simp only [va_cpy, Int32.reduceToNatClampNeg]
      rw [if_pos (by omega)]
      congr 1
      omega
    · rw [sA_o (by decide), sA_s, sA_j hij, sA_j hij, ← g2]
      simp only [va_cpy, Int32.reduceToNatClampNeg]
      rw [if_pos (by omega)]
      congr 1
      omega
    · intro k hk
      rw [sA_s, sA_j hij, sA_j hij, sA_j hij, ← g3 k hk]
      simp only [va_cpy, Int32.reduceToNatClampNeg]
      rw [if_pos (by omega)]
      congr 1
      omega
end
section
/-! image -/
theorem op_mkP {nc nr d1 d2 : Nat} {as : List am_V} {M : am_M} {v : Int32} {Po : Option am_V → am_M → Prop} (h1 : ConP d1 nc (aR 0 0 0 :: as) M Po) (h2 : ∀ r M1, Po r M1 → r = some (aI v) ∧ ∃ Po2 : Option am_V → am_M → Prop, ConP d2 nr (aR 11 0 0 :: as) M1 Po2 ∧ ∀ r2 M2, Po2 r2 M2 → r2 = some (aI v) ∧ Rel M2) (hd1 : d1 < 100 := by decide) (hd2 : d2 < 100 := by decide) : OpAt nc nr as M :=
  ⟨v, d1, _, hd1, h1, fun r M1' hp => by
    obtain ⟨e1, Po2, e2, e3⟩ := h2 r M1' hp
    exact ⟨e1, d2, Po2, hd2, e2, e3⟩⟩
theorem HV_cong {h g : Nat → Int32} (e : ∀ i, i < 198 → g i = h i) (hv : HV h) : HV g := by
  obtain ⟨⟨v0, w8⟩, ⟨v1, p10⟩, ⟨v2, t10⟩, ⟨v3, s9⟩, hw, hp, ht, hs⟩ := hv
  have n0 : nW g = nW h := by unfold nW hN; rw [e 0 (by omega)]
  have n1 : nP g = nP h := by unfold nP hN; rw [e 1 (by omega)]
  have n2 : nT g = nT h := by unfold nT hN; rw [e 2 (by omega)]
  have n3 : nS g = nS h := by unfold nS hN; rw [e 3 (by omega)]
  unfold HV
  rw [n0, n1, n2, n3, e 0 (by omega), e 1 (by omega), e 2 (by omega), e 3 (by omega)]
  refine ⟨⟨v0, w8⟩, ⟨v1, p10⟩, ⟨v2, t10⟩, ⟨v3, s9⟩, ?_, ?_, ?_, ?_⟩
  · intro w hw2
    rw [e _ (by omega), e _ (by omega), e _ (by omega)]
    exact hw w hw2
  · intro p hp2
    rw [e _ (by omega), e _ (by omega), e _ (by omega), e _ (by omega), e _ (by omega)]
    exact hp p hp2
  · intro t ht2
    rw [e _ (by omega), e _ (by omega), e _ (by omega)]
    exact ht t ht2
  · intro s hs2
    have q1 : wl g s = wl h s := by unfold wl hN; rw [e _ (by omega)]
    have q2 : dp g s = dp h s := by unfold dp hN; rw [e _ (by omega)]
    rw [q1, q2, e _ (by omega), e _ (by omega)]
    obtain ⟨a1, a2, a3, a4, a5, a6⟩ := hs s hs2
    refine ⟨a1, a2, a3, a4, a5, fun k hk => ?_⟩
    have q3 : ly g s k = ly h s k := by unfold ly hN; rw [e _ (by omega)]
    rw [q3, e _ (by omega)]
    exact a6 k hk
theorem RHw_cong {C : Nat → Nat → Int32} {h g : Nat → Int32} (e : ∀ i, i < 198 → g i = h i) (hv : HV h) (r : RHw C h) : RHw C g := by
  have w8 := hv.1.2
  have n0 : nW g = nW h := by unfold nW hN; rw [e 0 (by omega)]
  refine ⟨by rw [e 0 (by omega)]; exact r.1, fun w hw => ?_⟩
  rw [n0] at hw
  rw [e _ (by omega), e _ (by omega), e _ (by omega)]
  exact r.2 w hw
theorem RHp_cong {C : Nat → Nat → Int32} {h g : Nat → Int32} (e : ∀ i, i < 198 → g i = h i) (hv : HV h) (r : RHp C h) : RHp C g := by
  have w8 := hv.2.1.2
  have n0 : nP g = nP h := by unfold nP hN; rw [e 1 (by omega)]
  refine ⟨by rw [e 1 (by omega)]; exact r.1, fun w hw => ?_⟩
  rw [n0] at hw
  rw [e _ (by omega), e _ (by omega), e _ (by omega), e _ (by omega), e _ (by omega)]
  exact r.2 w hw
theorem RHt_cong {C : Nat → Nat → Int32} {h g : Nat → Int32} (e : ∀ i, i < 198 → g i = h i) (hv : HV h) (r : RHt C h) : RHt C g := by
  have w8 := hv.2.2.1.2
  have n0 : nT g = nT h := by unfold nT hN; rw [e 2 (by omega)]
  refine ⟨by rw [e 2 (by omega)]; exact r.1, fun w hw => ?_⟩
  rw [n0] at hw
  rw [e _ (by omega), e _ (by omega), e _ (by omega)]
  exact r.2 w hw
theorem RHs_cong {C : Nat → Nat → Int32} {h g : Nat → Int32} (e : ∀ i, i < 198 → g i = h i) (hv : HV h) (r : RHs C h) : RHs C g := by
  have w8 := hv.2.2.2.1.2
  have n0 : nS g = nS h := by unfold nS hN; rw [e 3 (by omega)]
  refine ⟨by rw [e 3 (by omega)]; exact r.1, fun w hw => ?_⟩
  rw [n0] at hw
  have q2 : dp g w = dp h w := by unfold dp hN; rw [e _ (by omega)]
  have d8 := (hv.2.2.2.2.2.2.2 w hw).2.2.2.2.1
  obtain ⟨a1, a2, a3⟩ := r.2 w hw
  rw [e _ (by omega), e _ (by omega), q2]
  refine ⟨a1, a2, fun k hk => ?_⟩
  rw [e _ (by omega)]
  exact a3 k hk
theorem nW_cong {h g : Nat → Int32} (e : ∀ i, i < 198 → g i = h i) : nW g = nW h := by unfold nW hN; rw [e 0 (by omega)]
theorem Rel_img {M M2 : am_M} (h : Rel M) (h1 : M2 1 0 = M 1 0) (h2 : M2 2 0 = M 2 0) (h4 : M2 4 0 = M 4 0) (h5 : M2 5 0 = M 5 0) (h7 : M2 7 0 = M 7 0) (h8 : M2 8 0 = M 8 0) (h10 : M2 10 0 = M 10 0) (hr : ∀ o, o ≠ 0 → o ≠ 13 → o ≠ 14 → M2 11 0 o = M 11 0 o) (hs : ∀ i, i ≠ 0 → M2 11 0 0 i = M 11 0 0 i) (ha : M2 0 0 0 = M 0 0 0) (hI : RelI M2) : Rel M2 := by
  obtain ⟨g1, g2, g3, g4, g5, g6, g7⟩ := h
  unfold Rel RelH RelA
  rw [h1, h2, h4, h5, h7, h8, h10, ha, hr 1 (by decide) (by decide) (by decide), hr 2 (by decide) (by decide) (by decide), hr 3 (by decide) (by decide) (by decide), hr 4 (by decide) (by decide) (by decide), hr 6 (by decide) (by decide) (by decide), hr 7 (by decide) (by decide) (by decide), hr 8 (by decide) (by decide) (by decide), hr 9 (by decide) (by decide) (by decide), hr 15 (by decide) (by decide) (by decide), hs 1 (by decide), hs 7 (by decide), hs 9 (by decide), hs 10 (by decide), hs 18 (by decide), hs 28 (by decide)]
  exact ⟨g1, g2, g3, g4, g5, hI, g7⟩
theorem c_Main_isSwitch (x : Int32) (M : am_M) : Con 1 mMain_isSwitch [aI x] M (some (aI (b2i (x = 0 ∨ x = 1)))) M := by
  refine con_of okMain_isSwitch [some (aI x)] (some .boolean) ?_
  intro J hgo
  have p9 : x = 0 ∨ x = 1 → J 9 [some (aI x)] [] M := by
    intro h
    refine hgo [] _ _ _ _ ?_
    refine hgo [] _ _ _ _ ?_
    refine ob_ (by decide) ⟨?_, rfl⟩
    rw [b2i_t h]
  refine hgo [9] _ _ _ _ ?_
  refine br_ (fun h1 => p9 (Or.inl h1)) (fun h1 => ?_)
  refine br_ (fun h2 => p9 (Or.inr h2)) (fun h2 => ?_)
  refine hgo [] _ _ _ _ ?_
  refine ob_ (by decide) ⟨?_, rfl⟩
  rw [b2i_f (by rintro (h | h); exact h1 h; exact h2 h)]
theorem swIn {x : Int32} : (0 ≤ x ∧ x ≤ 1) ↔ (x = 0 ∨ x = 1) := by
  simp only [i3_le, i3_eq, Int32.reduceToInt]
  omega
theorem c_Main_image_bad (x : Int32) (M : am_M) (h : ¬ (x = 0 ∨ x = 1)) : Con 5 mMain_image [aR 0 0 0, aI x] M (some (aI (-1000001))) M := by
  refine con_of okMain_image [some (aR 0 0 0), some (aI x), none] (some .int) ?_
  intro J hgo
  refine hgo [] _ _ _ _ ?_
  refine cl_ (c_Main_isSwitch x _) ?_
  refine brbf h ?_
  exact ⟨rfl, rfl⟩
theorem c_Main_image_state (x : Int32) (M : am_M) (h : x = 0 ∨ x = 1) (hn : M 4 0 0 0 = nI 0) : Con 5 mMain_image [aR 0 0 0, aI x] M (some (aI (-1000002))) M := by
  refine con_of okMain_image [some (aR 0 0 0), some (aI x), none] (some .int) ?_
  intro J hgo
  refine hgo [] _ _ _ _ ?_
  refine cl_ (c_Main_isSwitch x _) ?_
  refine brbt h ?_
  refine hgo [] _ _ _ _ ?_
  refine cl_ (c_House_stands 0 0 _ hn (by omega)) ?_
  refine brbf (by omega) ?_
  exact ⟨rfl, rfl⟩
def ImgP (M M2 : am_M) (j i : Nat) (h : Nat → Int32) : Prop := ∃ Ma, HSame M Ma j ∧ RHw (Ma 4 j) h ∧ RHp (Ma 4 j) h ∧ RHt (Ma 4 j) h ∧ SSame Ma M2 i ∧ RHs (M2 5 i) h
theorem c_Main_image_0 (w : Nat) (h : Nat → Int32) (M : am_M) (hn : M 4 0 0 0 = nI w) (hw : 0 < w) (hw8 : w ≤ 8) (hv : HV h) (hr : RH (M 4 0) (M 5 0) h) : ConP 5 mMain_image [aR 0 0 0, aI (nI 0)] M (fun r M2 => r = some (aI 1) ∧ ImgP M M2 2 1 h) := by
  refine con_of okMain_image [some (aR 0 0 0), some (aI (nI 0)), none] (some .int) ?_
  intro J hgo
  refine hgo [] _ _ _ _ ?_
  refine cl_ (c_Main_isSwitch (nI 0) _) ?_
  refine brbt (Or.inl rfl) ?_
  refine hgo [] _ _ _ _ ?_
  refine cl_ (c_House_stands w 0 _ hn (by omega)) ?_
  refine brbt hw ?_
  refine hgo [] _ _ _ _ ?_
  refine brt rfl ?_
  refine hgo [] _ _ _ _ ?_
  refine clp (c_House_take 2 0 h M (by decide) hv hr.1 hr.2.1 hr.2.2.1) ?_
  rintro r Ma ⟨rfl, a1, a2, a3, a4⟩
  refine clp (c_Spots_take 1 0 h Ma (by decide) hv (by rw [a1.1 5 (by decide)]; exact hr.2.2.2)) ?_
  rintro r M2 ⟨rfl, b1, b2⟩
  exact ⟨rfl, Ma, a1, a2, a3, a4, b1, b2⟩
theorem c_Main_image_1 (w : Nat) (h : Nat → Int32) (M : am_M) (hn : M 4 0 0 0 = nI w) (hw : 0 < w) (hw8 : w ≤ 8) (hv : HV h) (hr : RH (M 4 0) (M 5 0) h) : ConP 5 mMain_image [aR 0 0 0, aI (nI 1)] M (fun r M2 => r = some (aI 1) ∧ ImgP M M2 3 2 h) := by
  refine con_of okMain_image [some (aR 0 0 0), some (aI (nI 1)), none] (some .int) ?_
  intro J hgo
  refine hgo [] _ _ _ _ ?_
  refine cl_ (c_Main_isSwitch (nI 1) _) ?_
  refine brbt (Or.inr rfl) ?_
  refine hgo [] _ _ _ _ ?_
  refine cl_ (c_House_stands w 0 _ hn (by omega)) ?_
  refine brbt hw ?_
  refine hgo [] _ _ _ _ ?_
  refine brf (by decide) ?_
  refine hgo [] _ _ _ _ ?_
  refine clp (c_House_take 3 0 h M (by decide) hv hr.1 hr.2.1 hr.2.2.1) ?_
  rintro r Ma ⟨rfl, a1, a2, a3, a4⟩
  refine clp (c_Spots_take 2 0 h Ma (by decide) hv (by rw [a1.1 5 (by decide)]; exact hr.2.2.2)) ?_
  rintro r M2 ⟨rfl, b1, b2⟩
  exact ⟨rfl, Ma, a1, a2, a3, a4, b1, b2⟩
theorem c_Ref_image_bad (x : Int32) (M : am_M) (h : ¬ (x = 0 ∨ x = 1)) : Con 5 mRef_image [aR 11 0 0, aI x] M (some (aI (-1000001))) (rT M) := by
  refine con_of okRef_image [some (aR 11 0 0), some (aI x), none] (some .int) ?_
  intro J hgo
  refine hgo [] _ _ _ _ ?_
  refine cl_ (c_Ref_in x 0 1 _ _ _ rfl (by decide) (by decide) _) ?_
  refine brbf (fun q => h (swIn.mp q)) ?_
  exact ⟨rfl, rfl⟩
theorem c_Ref_image_state (x : Int32) (M : am_M) (h : x = 0 ∨ x = 1) (hn : M 11 0 0 7 = 0) : Con 5 mRef_image [aR 11 0 0, aI x] M (some (aI (-1000002))) (rT M) := by
  refine con_of okRef_image [some (aR 11 0 0), some (aI x), none] (some .int) ?_
  intro J hgo
  refine hgo [] _ _ _ _ ?_
  refine cl_ (c_Ref_in x 0 1 _ _ _ rfl (by decide) (by decide) _) ?_
  refine brbt (swIn.mpr h) ?_
  refine hgo [] _ _ _ _ ?_
  refine brt hn ?_
  exact ⟨rfl, rfl⟩
def imF (f h : Nat → Int32) (k n : Nat) : Nat → Int32 := fun x => if 198 * k ≤ x ∧ x < 198 * k + n then h (x - 198 * k) else f x
theorem ix198 {k i : Nat} (hk : k < 2) (hi : i ≤ 198) : (198 : Int32) * nI k + nI i = nI (198 * k + i) := by
  rw [show (198 : Int32) = nI 198 from rfl, pk_mul, nI_add]
theorem c_Ref_image_ok (k : Nat) (hk : k < 2) (M : am_M) (hth : M 11 0 0 7 = 1) : Con 5 mRef_image [aR 11 0 0, aI (nI k)] M (some (aI 1)) (sA (sA (rT M) 11 0 14 (imF (M 11 0 14) (M 11 0 4) k 198)) 11 0 13 (upd (M 11 0 13) k 1)) := by
  refine con_of okRef_image [some (aR 11 0 0), some (aI (nI k)), none] (some .int) ?_
  intro J hgo
  have loop : ∀ m i iv M2, m = 198 - i → i ≤ 198 → iv = nI i → M2 = sA (rT M) 11 0 14 (imF (M 11 0 14) (M 11 0 4) k i) → J 30 [some (aR 11 0 0), some (aI (nI k)), some (aI iv)] [] M2 := by
    intro m
    induction m with
    | zero =>
      intro i iv M2 hm hi hv hM
      obtain rfl : i = 198 := by omega
      subst hv hM
      refine hgo [] _ _ _ _ ?_
      refine brt (by decide) ?_
      refine hgo [] _ _ _ _ ?_
      refine ob_ (vp_in_nI (by omega) (by omega)) ⟨rfl, ?_⟩
      rw [cl_nI (by omega)]
      rfl
    | succ m ih =>
      intro i iv M2 hm hi hv hM
      subst hv hM
      have hi : i < 198 := by omega
      have e0 := ix198 hk (show i ≤ 198 by omega)
      refine hgo [] _ _ _ _ ?_
      refine brf (nI_ge (b := 198) hi (by omega)) ?_
      refine ob_ (vp_in_nI (by omega) (by omega)) ?_
      refine ob_ (by rw [e0]; exact vp_in_nI (by omega) (by omega)) ?_
      refine ih (i + 1) _ _ (by omega) (by omega) (nI_1 i) ?_
      rw [e0, cl_nI (by omega), cl_nI (by omega), sA_sA]
      congr 1
      funext x
      simp only [upd, imF]
      by_cases hx : x = 198 * k + i
      · rw [if_pos hx, if_pos (by omega)]
        show M 11 0 4 i = _
        congr 1
        omega
      · rw [if_neg hx]
        show (if 198 * k ≤ x ∧ x < 198 * k + i then _ else _) = _
        by_cases h2 : 198 * k ≤ x ∧ x < 198 * k + i
        · rw [if_pos h2, if_pos (by omega)]
        · rw [if_neg h2, if_neg (by omega)]
  refine hgo [] _ _ _ _ ?_
  refine cl_ (c_Ref_in (nI k) 0 1 _ _ _ rfl (by decide) (by decide) _) ?_
  refine brbt ⟨nI_pos' (by omega), nI_le (b := 1) (by omega) (by omega)⟩ ?_
  refine hgo [] _ _ _ _ ?_
  refine brf (show ¬ M 11 0 0 7 = 0 by rw [hth]; decide) ?_
  refine hgo [30] _ _ _ _ ?_
  refine loop _ 0 _ _ rfl (by omega) rfl ?_
  have e : imF (M 11 0 14) (M 11 0 4) k 0 = M 11 0 14 := by
    funext x
    unfold imF
    rw [if_neg (by omega)]
  rw [e]
  exact (sA_id (M := rT M) (k := 11) (j := 0) (o := 14)).symm
end
section
theorem RH_cong {C P : Nat → Nat → Int32} {h g : Nat → Int32} (e : ∀ i, i < 198 → g i = h i) (hv : HV h) (r : RH C P h) : RH C P g := ⟨RHw_cong e hv r.1, RHp_cong e hv r.2.1, RHt_cong e hv r.2.2.1, RHs_cong e hv r.2.2.2⟩
theorem Rimg_cong {C P : Nat → Nat → Int32} {h g : Nat → Int32} {x : Int32} (e : ∀ i, i < 198 → g i = h i) (r : Rimg C P h x) : Rimg C P g x := by
  rcases r with r | ⟨r1, r2, r3, r4⟩
  · exact Or.inl r
  · exact Or.inr ⟨r1, HV_cong e r2, RH_cong e r2 r3, by rw [nW_cong e]; exact r4⟩
theorem op_image_0 (M : am_M) (hR : Rel M) (t1 : 0 < nW (M 11 0 4)) (t2 : M 11 0 0 7 = 1) : OpAt mMain_image mRef_image [aI (nI 0)] M := by
  obtain ⟨w1, w2, w3⟩ := Rel_nw hR
  obtain ⟨-, -, -, ⟨hv, hr, -, -⟩, -, hI, -⟩ := id hR
  refine op_mkP (v := 1) (d2 := 5) (c_Main_image_0 _ (M 11 0 4) M w1 t1 w3 hv hr) (fun r M1 hp => ?_)
  obtain ⟨e, Ma, a1, a2, a3, a4, b1, b2⟩ := hp
  have hk : ∀ k, k ≠ 4 → k ≠ 5 → M1 k = M k := fun k h4 h5 => (b1.1 k h5).trans (a1.1 k h4)
  have h11 := hk 11 (by decide) (by decide)
  refine ⟨e, _, c_Ref_image_ok 0 (by decide) M1 (by rw [h11]; exact t2), fun r2 M2 hp2 => ?_⟩
  obtain ⟨rfl, rfl⟩ := hp2
  refine ⟨rfl, Rel_img hR ?_ ?_ ?_ ?_ ?_ ?_ ?_ ?_ ?_ ?_ ?_⟩
  · show M1 1 0 = _
    rw [hk 1 (by decide) (by decide)]
  · show M1 2 0 = _
    rw [hk 2 (by decide) (by decide)]
  · show M1 4 0 = _
    rw [b1.1 4 (by decide), a1.2 0 (by decide)]
  · show M1 5 0 = _
    rw [b1.2 0 (by decide), a1.1 5 (by decide)]
  · show M1 7 0 = _
    rw [hk 7 (by decide) (by decide)]
  · show M1 8 0 = _
    rw [hk 8 (by decide) (by decide)]
  · show M1 10 0 = _
    rw [hk 10 (by decide) (by decide)]
  · intro o h0 h13 h14
    rw [sA_o h13, sA_o h14]
    unfold rT
    rw [sA_o h0, h11]
  · intro i hi
    show upd (M1 11 0 0) 0 0 i = _
    rw [upd_n hi, h11]
  · show M1 0 0 0 = _
    rw [hk 0 (by decide) (by decide)]
  · have e4 : ∀ i, i < 198 → (fun i => imF (M1 11 0 14) (M1 11 0 4) 0 198 i) i = M 11 0 4 i := by
      intro i hi
      show imF (M1 11 0 14) (M1 11 0 4) 0 198 i = _
      unfold imF
      rw [if_pos (by omega), h11]
      rfl
    constructor
    · show Rimg (M1 4 2) (M1 5 1) (fun i => imF (M1 11 0 14) (M1 11 0 4) 0 198 i) (upd (M1 11 0 13) 0 1 0)
      refine Or.inr ⟨rfl, HV_cong e4 hv, RH_cong e4 hv ?_, by rw [nW_cong e4]; exact t1⟩
      rw [b1.1 4 (by decide)]
      exact ⟨a2, a3, a4, b2⟩
    · show Rimg (M1 4 3) (M1 5 2) (fun i => imF (M1 11 0 14) (M1 11 0 4) 0 198 (198 + i)) (upd (M1 11 0 13) 0 1 1)
      rw [b1.1 4 (by decide), a1.2 3 (by decide), b1.2 2 (by decide), a1.1 5 (by decide), h11]
      refine Rimg_cong (fun i hi => ?_) hI.2
      show imF (M 11 0 14) (M 11 0 4) 0 198 (198 + i) = _
      unfold imF
      rw [if_neg (by omega)]
theorem op_image_1 (M : am_M) (hR : Rel M) (t1 : 0 < nW (M 11 0 4)) (t2 : M 11 0 0 7 = 1) : OpAt mMain_image mRef_image [aI (nI 1)] M := by
  obtain ⟨w1, w2, w3⟩ := Rel_nw hR
  obtain ⟨-, -, -, ⟨hv, hr, -, -⟩, -, hI, -⟩ := id hR
  refine op_mkP (v := 1) (d2 := 5) (c_Main_image_1 _ (M 11 0 4) M w1 t1 w3 hv hr) (fun r M1 hp => ?_)
  obtain ⟨e, Ma, a1, a2, a3, a4, b1, b2⟩ := hp
  have hk : ∀ k, k ≠ 4 → k ≠ 5 → M1 k = M k := fun k h4 h5 => (b1.1 k h5).trans (a1.1 k h4)
  have h11 := hk 11 (by decide) (by decide)
  refine ⟨e, _, c_Ref_image_ok 1 (by decide) M1 (by rw [h11]; exact t2), fun r2 M2 hp2 => ?_⟩
  obtain ⟨rfl, rfl⟩ := hp2
  refine ⟨rfl, Rel_img hR ?_ ?_ ?_ ?_ ?_ ?_ ?_ ?_ ?_ ?_ ?_⟩
  · show M1 1 0 = _
    rw [hk 1 (by decide) (by decide)]
  · show M1 2 0 = _
    rw [hk 2 (by decide) (by decide)]
  · show M1 4 0 = _
    rw [b1.1 4 (by decide), a1.2 0 (by decide)]
  · show M1 5 0 = _
    rw [b1.2 0 (by decide), a1.1 5 (by decide)]
  · show M1 7 0 = _
    rw [hk 7 (by decide) (by decide)]
  · show M1 8 0 = _
    rw [hk 8 (by decide) (by decide)]
  · show M1 10 0 = _
    rw [hk 10 (by decide) (by decide)]
  · intro o h0 h13 h14
    rw [sA_o h13, sA_o h14]
    unfold rT
    rw [sA_o h0, h11]
  · intro i hi
    show upd (M1 11 0 0) 0 0 i = _
    rw [upd_n hi, h11]
  · show M1 0 0 0 = _
    rw [hk 0 (by decide) (by decide)]
  · have e4 : ∀ i, i < 198 → (fun i => imF (M1 11 0 14) (M1 11 0 4) 1 198 (198 + i)) i = M 11 0 4 i := by
      intro i hi
      show imF (M1 11 0 14) (M1 11 0 4) 1 198 (198 + i) = _
      unfold imF
      rw [if_pos (by omega), h11, show 198 + i - 198 * 1 = i by omega]
    constructor
    · show Rimg (M1 4 2) (M1 5 1) (fun i => imF (M1 11 0 14) (M1 11 0 4) 1 198 i) (upd (M1 11 0 13) 1 1 0)
      rw [b1.1 4 (by decide), a1.2 2 (by decide), b1.2 1 (by decide), a1.1 5 (by decide), h11]
      refine Rimg_cong (fun i hi => ?_) hI.1
      show imF (M 11 0 14) (M 11 0 4) 1 198 i = _
      unfold imF
      rw [if_neg (by omega)]
    · show Rimg (M1 4 3) (M1 5 2) (fun i => imF (M1 11 0 14) (M1 11 0 4) 1 198 (198 + i)) (upd (M1 11 0 13) 1 1 1)
      refine Or.inr ⟨rfl, HV_cong e4 hv, RH_cong e4 hv ?_, by rw [nW_cong e4]; exact t1⟩
      rw [b1.1 4 (by decide)]
      exact ⟨a2, a3, a4, b2⟩
theorem op_image (x : Int32) (M : am_M) (hR : Rel M) : OpAt mMain_image mRef_image [aI x] M := by
  by_cases hx : x = 0 ∨ x = 1
  · rcases Rel_there hR with ⟨t1, t2⟩ | ⟨t1, t2⟩
    · have w1 := (Rel_nw hR).1
      rw [t1] at w1
      exact op_mk (c_Main_image_state x M hx w1) (c_Ref_image_state x M hx t2) (Rel_bad hR)
    · rcases hx with rfl | rfl
      · exact op_image_0 M hR t1 t2
      · exact op_image_1 M hR t1 t2
  · exact op_mk (c_Main_image_bad x M hx) (c_Ref_image_bad x M hx) (Rel_bad hR)
end
section
/-! rolls -/
def c1 (len : Int32) (s : Int32 × Int32 × Int32) : Int32 × Int32 × Int32 := (s.1 + 1, (if s.2.2 < len then s.2.1 + 1 else s.2.1), (if s.2.2 < len then 1000 else s.2.2) - len)
def cN (len : Int32) : Nat → Int32 × Int32 × Int32 → Int32 × Int32 × Int32
  | 0, s => s
  | n + 1, s => c1 len (cN len n s)
def cW (f : Nat → Bool) (len : Nat → Int32) (cnt : Nat → Nat) : Nat → Int32 × Int32 × Int32
  | 0 => (0, 0, 0)
  | w + 1 => if f w = true then cN (len w) (cnt w) (cW f len cnt w) else cW f len cnt w
def wS (f : Nat → Bool) (wd : Nat → Int32) : Nat → Int32
  | 0 => 0
  | w + 1 => if f w = true then wS f wd w + wd w else wS f wd w
def CS (M2 M : am_M) (s : Int32 × Int32 × Int32) : Prop := (∀ k, k ≠ 9 → M2 k = M k) ∧ M2 9 0 0 0 = s.1 ∧ M2 9 0 0 1 = s.2.1 ∧ M2 9 0 0 2 = s.2.2
def lenI (hg re : Int32) : Int32 := (hg + re - 1) / re * re
theorem c_Main_partsUp (a p : Int32) (M : am_M) (hp : 0 < p) : Con 1 mMain_partsUp [aI a, aI p] M (some (aI ((a + p - 1) / p))) M := by
  refine con_of okMain_partsUp [some (aI a), some (aI p)] (some .int) ?_
  intro J hgo
  refine hgo [] _ _ _ _ ?_
  refine brt hp ?_
  refine hgo [] _ _ _ _ ?_
  refine ob_ (fun e => by rw [e] at hp; exact absurd hp (by decide)) ?_
  exact ⟨rfl, rfl⟩
theorem c_Cutter_cutWall (p w re wd : Nat) (hg : Int32) (s : Int32 × Int32 × Int32) (M1 M : am_M) (hcs : CS M1 M s) (hp : p < 10) (hw : w < 8) (hre : M 4 0 8 p = nI re) (r1 : 1 ≤ re) (r2 : re ≤ 99) (hh : M 4 0 3 w = hg) (hd : M 4 0 2 w = nI wd) (hd2 : wd ≤ 999) : ConP 2 mCutter_cutWall [aR 9 0 0, aR 4 0 0, aI (nI p), aI (nI w)] M1 (fun r M3 => r = none ∧ CS M3 M (cN (lenI hg (nI re)) ((wd + 49) / 50) s)) := by
  have h4 := hcs.1 4 (by decide)
  refine con_of okCutter_cutWall [some (aR 9 0 0), some (aR 4 0 0), some (aI (nI p)), some (aI (nI w)), none, none, none, none] none ?_
  intro J hgo
  have loop : ∀ m c cv v4 v5 v6 M2, m = (wd + 49) / 50 - c → c ≤ (wd + 49) / 50 → cv = nI c → v4 = nI re → v5 = lenI hg (nI re) → v6 = nI ((wd + 49) / 50) → CS M2 M (cN (lenI hg (nI re)) c s) → J 40 [some (aR 9 0 0), some (aR 4 0 0), some (aI (nI p)), some (aI (nI w)), some (aI v4), some (aI v5), some (aI v6), some (aI cv)] [] M2 := by
    intro m
    induction m with
    | zero =>
      intro c cv v4 v5 v6 M2 hm hc hv h4 h5 h6 hC
      have hc : c = (wd + 49) / 50 := by omega
      subst hv h4 h5 h6
      refine hgo [] _ _ _ _ ?_
      refine brt (by rw [hc]; exact nI_le (Nat.le_refl _) (by omega)) ?_
      refine hgo [] _ _ _ _ ?_
      exact ⟨rfl, by rw [← hc]; exact hC⟩
    | succ m ih =>
      intro c cv v4 v5 v6 M2 hm hc hv h4 h5 h6 hC
      subst hv h4 h5 h6
      obtain ⟨q0, q1, q2, q3⟩ := hC
      refine hgo [] _ _ _ _ ?_
      refine brf (nI_ge (by omega) (by omega)) ?_
      refine br_ (fun hl => ?_) (fun hl => ?_)
      · refine hgo [] _ _ _ _ ?_
        refine ih (c + 1) _ _ _ _ _ (by omega) (by omega) (nI_1 c) rfl rfl rfl ?_
        have hl : ¬ (cN (lenI hg (nI re)) c s).2.2 < lenI hg (nI re) := by
          rw [← q3]
          exact Int32.not_lt.mpr hl
        refine ⟨fun k hk => by rw [sA_k hk, sA_k hk]; exact q0 k hk, ?_, ?_, ?_⟩
        · show M2 9 0 0 0 + 1 = _
          rw [q1]
          rfl
        · show M2 9 0 0 1 = (if _ then _ else _)
          rw [if_neg hl, q2]
        · show M2 9 0 0 2 - _ = (if _ then _ else _) - _
          rw [if_neg hl, q3]
      · refine ih (c + 1) _ _ _ _ _ (by omega) (by omega) (nI_1 c) rfl rfl rfl ?_
        have hl : (cN (lenI hg (nI re)) c s).2.2 < lenI hg (nI re) := by
          rw [← q3]
          exact Int32.not_le.mp hl
        refine ⟨fun k hk => by rw [sA_k hk, sA_k hk, sA_k hk, sA_k hk]; exact q0 k hk, ?_, ?_, ?_⟩
        · show M2 9 0 0 0 + 1 = _
          rw [q1]
          rfl
        · show M2 9 0 0 1 + 1 = (if _ then _ else _)
          rw [if_pos hl, q2]
        · show (1000 : Int32) - lenI hg (nI re) = (if (cN (lenI hg (nI re)) c s).2.2 < lenI hg (nI re) then (1000 : Int32) else (cN (lenI hg (nI re)) c s).2.2) - lenI hg (nI re)
          rw [if_pos hl]
  have e1 : M1 4 0 8 (nI p).toNatClampNeg = nI re := by rw [cl_nI (by omega), h4, hre]
  have e2 : M1 4 0 3 (nI w).toNatClampNeg = hg := by rw [cl_nI (by omega), h4, hh]
  have e3 : M1 4 0 2 (nI w).toNatClampNeg = nI wd := by rw [cl_nI (by omega), h4, hd]
  refine hgo [40] _ _ _ _ ?_
  refine ob_ (vp_in_nI (by omega) (by omega)) ?_
  refine ob_ (vp_in_nI (by omega) (by omega)) ?_
  refine cle (c_Main_partsUp hg (nI re) M1 (nI_lt (a := 0) (by omega) (by omega))) (by rw [← e1, ← e2]) rfl ?_
  refine ob_ (vp_in_nI (by omega) (by omega)) ?_
  refine cle (c_Main_partsUp (nI wd) 50 M1 (by decide)) (by rw [← e3]) rfl ?_
  refine loop _ 0 _ _ _ _ _ rfl (by omega) rfl e1 (by rw [e1]; rfl) ?_ hcs
  rw [show (50 : Int32) = nI 50 from rfl, nI_add, show nI (wd + 50) - 1 = nI (wd + 50 - 1) from pk_sub (a := wd + 50) (b := 1) (by omega), pk_div (by omega) (by omega) (by omega)]
  rfl
theorem c_Cutter_widthOf (n : Nat) (f : Nat → Bool) (M : am_M) (hn : M 4 0 0 0 = nI n) (h8 : n ≤ 8) : Con 2 mCutter_widthOf [aR 9 0 0, aR 4 0 0, aI (bs f)] M (some (aI (wS f (M 4 0 2) n))) M := by
  refine con_of okCutter_widthOf [some (aR 9 0 0), some (aR 4 0 0), some (aI (bs f)), none, none] (some .int) ?_
  intro J hgo
  have loop : ∀ m c cv x, m = n - c → c ≤ n → cv = nI c → x = wS f (M 4 0 2) c → J 5 [some (aR 9 0 0), some (aR 4 0 0), some (aI (bs f)), some (aI x), some (aI cv)] [] M := by
    intro m
    induction m with
    | zero =>
      intro c cv x hm hc hv hx
      obtain rfl : c = n := by omega
      subst hv hx
      refine hgo [] _ _ _ _ ?_
      refine brt (show M 4 0 0 0 ≤ nI c by rw [hn]; exact nI_le (Nat.le_refl _) (by omega)) ?_
      refine hgo [] _ _ _ _ ?_
      exact ⟨rfl, rfl⟩
    | succ m ih =>
      intro c cv x hm hc hv hx
      subst hv hx
      have hlt : c < n := by omega
      refine hgo [33] _ _ _ _ ?_
      refine brf (show ¬ M 4 0 0 0 ≤ nI c by rw [hn]; exact nI_ge hlt (by omega)) ?_
      refine cl_ (c_Main_has f c _ (by omega)) ?_
      have nx : ∀ x, x = wS f (M 4 0 2) (c + 1) → J 33 [some (aR 9 0 0), some (aR 4 0 0), some (aI (bs f)), some (aI x), some (aI (nI c))] [] M := by
        intro x hx
        refine hgo [] _ _ _ _ ?_
        exact ih (c + 1) _ _ (by omega) (by omega) (nI_1 c) hx
      refine brb (fun h1 => ?_) (fun h1 => ?_)
      · refine nx _ ?_
        show _ = if f c = true then _ else _
        rw [if_neg h1]
      · refine ob_ (vp_in_nI (by omega) (by omega)) ?_
        refine nx _ ?_
        rw [cl_nI (by omega)]
        show _ = if f c = true then _ else _
        rw [if_pos h1]
  refine hgo [5] _ _ _ _ ?_
  exact loop _ 0 _ _ rfl (by omega) rfl rfl
def rlS (kd : Nat) (f : Nat → Bool) (wdI : Nat → Int32) (len : Nat → Int32) (cnt : Nat → Nat) (n : Nat) : Int32 × Int32 × Int32 := if kd = 5 then (0, (wS f wdI n + 499) / 500, 0) else cW f len cnt n
theorem c_Cutter_cut (nw np p kd re : Nat) (wd : Nat → Nat) (f : Nat → Bool) (M : am_M) (hn : M 4 0 0 0 = nI nw) (h8 : nw ≤ 8) (hnp : M 4 0 0 4 = nI np) (h10 : np ≤ 10) (hp : p < np) (hk : M 4 0 4 p = nI kd) (hk1 : 1 ≤ kd) (hk5 : kd ≤ 5) (hre : M 4 0 8 p = nI re) (r1 : 1 ≤ re) (r2 : re ≤ 99) (hd : ∀ w, w < nw → M 4 0 2 w = nI (wd w) ∧ wd w ≤ 999) : ConP 3 mCutter_cut [aR 9 0 0, aR 4 0 0, aI (nI p), aI (bs f)] M (fun r M3 => r = none ∧ CS M3 M (rlS kd f (M 4 0 2) (fun w => lenI (M 4 0 3 w) (nI re)) (fun w => (wd w + 49) / 50) nw)) := by
  refine con_of okCutter_cut [some (aR 9 0 0), some (aR 4 0 0), some (aI (nI p)), some (aI (bs f)), none] none ?_
  intro J hgo
  have loop : ∀ m c cv M2, m = nw - c → c ≤ nw → cv = nI c → ¬ kd = 5 → CS M2 M (cW f (fun w => lenI (M 4 0 3 w) (nI re)) (fun w => (wd w + 49) / 50) c) → J 44 [some (aR 9 0 0), some (aR 4 0 0), some (aI (nI p)), some (aI (bs f)), some (aI cv)] [] M2 := by
    intro m
    induction m with
    | zero =>
      intro c cv M2 hm hc hv h5 hC
      obtain rfl : c = nw := by omega
      subst hv
      have h4 := hC.1 4 (by decide)
      refine hgo [] _ _ _ _ ?_
      refine brt (show M2 4 0 0 0 ≤ nI c by rw [h4, hn]; exact nI_le (Nat.le_refl _) (by omega)) ?_
      refine hgo [] _ _ _ _ ?_
      refine ⟨rfl, ?_⟩
      unfold rlS
      rw [if_neg h5]
      exact hC
    | succ m ih =>
      intro c cv M2 hm hc hv h5 hC
      subst hv
      have hlt : c < nw := by omega
      have h4 := hC.1 4 (by decide)
      have nx : ∀ M3, CS M3 M (cW f (fun w => lenI (M 4 0 3 w) (nI re)) (fun w => (wd w + 49) / 50) (c + 1)) → J 70 [some (aR 9 0 0), some (aR 4 0 0), some (aI (nI p)), some (aI (bs f)), some (aI (nI c))] [] M3 := by
        intro M3 h3
        refine hgo [] _ _ _ _ ?_
        exact ih (c + 1) _ _ (by omega) (by omega) (nI_1 c) h5 h3
      refine hgo [70] _ _ _ _ ?_
      refine brf (show ¬ M2 4 0 0 0 ≤ nI c by rw [h4, hn]; exact nI_ge hlt (by omega)) ?_
      refine cl_ (c_Main_has f c _ (by omega)) ?_
      refine brb (fun h1 => ?_) (fun h1 => ?_)
      · refine nx _ ?_
        unfold cW
        rw [if_neg h1]
        exact hC
      · refine clp (c_Cutter_cutWall p c re (wd c) _ _ M2 M hC (by omega) (by omega) hre r1 r2 rfl (hd c hlt).1 (hd c hlt).2) ?_
        rintro r M3 ⟨rfl, h3⟩
        refine nx _ ?_
        unfold cW
        rw [if_pos h1]
        exact h3
  refine hgo [44] _ _ _ _ ?_
  refine cl_ (c_House_isOf 0 np p kd 5 _ hnp h10 hp hk hk1 hk5 (by omega)) ?_
  refine brb (fun h1 => ?_) (fun h1 => ?_)
  · have h5 : ¬ kd = 5 := by
      intro e
      subst e
      exact h1 (by decide)
    refine hgo [44] _ _ _ _ ?_
    refine loop _ 0 _ _ rfl (by omega) rfl h5 ?_
    exact ⟨fun k hk => by rw [sA_k hk, sA_k hk, sA_k hk], rfl, rfl, rfl⟩
  · have h5 : kd = 5 := by
      simp [isk] at h1
      exact h1
    refine cl_ (c_Cutter_widthOf nw f _ hn h8) ?_
    refine cl_ (c_Main_partsUp _ 500 _ (by decide)) ?_
    refine ⟨rfl, ?_⟩
    unfold rlS
    rw [if_pos h5]
    refine ⟨fun k hk => by rw [sA_k hk, sA_k hk, sA_k hk, sA_k hk], rfl, ?_, rfl⟩
    show (wS f (M 4 0 2) nw + 500 - 1) / 500 = (wS f (M 4 0 2) nw + 499) / 500
    rw [Int32.sub_eq_add_neg, Int32.add_assoc]
    rfl
end
section
theorem c_Ref_painted (n : Nat) (f : Nat → Bool) (x : Int32) (wd : Nat → Int32) (M : am_M) (hn : M 11 0 4 0 = nI n) (h8 : n ≤ 8) (hd : ∀ w, w < n → M 11 0 4 (4 + 3 * w + 1) = wd w) : Con 3 mRef_painted [aR 11 0 0, aI (bs f), aI x] M (some (aI (if x = 1 then (wS f wd n + 499) / 500 else 0))) M := by
  refine con_of okRef_painted [some (aR 11 0 0), some (aI (bs f)), some (aI x), none, none] (some .int) ?_
  intro J hgo
  have loop : ∀ m c cv y, m = n - c → c ≤ n → cv = nI c → y = wS f wd c → J 5 [some (aR 11 0 0), some (aI (bs f)), some (aI x), some (aI y), some (aI cv)] [] M := by
    intro m
    induction m with
    | zero =>
      intro c cv y hm hc hv hy
      obtain rfl : c = n := by omega
      subst hv hy
      refine hgo [] _ _ _ _ ?_
      refine ob_ (vp_in_nI (n := 0) (N := 198) (by omega) (by omega)) ?_
      refine brt (show M 11 0 4 0 ≤ nI c by rw [hn]; exact nI_le (Nat.le_refl _) (by omega)) ?_
      refine hgo [] _ _ _ _ ?_
      refine br_ (fun h1 => ?_) (fun h1 => ?_)
      · refine ob_ (by decide) ?_
        refine hgo [] _ _ _ _ ?_
        refine ⟨?_, rfl⟩
        rw [if_pos h1]
      · refine hgo [] _ _ _ _ ?_
        refine ⟨?_, rfl⟩
        rw [if_neg h1]
    | succ m ih =>
      intro c cv y hm hc hv hy
      subst hv hy
      have hlt : c < n := by omega
      have nx : ∀ y, wS f wd c + y = wS f wd (c + 1) → J 37 [some (aR 11 0 0), some (aI (bs f)), some (aI x), some (aI (wS f wd c)), some (aI (nI c))] [aI y, aI (wS f wd c)] M := by
        intro y hy
        refine hgo [] _ _ _ _ ?_
        exact ih (c + 1) _ _ (by omega) (by omega) (nI_1 c) hy
      refine hgo [37] _ _ _ _ ?_
      refine ob_ (vp_in_nI (n := 0) (N := 198) (by omega) (by omega)) ?_
      refine brf (show ¬ M 11 0 4 0 ≤ nI c by rw [hn]; exact nI_ge hlt (by omega)) ?_
      refine cl_ (c_Ref_isIn f c _ (by omega)) ?_
      refine brb (fun h1 => ?_) (fun h1 => ?_)
      · refine hgo [37] _ _ _ _ ?_
        refine nx _ ?_
        show _ = if f c = true then _ else _
        rw [if_neg h1, Int32.add_zero]
      · refine cl_ (c_Ref_wall c 1 _ (by omega) (by omega)) ?_
        refine nx _ ?_
        show _ = if f c = true then _ else _
        rw [if_pos h1, hd c hlt]
  refine hgo [5] _ _ _ _ ?_
  exact loop _ 0 _ _ rfl (by omega) rfl rfl
def pick (x : Int32) (s : Int32 × Int32 × Int32) : Int32 := if x = 0 then s.1 else if x = 1 then s.2.1 else s.2.2
theorem c_Ref_rolls_bad (np nw : Nat) (p y x : Int32) (M : am_M) (hnp : M 11 0 4 1 = nI np) (h10 : np ≤ 10) (hn : M 11 0 4 0 = nI nw) (h8 : nw ≤ 8) (hb : ¬ ((0 ≤ p.toInt ∧ p.toInt < np) ∧ (0 ≤ y.toInt ∧ y.toInt < (2 ^ nw : Nat)) ∧ (0 ≤ x ∧ x ≤ 2))) : Con 4 mRef_rolls [aR 11 0 0, aI p, aI y, aI x] M (some (aI (-1000001))) (rT M) := by
  refine con_of okRef_rolls [some (aR 11 0 0), some (aI p), some (aI y), some (aI x), none, none, none, none, none, none, none] (some .int) ?_
  intro J hgo
  have p45 : J 45 [some (aR 11 0 0), some (aI p), some (aI y), some (aI x), none, none, none, none, none, none, none] [] (rT M) := by
    refine hgo [] _ _ _ _ ?_
    exact ⟨rfl, rfl⟩
  refine hgo [45] _ _ _ _ ?_
  refine cl_ (c_Ref_isPaper np p _ hnp (by omega)) ?_
  refine brb (fun h1 => p45) (fun h1 => ?_)
  refine ob_ (vp_in_nI (n := 0) (N := 198) (by omega) (by omega)) ?_
  refine cl_ (c_Ref_in y 0 ((1 : Int32) <<< (M 11 0 4 0 &&& 31) - 1) _ _ _ rfl (by decide) rfl _) ?_
  refine brb (fun h2 => p45) (fun h2 => ?_)
  rw [hn, setIn (by omega)] at h2
  refine cl_ (c_Ref_in x 0 2 _ _ _ rfl (by decide) (by decide) _) ?_
  refine brbf (fun h3 => hb ⟨h1, h2, h3⟩) ?_
  exact p45
theorem c_Ref_rolls_ok (np nw p kd re : Nat) (wd : Nat → Nat) (hgI : Nat → Int32) (f : Nat → Bool) (y x : Int32) (M : am_M) (hnp : M 11 0 4 1 = nI np) (h10 : np ≤ 10) (hn : M 11 0 4 0 = nI nw) (h8 : nw ≤ 8) (hp : p < np) (hy : 0 ≤ y.toInt ∧ y.toInt < (2 ^ nw : Nat)) (hyf : y = bs f) (hx : 0 ≤ x ∧ x ≤ 2) (hk : M 11 0 4 (28 + 5 * p) = nI kd) (hk5 : kd ≤ 5) (hre : M 11 0 4 (28 + 5 * p + 4) = nI re) (r1 : 1 ≤ re) (r2 : re ≤ 99) (hd : ∀ w, w < nw → M 11 0 4 (4 + 3 * w + 1) = nI (wd w) ∧ wd w ≤ 999 ∧ M 11 0 4 (4 + 3 * w + 2) = hgI w) : Con 4 mRef_rolls [aR 11 0 0, aI (nI p), aI y, aI x] M (some (aI (pick x (rlS kd f (fun w => nI (wd w)) (fun w => lenI (hgI w) (nI re)) (fun w => (wd w + 49) / 50) nw)))) (rT M) := by
  refine con_of okRef_rolls [some (aR 11 0 0), some (aI (nI p)), some (aI y), some (aI x), none, none, none, none, none, none, none] (some .int) ?_
  intro J hgo
  have outer : ∀ m c cv v4 a b l (z9 z10 : Option am_V), m = nw - c → c ≤ nw → cv = nI c → v4 = nI re → ¬ kd = 5 → (a, b, l) = cW f (fun w => lenI (hgI w) (nI re)) (fun w => (wd w + 49) / 50) c → J 85 [some (aR 11 0 0), some (aI (nI p)), some (aI y), some (aI x), some (aI v4), some (aI a), some (aI b), some (aI l), some (aI cv), z9, z10] [] (rT M) := by
    intro m
    induction m with
    | zero =>
      intro c cv v4 a b l z9 z10 hm hc hv h4 h5 hs
      obtain rfl : c = nw := by omega
      subst hv h4
      have e : ∀ r, r = pick x (a, b, l) → r = pick x (rlS kd f (fun w => nI (wd w)) (fun w => lenI (hgI w) (nI re)) (fun w => (wd w + 49) / 50) c) := by
        intro r hr
        unfold rlS
        rw [if_neg h5, ← hs]
        exact hr
      refine hgo [] _ _ _ _ ?_
      refine ob_ (vp_in_nI (n := 0) (N := 198) (by omega) (by omega)) ?_
      refine brt (show M 11 0 4 0 ≤ nI c by rw [hn]; exact nI_le (Nat.le_refl _) (by omega)) ?_
      refine hgo [] _ _ _ _ ?_
      refine br_ (fun h1 => ?_) (fun h1 => ?_)
      · refine hgo [] _ _ _ _ ?_
        refine ⟨?_, rfl⟩
        rw [e _ (show a = pick x (a, b, l) by unfold pick; rw [if_pos h1])]
      · refine hgo [] _ _ _ _ ?_
        refine br_ (fun h2 => ?_) (fun h2 => ?_)
        · refine hgo [] _ _ _ _ ?_
          refine ⟨?_, rfl⟩
          rw [e _ (show b = pick x (a, b, l) by unfold pick; rw [if_neg h1, if_pos h2])]
        · refine hgo [] _ _ _ _ ?_
          refine ⟨?_, rfl⟩
          rw [e _ (show l = pick x (a, b, l) by unfold pick; rw [if_neg h1, if_neg h2])]
    | succ m ih =>
      intro c cv v4 a b l z9 z10 hm hc hv h4 h5 hs
      subst hv h4
      have hlt : c < nw := by omega
      obtain ⟨d1, d2, d3⟩ := hd c hlt
      have nx : ∀ a b l (z9 z10 : Option am_V), (a, b, l) = cW f (fun w => lenI (hgI w) (nI re)) (fun w => (wd w + 49) / 50) (c + 1) → J 189 [some (aR 11 0 0), some (aI (nI p)), some (aI y), some (aI x), some (aI (nI re)), some (aI a), some (aI b), some (aI l), some (aI (nI c)), z9, z10] [] (rT M) := by
        intro a b l z9 z10 hs
        refine hgo [] _ _ _ _ ?_
        exact ih (c + 1) _ _ _ _ _ _ _ (by omega) (by omega) (nI_1 c) rfl h5 hs
      have inner : ∀ q k kv v9 a2 b2 l2, q = (wd c + 49) / 50 - k → k ≤ (wd c + 49) / 50 → kv = nI (50 * k) → v9 = lenI (hgI c) (nI re) → f c = true → (a2, b2, l2) = cN (lenI (hgI c) (nI re)) k (a, b, l) → J 119 [some (aR 11 0 0), some (aI (nI p)), some (aI y), some (aI x), some (aI (nI re)), some (aI a2), some (aI b2), some (aI l2), some (aI (nI c)), some (aI v9), some (aI kv)] [] (rT M) := by
        intro q
        induction q with
        | zero =>
          intro k kv v9 a2 b2 l2 hq hk hv h9 hf hs2
          have hk : k = (wd c + 49) / 50 := by omega
          subst hv h9
          refine hgo [] _ _ _ _ ?_
          refine cl_ (c_Ref_wall c 1 _ (by omega) (by omega)) ?_
          refine brt (show M 11 0 4 (4 + 3 * c + 1) ≤ nI (50 * k) by rw [d1]; exact nI_le (by omega) (by omega)) ?_
          refine nx _ _ _ _ _ ?_
          unfold cW
          rw [if_pos hf, ← hs, hs2, hk]
        | succ q ih2 =>
          intro k kv v9 a2 b2 l2 hq hk hv h9 hf hs2
          subst hv h9
          have step : ∀ a3 b3 l3, (a3, b3, l3) = c1 (lenI (hgI c) (nI re)) (a2, b2, l2) → J 119 [some (aR 11 0 0), some (aI (nI p)), some (aI y), some (aI x), some (aI (nI re)), some (aI a3), some (aI b3), some (aI l3), some (aI (nI c)), some (aI (lenI (hgI c) (nI re))), some (aI (nI (50 * k) + 50))] [] (rT M) := by
            intro a3 b3 l3 h3
            refine ih2 (k + 1) _ _ _ _ _ (by omega) (by omega) ?_ rfl hf ?_
            · rw [show (50 : Int32) = nI 50 from rfl, nI_add]
              congr 1
            · rw [h3, hs2]
              rfl
          refine hgo [] _ _ _ _ ?_
          refine cl_ (c_Ref_wall c 1 _ (by omega) (by omega)) ?_
          refine brf (show ¬ M 11 0 4 (4 + 3 * c + 1) ≤ nI (50 * k) by rw [d1]; exact nI_ge (by omega) (by omega)) ?_
          refine cle (c_Ref_isIn f c (rT M) (by omega)) (by rw [hyf]) rfl ?_
          refine brbt hf ?_
          refine br_ (fun hl => ?_) (fun hl => ?_)
          · refine hgo [] _ _ _ _ ?_
            refine brt hl ?_
            refine hgo [] _ _ _ _ ?_
            refine step _ _ _ ?_
            unfold c1
            rw [if_neg (Int32.not_lt.mpr hl), if_neg (Int32.not_lt.mpr hl), Int32.add_zero]
          · refine hgo [] _ _ _ _ ?_
            refine brf hl ?_
            refine hgo [] _ _ _ _ ?_
            refine step _ _ _ ?_
            unfold c1
            rw [if_pos (Int32.not_le.mp hl), if_pos (Int32.not_le.mp hl)]
      refine hgo [119] _ _ _ _ ?_
      refine ob_ (vp_in_nI (n := 0) (N := 198) (by omega) (by omega)) ?_
      refine brf (show ¬ M 11 0 4 0 ≤ nI c by rw [hn]; exact nI_ge hlt (by omega)) ?_
      refine cl_ (c_Ref_wall c 2 _ (by omega) (by omega)) ?_
      refine ob_ (nI_ne0 (by omega) (by omega)) ?_
      by_cases hf : f c = true
      · refine inner _ 0 _ _ _ _ _ rfl (by omega) rfl ?_ hf rfl
        show (M 11 0 4 (4 + 3 * c + 2) + nI re - 1) / nI re * nI re = _
        rw [d3]
        rfl
      · refine hgo [] _ _ _ _ ?_
        refine cl_ (c_Ref_wall c 1 _ (by omega) (by omega)) ?_
        refine br_ (fun h1 => ?_) (fun h1 => ?_)
        · refine nx _ _ _ _ _ ?_
          unfold cW
          rw [if_neg hf, hs]
        · refine cle (c_Ref_isIn f c (rT M) (by omega)) (by rw [hyf]) rfl ?_
          refine brbf hf ?_
          refine nx _ _ _ _ _ ?_
          unfold cW
          rw [if_neg hf, hs]
  refine hgo [] _ _ _ _ ?_
  refine cl_ (c_Ref_isPaper np (nI p) _ hnp (by omega)) ?_
  refine brbt (by rw [i3_n (by omega)]; omega) ?_
  refine ob_ (vp_in_nI (n := 0) (N := 198) (by omega) (by omega)) ?_
  refine cl_ (c_Ref_in y 0 ((1 : Int32) <<< (M 11 0 4 0 &&& 31) - 1) _ _ _ rfl (by decide) rfl _) ?_
  refine brbt (by rw [hn, setIn (by omega)]; exact hy) ?_
  refine cl_ (c_Ref_in x 0 2 _ _ _ rfl (by decide) (by decide) _) ?_
  refine brbt hx ?_
  refine hgo [85] _ _ _ _ ?_
  refine cl_ (c_Ref_of p 0 _ (by omega) (by omega)) ?_
  refine br_ (fun h1 => ?_) (fun h1 => ?_)
  · have h5 : kd = 5 := (nI_eq (a := kd) (b := 5) (by omega) (by omega)).mp (by rw [← hk]; exact h1)
    refine cle (c_Ref_painted nw f x (fun w => nI (wd w)) (rT M) hn h8 (fun w hw => (hd w hw).1)) (by rw [hyf]) rfl ?_
    refine ⟨?_, rfl⟩
    unfold rlS pick
    rw [if_pos h5]
    by_cases hx0 : x = 0
    · subst hx0
      rfl
    · rw [if_neg hx0]
  · have h5 : ¬ kd = 5 := fun e => h1 (by show M 11 0 4 (28 + 5 * p) = 5; rw [hk, e]; rfl)
    refine hgo [85] _ _ _ _ ?_
    refine cl_ (c_Ref_of p 4 _ (by omega) (by omega)) ?_
    exact outer _ 0 _ _ _ _ _ _ _ rfl (by omega) rfl hre h5 rfl
end
section
theorem c_Main_rolls_bad (np nw : Nat) (p y x : Int32) (M : am_M) (hnp : M 4 0 0 4 = nI np) (h10 : np ≤ 10) (hn : M 4 0 0 0 = nI nw) (h8 : nw ≤ 8) (hb : ¬ ((0 ≤ p.toInt ∧ p.toInt < np) ∧ (0 ≤ y.toInt ∧ y.toInt < (2 ^ nw : Nat)) ∧ (0 ≤ x ∧ x ≤ 2))) : Con 4 mMain_rolls [aR 0 0 0, aI p, aI y, aI x] M (some (aI (-1000001))) M := by
  refine con_of okMain_rolls [some (aR 0 0 0), some (aI p), some (aI y), some (aI x)] (some .int) ?_
  intro J hgo
  have p34 : J 34 [some (aR 0 0 0), some (aI p), some (aI y), some (aI x)] [] M := by
    refine hgo [] _ _ _ _ ?_
    exact ⟨rfl, rfl⟩
  refine hgo [34] _ _ _ _ ?_
  refine cl_ (c_House_isPaper np 0 p _ hnp (by omega)) ?_
  refine brb (fun h1 => p34) (fun h1 => ?_)
  refine cle (c_Main_isSetOf y nw M (by omega)) (by show [aI y, aI (M 4 0 0 0)] = _; rw [hn]) rfl ?_
  refine brb (fun h2 => p34) (fun h2 => ?_)
  refine br_ (fun h3 => p34) (fun h3 => ?_)
  refine brf (fun h4 => hb ⟨h1, h2, Int32.not_lt.mp h3, h4⟩) ?_
  exact p34
theorem c_Main_rolls_ok (nw np p kd re : Nat) (wd : Nat → Nat) (f : Nat → Bool) (y x : Int32) (M : am_M) (hn : M 4 0 0 0 = nI nw) (h8 : nw ≤ 8) (hnp : M 4 0 0 4 = nI np) (h10 : np ≤ 10) (hp : p < np) (hy : 0 ≤ y.toInt ∧ y.toInt < (2 ^ nw : Nat)) (hyf : y = bs f) (hx : 0 ≤ x ∧ x ≤ 2) (hk : M 4 0 4 p = nI kd) (hk1 : 1 ≤ kd) (hk5 : kd ≤ 5) (hre : M 4 0 8 p = nI re) (r1 : 1 ≤ re) (r2 : re ≤ 99) (hd : ∀ w, w < nw → M 4 0 2 w = nI (wd w) ∧ wd w ≤ 999) : ConP 4 mMain_rolls [aR 0 0 0, aI (nI p), aI y, aI x] M (fun r M2 => r = some (aI (pick x (rlS kd f (M 4 0 2) (fun w => lenI (M 4 0 3 w) (nI re)) (fun w => (wd w + 49) / 50) nw))) ∧ ∀ k, k ≠ 9 → M2 k = M k) := by
  refine con_of okMain_rolls [some (aR 0 0 0), some (aI (nI p)), some (aI y), some (aI x)] (some .int) ?_
  intro J hgo
  refine hgo [] _ _ _ _ ?_
  refine cl_ (c_House_isPaper np 0 (nI p) _ hnp (by omega)) ?_
  refine brbt (by rw [i3_n (by omega)]; omega) ?_
  refine cle (c_Main_isSetOf y nw M (by omega)) (by show [aI y, aI (M 4 0 0 0)] = _; rw [hn]) rfl ?_
  refine brbt hy ?_
  refine brf (Int32.not_lt.mpr hx.1) ?_
  refine brt hx.2 ?_
  refine hgo [] _ _ _ _ ?_
  refine clpe (c_Cutter_cut nw np p kd re wd f M hn h8 hnp h10 hp hk hk1 hk5 hre r1 r2 hd) (by rw [hyf]) rfl ?_
  rintro r M2 ⟨rfl, q0, q1, q2, q3⟩
  refine br_ (fun h1 => ?_) (fun h1 => ?_)
  · refine ⟨?_, q0⟩
    unfold pick
    rw [if_pos h1, ← q1]
  · refine hgo [] _ _ _ _ ?_
    refine br_ (fun h2 => ?_) (fun h2 => ?_)
    · refine hgo [] _ _ _ _ ?_
      refine ⟨?_, q0⟩
      unfold pick
      rw [if_neg h1, if_pos h2, ← q2]
    · refine hgo [] _ _ _ _ ?_
      refine ⟨?_, q0⟩
      unfold pick
      rw [if_neg h1, if_neg h2, ← q3]
theorem wS_cong {f : Nat → Bool} {a b : Nat → Int32} : ∀ {n : Nat}, (∀ w, w < n → a w = b w) → wS f a n = wS f b n
  | 0, _ => rfl
  | n + 1, h => by
    unfold wS
    rw [wS_cong (fun w hw => h w (by omega)), h n (by omega)]
theorem cW_cong {f : Nat → Bool} {a b : Nat → Int32} {c : Nat → Nat} : ∀ {n : Nat}, (∀ w, w < n → a w = b w) → cW f a c n = cW f b c n
  | 0, _ => rfl
  | n + 1, h => by
    unfold cW
    rw [cW_cong (fun w hw => h w (by omega)), h n (by omega)]
theorem rlS_cong {kd : Nat} {f : Nat → Bool} {a b g h : Nat → Int32} {c : Nat → Nat} {n : Nat} (e1 : ∀ w, w < n → a w = b w) (e2 : ∀ w, w < n → g w = h w) : rlS kd f a g c n = rlS kd f b h c n := by
  unfold rlS
  rw [wS_cong e1, cW_cong e2]
theorem Rel_wallF {M : am_M} (hR : Rel M) : ∀ w, w < nW (M 11 0 4) → M 4 0 1 w = M 11 0 4 (4 + 3 * w) ∧ M 4 0 2 w = M 11 0 4 (5 + 3 * w) ∧ M 4 0 3 w = M 11 0 4 (6 + 3 * w) ∧ ∃ b wd hg : Nat, M 11 0 4 (4 + 3 * w) = nI b ∧ 1700 ≤ b ∧ b ≤ 1999 ∧ M 11 0 4 (5 + 3 * w) = nI wd ∧ 50 ≤ wd ∧ wd ≤ 999 ∧ M 11 0 4 (6 + 3 * w) = nI hg ∧ 100 ≤ hg ∧ hg ≤ 400 := by
  obtain ⟨-, -, -, ⟨hv, hr, -, -⟩, -, -, -⟩ := hR
  intro w hw
  obtain ⟨a1, a2, a3⟩ := hr.1.2 w hw
  exact ⟨a1, a2, a3, hv.2.2.2.2.1 w hw⟩
theorem Rel_off9 {M M1 : am_M} (hR : Rel M) (h : ∀ k, k ≠ 9 → M1 k = M k) : Rel M1 := by
  have h0 := h 0 (by decide)
  have h11 := h 11 (by decide)
  exact Rel_keep hR (by rw [h 1 (by decide)]) (by rw [h 2 (by decide)]) (h 4 (by decide)) (h 5 (by decide)) (by rw [h 7 (by decide)]) (by rw [h 8 (by decide)]) (by rw [h 10 (by decide)]) (fun o _ => by rw [h11]) (fun i _ => by rw [h11]) (by rw [h0]) (by rw [h0, h11]; exact hR.2.2.1.2)
theorem op_rolls (p y x : Int32) (M : am_M) (hR : Rel M) : OpAt mMain_rolls mRef_rolls [aI p, aI y, aI x] M := by
  obtain ⟨w1, w2, w3⟩ := Rel_nw hR
  obtain ⟨p1, p2, p3⟩ := Rel_np hR
  by_cases hb : ((0 ≤ p.toInt ∧ p.toInt < nP (M 11 0 4)) ∧ (0 ≤ y.toInt ∧ y.toInt < (2 ^ nW (M 11 0 4) : Nat)) ∧ (0 ≤ x ∧ x ≤ 2))
  · obtain ⟨b1, b2, b3⟩ := hb
    have hpp := i3_of b1.1
    have hcl := i3_cl b1.1
    have := p2le (show nW (M 11 0 4) < 11 by omega)
    obtain ⟨f, hf, -⟩ := bs_ofx b2.1 (by omega)
    generalize p.toNatClampNeg = q at hpp hcl
    subst hpp
    have hq : q < nP (M 11 0 4) := by omega
    obtain ⟨f1, f2⟩ := Rel_papF hR
    have hw := Rel_wallF hR
    have hwd : ∀ w, w < nW (M 11 0 4) → M 11 0 4 (5 + 3 * w) = nI (hN (M 11 0 4) (5 + 3 * w)) ∧ hN (M 11 0 4) (5 + 3 * w) ≤ 999 := by
      intro w hw2
      obtain ⟨-, -, -, b, wd, hg, -, -, -, e1, -, e2, -⟩ := hw w hw2
      unfold hN
      rw [e1, cl_nI (by omega)]
      exact ⟨rfl, e2⟩
    refine op_mkP (d2 := 4) (v := pick x (rlS (hN (M 11 0 4) (28 + 5 * q)) f (M 4 0 2) (fun w => lenI (M 4 0 3 w) (nI (hN (M 11 0 4) (32 + 5 * q)))) (fun w => (hN (M 11 0 4) (5 + 3 * w) + 49) / 50) (nW (M 11 0 4)))) (c_Main_rolls_ok _ _ q _ _ (fun w => hN (M 11 0 4) (5 + 3 * w)) f y x M w1 w3 p1 p3 hq b2 hf b3 (f1 q hq).1 (f1 q hq).2.2.1 (f1 q hq).2.2.2 (f2 q hq).1 (f2 q hq).2.2.1 (f2 q hq).2.2.2 (fun w hw2 => ⟨by rw [(hw w hw2).2.1]; exact (hwd w hw2).1, (hwd w hw2).2⟩)) ?_
    rintro r M1 ⟨e1, e2⟩
    have h11 := e2 11 (by decide)
    refine ⟨e1, _, c_Ref_rolls_ok (nP (M 11 0 4)) (nW (M 11 0 4)) q (hN (M 11 0 4) (28 + 5 * q)) (hN (M 11 0 4) (32 + 5 * q)) (fun w => hN (M 11 0 4) (5 + 3 * w)) (fun w => M 11 0 4 (6 + 3 * w)) f y x M1 (by rw [h11]; exact p2) p3 (by rw [h11]; exact w2) w3 hq b2 hf b3 (by rw [h11]; exact (f1 q hq).2.1) (f1 q hq).2.2.2 (by rw [h11, show 28 + 5 * q + 4 = 32 + 5 * q by omega]; exact (f2 q hq).2.1) (f2 q hq).2.2.1 (f2 q hq).2.2.2 (fun w hw2 => ?_), ?_⟩
    · rw [h11, show 4 + 3 * w + 1 = 5 + 3 * w by omega, show 4 + 3 * w + 2 = 6 + 3 * w by omega]
      exact ⟨(hwd w hw2).1, (hwd w hw2).2, rfl⟩
    · intro r2 M2 hp2
      obtain ⟨rfl, rfl⟩ := hp2
      refine ⟨?_, Rel_bad (Rel_off9 hR e2)⟩
      have e3 : rlS (hN (M 11 0 4) (28 + 5 * q)) f (M 4 0 2) (fun w => lenI (M 4 0 3 w) (nI (hN (M 11 0 4) (32 + 5 * q)))) (fun w => (hN (M 11 0 4) (5 + 3 * w) + 49) / 50) (nW (M 11 0 4)) = rlS (hN (M 11 0 4) (28 + 5 * q)) f (fun w => nI (hN (M 11 0 4) (5 + 3 * w))) (fun w => lenI (M 11 0 4 (6 + 3 * w)) (nI (hN (M 11 0 4) (32 + 5 * q)))) (fun w => (hN (M 11 0 4) (5 + 3 * w) + 49) / 50) (nW (M 11 0 4)) := by
        refine rlS_cong (fun w hw2 => ?_) (fun w hw2 => ?_)
        · rw [(hw w hw2).2.1, (hwd w hw2).1]
        · rw [(hw w hw2).2.2.1]
      rw [e3]
  · exact op_mk (c_Main_rolls_bad _ _ p y x M p1 p3 w1 w3 hb) (c_Ref_rolls_bad _ _ p y x M p2 p3 w2 w3 hb) (Rel_bad hR)
end
section
/-! ask -/
def TRc (M2 M : am_M) (l : List Nat) : Prop := (∀ k, k ≠ 10 → M2 k = M k) ∧ M2 10 0 0 1 = nI l.length ∧ ∀ i, i < l.length → M2 10 0 1 i = nI (l.getD i 0)
theorem gd1 {l : List Nat} {b i : Nat} (h : i < l.length) : (l ++ [b]).getD i 0 = l.getD i 0 := by
  simp [List.getD, List.getElem?_append_left h]
theorem gd2 {l : List Nat} {b : Nat} : (l ++ [b]).getD l.length 0 = b := by
  simp [List.getD]
theorem c_Bodies_begin (b : Nat) (l : List Nat) (M1 M : am_M) (h : TRc M1 M l) (hl : l.length < 16) : ConP 1 mBodies_begin [aR 10 0 0, aI (nI b)] M1 (fun r M2 => r = none ∧ TRc M2 M (l ++ [b])) := by
  obtain ⟨h0, h1, h2⟩ := h
  refine con_of okBodies_begin [some (aR 10 0 0), some (aI (nI b))] none ?_
  intro J hgo
  refine hgo [] _ _ _ _ ?_
  refine brt (show M1 10 0 0 1 < nI 16 by rw [h1]; exact nI_lt hl (by omega)) ?_
  refine hgo [] _ _ _ _ ?_
  refine ob_ (by rw [h1]; exact vp_in_nI (by omega) (by omega)) ?_
  have hcl : (M1 10 0 0 1).toNatClampNeg = l.length := by rw [h1]; exact cl_nI (by omega)
  refine ⟨rfl, fun k hk => by rw [sA_k hk, sA_k hk]; exact h0 k hk, ?_, fun i hi => ?_⟩
  · show M1 10 0 0 1 + 1 = _
    rw [h1, nI_1, List.length_append]
    rfl
  · show upd (M1 10 0 1) (M1 10 0 0 1).toNatClampNeg (nI b) i = _
    rw [hcl]
    by_cases he : i = l.length
    · rw [he, upd_s, gd2]
    · have hi2 : i < l.length := by
        rw [List.length_append] at hi
        have : ([b] : List Nat).length = 1 := rfl
        omega
      rw [upd_n he, gd1 hi2]
      exact h2 i hi2
def PF (M : am_M) (np p kd : Nat) : Prop := M 4 0 0 4 = nI np ∧ np ≤ 10 ∧ p < np ∧ M 4 0 4 p = nI kd ∧ 1 ≤ kd ∧ kd ≤ 5
theorem c_Bodies_told1 (np p kd : Nat) (M1 M : am_M) (h4 : M1 4 = M 4) (hP : PF M np p kd) : Con 2 mBodies_told [aR 12 0 1, aR 4 0 0, aI (nI p)] M1 (some (aI ((am_sc 1).getD kd 0))) M1 := by
  obtain ⟨P1, P2, P3, P4, P5, P6⟩ := hP
  refine con_of okBodies_told [some (aR 12 0 1), some (aR 4 0 0), some (aI (nI p)), none] (some .int) ?_
  intro J hgo
  have e1 : M1 4 0 4 (nI p).toNatClampNeg = nI kd := by rw [cl_nI (by omega), h4, P4]
  refine hgo [] _ _ _ _ ?_
  refine cl_ (c_House_isPaper np 0 (nI p) _ (by rw [h4]; exact P1) (by omega)) ?_
  refine brbt (by rw [i3_n (by omega)]; omega) ?_
  refine ob_ (vp_in_nI (by omega) (by omega)) ?_
  rw [e1]
  refine hgo [] _ _ _ _ ?_
  refine brf (nI_nlt (a := kd) (b := 0) (by omega) (by omega)) ?_
  refine brf (show ¬ nI 6 ≤ nI kd from nI_ge (by omega) (by omega)) ?_
  refine ob_ (vp_in_nI (by omega) (by omega)) ?_
  refine hgo [] _ _ _ _ ?_
  refine ⟨?_, rfl⟩
  rw [cl_nI (by omega)]
theorem c_Bodies_told2 (np p kd : Nat) (M1 M : am_M) (h4 : M1 4 = M 4) (hP : PF M np p kd) : Con 2 mBodies_told [aR 12 0 2, aR 4 0 0, aI (nI p)] M1 (some (aI ((am_sc 2).getD kd 0))) M1 := by
  obtain ⟨P1, P2, P3, P4, P5, P6⟩ := hP
  refine con_of okBodies_told [some (aR 12 0 2), some (aR 4 0 0), some (aI (nI p)), none] (some .int) ?_
  intro J hgo
  have e1 : M1 4 0 4 (nI p).toNatClampNeg = nI kd := by rw [cl_nI (by omega), h4, P4]
  refine hgo [] _ _ _ _ ?_
  refine cl_ (c_House_isPaper np 0 (nI p) _ (by rw [h4]; exact P1) (by omega)) ?_
  refine brbt (by rw [i3_n (by omega)]; omega) ?_
  refine ob_ (vp_in_nI (by omega) (by omega)) ?_
  rw [e1]
  refine hgo [] _ _ _ _ ?_
  refine brf (nI_nlt (a := kd) (b := 0) (by omega) (by omega)) ?_
  refine brf (show ¬ nI 6 ≤ nI kd from nI_ge (by omega) (by omega)) ?_
  refine ob_ (vp_in_nI (by omega) (by omega)) ?_
  refine hgo [] _ _ _ _ ?_
  refine ⟨?_, rfl⟩
  rw [cl_nI (by omega)]
def AnsC (d : Nat) (M : am_M) (p body dep : Nat) (tr : List Nat) (v : Int32) : Prop := ∀ M1 l, TRc M1 M l → l.length + tr.length ≤ 16 → ConP d mBodies_answer [aR 10 0 0, aR 4 0 0, aI (nI p), aI (nI body), aI (nI dep)] M1 (fun r M2 => r = some (aI v) ∧ TRc M2 M (l ++ tr))
theorem ans_10 {M : am_M} {np p kd dep : Nat} (hd : dep ≤ 12) (hP : PF M np p kd) : AnsC 3 M p 10 dep [10] (M 4 0 8 p) := by
  intro M1 l hT hl
  obtain ⟨P1, P2, P3, P4, P5, P6⟩ := id hP
  have h4 : M1 4 = M 4 := hT.1 4 (by decide)
  simp only [List.length_cons, List.length_nil, List.length_append] at hl
  refine con_of okBodies_answer [some (aR 10 0 0), some (aR 4 0 0), some (aI (nI p)), some (aI (nI 10)), some (aI (nI dep)), none] (some .int) ?_
  intro J hgo
  have hcl : (nI p).toNatClampNeg = p := cl_nI (by omega)
  refine hgo [] _ _ _ _ ?_
  refine brf (nI_nlt (a := 16) (b := dep) (by omega) (by omega)) ?_
  refine cl_ (c_House_isPaper np 0 (nI p) _ (by rw [h4]; exact P1) (by omega)) ?_
  refine brbt (by rw [i3_n (by omega)]; omega) ?_
  refine hgo [] _ _ _ _ ?_
  refine clp (c_Bodies_begin 10 l M1 M hT (by omega)) ?_
  rintro r M2 ⟨rfl, hT2⟩
  (repeat (first | refine brt (by decide) ?_ | refine brf (by decide) ?_))
  refine hgo [] _ _ _ _ ?_
  refine ob_ (vp_in_nI (by omega) (by omega)) ?_
  refine ⟨?_, hT2⟩
  rw [hcl, hT2.1 4 (by decide)]
theorem ans_20 {M : am_M} {np p kd dep : Nat} (hd : dep ≤ 12) (hP : PF M np p kd) : AnsC 3 M p 20 dep [20] (nI p) := by
  intro M1 l hT hl
  obtain ⟨P1, P2, P3, P4, P5, P6⟩ := id hP
  have h4 : M1 4 = M 4 := hT.1 4 (by decide)
  simp only [List.length_cons, List.length_nil, List.length_append] at hl
  refine con_of okBodies_answer [some (aR 10 0 0), some (aR 4 0 0), some (aI (nI p)), some (aI (nI 20)), some (aI (nI dep)), none] (some .int) ?_
  intro J hgo
  have hcl : (nI p).toNatClampNeg = p := cl_nI (by omega)
  refine hgo [] _ _ _ _ ?_
  refine brf (nI_nlt (a := 16) (b := dep) (by omega) (by omega)) ?_
  refine cl_ (c_House_isPaper np 0 (nI p) _ (by rw [h4]; exact P1) (by omega)) ?_
  refine brbt (by rw [i3_n (by omega)]; omega) ?_
  refine hgo [] _ _ _ _ ?_
  refine clp (c_Bodies_begin 20 l M1 M hT (by omega)) ?_
  rintro r M2 ⟨rfl, hT2⟩
  (repeat (first | refine brt (by decide) ?_ | refine brf (by decide) ?_))
  refine hgo [] _ _ _ _ ?_
  exact ⟨rfl, hT2⟩
theorem ans_21 {M : am_M} {np p kd dep : Nat} (hd : dep ≤ 11) (hP : PF M np p kd) : AnsC 4 M p 21 dep [21, 20] (nI p + M 4 0 7 p) := by
  intro M1 l hT hl
  obtain ⟨P1, P2, P3, P4, P5, P6⟩ := id hP
  have h4 : M1 4 = M 4 := hT.1 4 (by decide)
  simp only [List.length_cons, List.length_nil, List.length_append] at hl
  refine con_of okBodies_answer [some (aR 10 0 0), some (aR 4 0 0), some (aI (nI p)), some (aI (nI 21)), some (aI (nI dep)), none] (some .int) ?_
  intro J hgo
  have hcl : (nI p).toNatClampNeg = p := cl_nI (by omega)
  refine hgo [] _ _ _ _ ?_
  refine brf (nI_nlt (a := 16) (b := dep) (by omega) (by omega)) ?_
  refine cl_ (c_House_isPaper np 0 (nI p) _ (by rw [h4]; exact P1) (by omega)) ?_
  refine brbt (by rw [i3_n (by omega)]; omega) ?_
  refine hgo [] _ _ _ _ ?_
  refine clp (c_Bodies_begin 21 l M1 M hT (by omega)) ?_
  rintro r M2 ⟨rfl, hT2⟩
  (repeat (first | refine brt (by decide) ?_ | refine brf (by decide) ?_))
  refine hgo [] _ _ _ _ ?_
  refine clpe ((ans_20 (dep := dep + 1) (by omega) hP) M2 (l ++ [21]) hT2 (by simp only [List.length_cons, List.length_nil, List.length_append]; omega)) (by rw [nI_1]; try rfl) rfl ?_
  rintro r M3 ⟨rfl, hT3⟩
  refine ob_ (vp_in_nI (by omega) (by omega)) ?_
  refine ⟨?_, ?_⟩
  · rw [hcl, hT3.1 4 (by decide)]
  · rw [show l ++ [21, 20] = l ++ [21] ++ [20] by simp]
    exact hT3
theorem ans_22 {M : am_M} {np p kd dep : Nat} (hd : dep ≤ 11) (hP : PF M np p kd) : AnsC 4 M p 22 dep [22, 20] (nI p + M 4 0 5 p) := by
  intro M1 l hT hl
  obtain ⟨P1, P2, P3, P4, P5, P6⟩ := id hP
  have h4 : M1 4 = M 4 := hT.1 4 (by decide)
  simp only [List.length_cons, List.length_nil, List.length_append] at hl
  refine con_of okBodies_answer [some (aR 10 0 0), some (aR 4 0 0), some (aI (nI p)), some (aI (nI 22)), some (aI (nI dep)), none] (some .int) ?_
  intro J hgo
  have hcl : (nI p).toNatClampNeg = p := cl_nI (by omega)
  refine hgo [] _ _ _ _ ?_
  refine brf (nI_nlt (a := 16) (b := dep) (by omega) (by omega)) ?_
  refine cl_ (c_House_isPaper np 0 (nI p) _ (by rw [h4]; exact P1) (by omega)) ?_
  refine brbt (by rw [i3_n (by omega)]; omega) ?_
  refine hgo [] _ _ _ _ ?_
  refine clp (c_Bodies_begin 22 l M1 M hT (by omega)) ?_
  rintro r M2 ⟨rfl, hT2⟩
  (repeat (first | refine brt (by decide) ?_ | refine brf (by decide) ?_))
  refine hgo [] _ _ _ _ ?_
  refine clpe ((ans_20 (dep := dep + 1) (by omega) hP) M2 (l ++ [22]) hT2 (by simp only [List.length_cons, List.length_nil, List.length_append]; omega)) (by rw [nI_1]; try rfl) rfl ?_
  rintro r M3 ⟨rfl, hT3⟩
  refine ob_ (vp_in_nI (by omega) (by omega)) ?_
  refine ⟨?_, ?_⟩
  · rw [hcl, hT3.1 4 (by decide)]
  · rw [show l ++ [22, 20] = l ++ [22] ++ [20] by simp]
    exact hT3
theorem ans_13 {M : am_M} {np p kd dep : Nat} (hd : dep ≤ 11) (hP : PF M np p kd) : AnsC 4 M p 13 dep [13, 10] (M 4 0 8 p - M 4 0 7 p) := by
  intro M1 l hT hl
  obtain ⟨P1, P2, P3, P4, P5, P6⟩ := id hP
  have h4 : M1 4 = M 4 := hT.1 4 (by decide)
  simp only [List.length_cons, List.length_nil, List.length_append] at hl
  refine con_of okBodies_answer [some (aR 10 0 0), some (aR 4 0 0), some (aI (nI p)), some (aI (nI 13)), some (aI (nI dep)), none] (some .int) ?_
  intro J hgo
  have hcl : (nI p).toNatClampNeg = p := cl_nI (by omega)
  refine hgo [] _ _ _ _ ?_
  refine brf (nI_nlt (a := 16) (b := dep) (by omega) (by omega)) ?_
  refine cl_ (c_House_isPaper np 0 (nI p) _ (by rw [h4]; exact P1) (by omega)) ?_
  refine brbt (by rw [i3_n (by omega)]; omega) ?_
  refine hgo [] _ _ _ _ ?_
  refine clp (c_Bodies_begin 13 l M1 M hT (by omega)) ?_
  rintro r M2 ⟨rfl, hT2⟩
  (repeat (first | refine brt (by decide) ?_ | refine brf (by decide) ?_))
  refine hgo [] _ _ _ _ ?_
  refine clpe ((ans_10 (dep := dep + 1) (by omega) hP) M2 (l ++ [13]) hT2 (by simp only [List.length_cons, List.length_nil, List.length_append]; omega)) (by rw [nI_1]; try rfl) rfl ?_
  rintro r M3 ⟨rfl, hT3⟩
  refine ob_ (vp_in_nI (by omega) (by omega)) ?_
  refine ⟨?_, ?_⟩
  · rw [hcl, hT3.1 4 (by decide)]
  · rw [show l ++ [13, 10] = l ++ [13] ++ [10] by simp]
    exact hT3
theorem ans_14 {M : am_M} {np p kd dep : Nat} (hd : dep ≤ 10) (hP : PF M np p kd) : AnsC 5 M p 14 dep [14, 13, 10] (2 * (M 4 0 8 p - M 4 0 7 p)) := by
  intro M1 l hT hl
  obtain ⟨P1, P2, P3, P4, P5, P6⟩ := id hP
  have h4 : M1 4 = M 4 := hT.1 4 (by decide)
  simp only [List.length_cons, List.length_nil, List.length_append] at hl
  refine con_of okBodies_answer [some (aR 10 0 0), some (aR 4 0 0), some (aI (nI p)), some (aI (nI 14)), some (aI (nI dep)), none] (some .int) ?_
  intro J hgo
  have hcl : (nI p).toNatClampNeg = p := cl_nI (by omega)
  refine hgo [] _ _ _ _ ?_
  refine brf (nI_nlt (a := 16) (b := dep) (by omega) (by omega)) ?_
  refine cl_ (c_House_isPaper np 0 (nI p) _ (by rw [h4]; exact P1) (by omega)) ?_
  refine brbt (by rw [i3_n (by omega)]; omega) ?_
  refine hgo [] _ _ _ _ ?_
  refine clp (c_Bodies_begin 14 l M1 M hT (by omega)) ?_
  rintro r M2 ⟨rfl, hT2⟩
  (repeat (first | refine brt (by decide) ?_ | refine brf (by decide) ?_))
  refine hgo [] _ _ _ _ ?_
  refine clpe ((ans_13 (dep := dep + 1) (by omega) hP) M2 (l ++ [14]) hT2 (by simp only [List.length_cons, List.length_nil, List.length_append]; omega)) (by rw [nI_1]; try rfl) rfl ?_
  rintro r M3 ⟨rfl, hT3⟩
  refine ⟨?_, ?_⟩
  · rfl
  · rw [show l ++ [14, 13, 10] = l ++ [14] ++ [13, 10] by simp]
    exact hT3
theorem ans_24 {M : am_M} {np p kd dep : Nat} (hd : dep ≤ 10) (hP : PF M np p kd) : AnsC 6 M p 24 dep [24, 21, 20] (nI p + M 4 0 7 p - 1000) := by
  intro M1 l hT hl
  obtain ⟨P1, P2, P3, P4, P5, P6⟩ := id hP
  have h4 : M1 4 = M 4 := hT.1 4 (by decide)
  simp only [List.length_cons, List.length_nil, List.length_append] at hl
  refine con_of okBodies_answer [some (aR 10 0 0), some (aR 4 0 0), some (aI (nI p)), some (aI (nI 24)), some (aI (nI dep)), none] (some .int) ?_
  intro J hgo
  have hcl : (nI p).toNatClampNeg = p := cl_nI (by omega)
  refine hgo [] _ _ _ _ ?_
  refine brf (nI_nlt (a := 16) (b := dep) (by omega) (by omega)) ?_
  refine cl_ (c_House_isPaper np 0 (nI p) _ (by rw [h4]; exact P1) (by omega)) ?_
  refine brbt (by rw [i3_n (by omega)]; omega) ?_
  refine hgo [] _ _ _ _ ?_
  refine clp (c_Bodies_begin 24 l M1 M hT (by omega)) ?_
  rintro r M2 ⟨rfl, hT2⟩
  (repeat (first | refine brt (by decide) ?_ | refine brf (by decide) ?_))
  refine hgo [] _ _ _ _ ?_
  refine clpe ((ans_21 (dep := dep + 1) (by omega) hP) M2 (l ++ [24]) hT2 (by simp only [List.length_cons, List.length_nil, List.length_append]; omega)) (by rw [nI_1]; try rfl) rfl ?_
  rintro r M3 ⟨rfl, hT3⟩
  refine ⟨?_, ?_⟩
  · rfl
  · rw [show l ++ [24, 21, 20] = l ++ [24] ++ [21, 20] by simp]
    exact hT3
theorem ans_23 {M : am_M} {np p kd dep : Nat} (hd : dep ≤ 11) (hP : PF M np p kd) (hk : kd = 5) : AnsC 4 M p 23 dep [23, 20, 10] (nI p - M 4 0 8 p) := by
  intro M1 l hT hl
  obtain ⟨P1, P2, P3, P4, P5, P6⟩ := id hP
  have h4 : M1 4 = M 4 := hT.1 4 (by decide)
  simp only [List.length_cons, List.length_nil, List.length_append] at hl
  refine con_of okBodies_answer [some (aR 10 0 0), some (aR 4 0 0), some (aI (nI p)), some (aI (nI 23)), some (aI (nI dep)), none] (some .int) ?_
  intro J hgo
  have hcl : (nI p).toNatClampNeg = p := cl_nI (by omega)
  refine hgo [] _ _ _ _ ?_
  refine brf (nI_nlt (a := 16) (b := dep) (by omega) (by omega)) ?_
  refine cl_ (c_House_isPaper np 0 (nI p) _ (by rw [h4]; exact P1) (by omega)) ?_
  refine brbt (by rw [i3_n (by omega)]; omega) ?_
  refine hgo [] _ _ _ _ ?_
  refine clp (c_Bodies_begin 23 l M1 M hT (by omega)) ?_
  rintro r M2 ⟨rfl, hT2⟩
  (repeat (first | refine brt (by decide) ?_ | refine brf (by decide) ?_))
  refine hgo [] _ _ _ _ ?_
  refine clpe ((ans_20 (dep := dep + 1) (by omega) hP) M2 (l ++ [23]) hT2 (by simp only [List.length_cons, List.length_nil, List.length_append]; omega)) (by rw [nI_1]; try rfl) rfl ?_
  rintro r M3 ⟨rfl, hT3⟩
  refine cl_ (c_Bodies_told1 np p kd M3 M (hT3.1 4 (by decide)) hP) ?_
  refine clpe ((ans_10 (dep := dep + 1) (by omega) hP) M3 (l ++ [23] ++ [20]) hT3 (by simp only [List.length_cons, List.length_nil, List.length_append]; omega)) (by rw [nI_1, hk]; rfl) rfl ?_
  rintro r M4 ⟨rfl, hT4⟩
  refine ⟨?_, ?_⟩
  · rfl
  · rw [show l ++ [23, 20, 10] = l ++ [23] ++ [20] ++ [10] by simp]
    exact hT4
theorem ans_21m {M : am_M} {np p kd dep : Nat} (hd : dep ≤ 11) (hP : PF M np p kd) : AnsC 6 M p 21 dep [21, 20] (nI p + M 4 0 7 p) := by
  intro M1 l hT hl
  obtain ⟨P1, P2, P3, P4, P5, P6⟩ := id hP
  have h4 : M1 4 = M 4 := hT.1 4 (by decide)
  simp only [List.length_cons, List.length_nil, List.length_append] at hl
  refine con_of okBodies_answer [some (aR 10 0 0), some (aR 4 0 0), some (aI (nI p)), some (aI (nI 21)), some (aI (nI dep)), none] (some .int) ?_
  intro J hgo
  have hcl : (nI p).toNatClampNeg = p := cl_nI (by omega)
  refine hgo [] _ _ _ _ ?_
  refine brf (nI_nlt (a := 16) (b := dep) (by omega) (by omega)) ?_
  refine cl_ (c_House_isPaper np 0 (nI p) _ (by rw [h4]; exact P1) (by omega)) ?_
  refine brbt (by rw [i3_n (by omega)]; omega) ?_
  refine hgo [] _ _ _ _ ?_
  refine clp (c_Bodies_begin 21 l M1 M hT (by omega)) ?_
  rintro r M2 ⟨rfl, hT2⟩
  (repeat (first | refine brt (by decide) ?_ | refine brf (by decide) ?_))
  refine hgo [] _ _ _ _ ?_
  refine clpe ((ans_20 (dep := dep + 1) (by omega) hP) M2 (l ++ [21]) hT2 (by simp only [List.length_cons, List.length_nil, List.length_append]; omega)) (by rw [nI_1]; try rfl) rfl ?_
  rintro r M3 ⟨rfl, hT3⟩
  refine ob_ (vp_in_nI (by omega) (by omega)) ?_
  refine ⟨?_, ?_⟩
  · rw [hcl, hT3.1 4 (by decide)]
  · rw [show l ++ [21, 20] = l ++ [21] ++ [20] by simp]
    exact hT3
theorem ans_22m {M : am_M} {np p kd dep : Nat} (hd : dep ≤ 11) (hP : PF M np p kd) : AnsC 6 M p 22 dep [22, 20] (nI p + M 4 0 5 p) := by
  intro M1 l hT hl
  obtain ⟨P1, P2, P3, P4, P5, P6⟩ := id hP
  have h4 : M1 4 = M 4 := hT.1 4 (by decide)
  simp only [List.length_cons, List.length_nil, List.length_append] at hl
  refine con_of okBodies_answer [some (aR 10 0 0), some (aR 4 0 0), some (aI (nI p)), some (aI (nI 22)), some (aI (nI dep)), none] (some .int) ?_
  intro J hgo
  have hcl : (nI p).toNatClampNeg = p := cl_nI (by omega)
  refine hgo [] _ _ _ _ ?_
  refine brf (nI_nlt (a := 16) (b := dep) (by omega) (by omega)) ?_
  refine cl_ (c_House_isPaper np 0 (nI p) _ (by rw [h4]; exact P1) (by omega)) ?_
  refine brbt (by rw [i3_n (by omega)]; omega) ?_
  refine hgo [] _ _ _ _ ?_
  refine clp (c_Bodies_begin 22 l M1 M hT (by omega)) ?_
  rintro r M2 ⟨rfl, hT2⟩
  (repeat (first | refine brt (by decide) ?_ | refine brf (by decide) ?_))
  refine hgo [] _ _ _ _ ?_
  refine clpe ((ans_20 (dep := dep + 1) (by omega) hP) M2 (l ++ [22]) hT2 (by simp only [List.length_cons, List.length_nil, List.length_append]; omega)) (by rw [nI_1]; try rfl) rfl ?_
  rintro r M3 ⟨rfl, hT3⟩
  refine ob_ (vp_in_nI (by omega) (by omega)) ?_
  refine ⟨?_, ?_⟩
  · rw [hcl, hT3.1 4 (by decide)]
  · rw [show l ++ [22, 20] = l ++ [22] ++ [20] by simp]
    exact hT3
theorem ans_23m {M : am_M} {np p kd dep : Nat} (hd : dep ≤ 11) (hP : PF M np p kd) (hk : kd = 5) : AnsC 6 M p 23 dep [23, 20, 10] (nI p - M 4 0 8 p) := by
  intro M1 l hT hl
  obtain ⟨P1, P2, P3, P4, P5, P6⟩ := id hP
  have h4 : M1 4 = M 4 := hT.1 4 (by decide)
  simp only [List.length_cons, List.length_nil, List.length_append] at hl
  refine con_of okBodies_answer [some (aR 10 0 0), some (aR 4 0 0), some (aI (nI p)), some (aI (nI 23)), some (aI (nI dep)), none] (some .int) ?_
  intro J hgo
  have hcl : (nI p).toNatClampNeg = p := cl_nI (by omega)
  refine hgo [] _ _ _ _ ?_
  refine brf (nI_nlt (a := 16) (b := dep) (by omega) (by omega)) ?_
  refine cl_ (c_House_isPaper np 0 (nI p) _ (by rw [h4]; exact P1) (by omega)) ?_
  refine brbt (by rw [i3_n (by omega)]; omega) ?_
  refine hgo [] _ _ _ _ ?_
  refine clp (c_Bodies_begin 23 l M1 M hT (by omega)) ?_
  rintro r M2 ⟨rfl, hT2⟩
  (repeat (first | refine brt (by decide) ?_ | refine brf (by decide) ?_))
  refine hgo [] _ _ _ _ ?_
  refine clpe ((ans_20 (dep := dep + 1) (by omega) hP) M2 (l ++ [23]) hT2 (by simp only [List.length_cons, List.length_nil, List.length_append]; omega)) (by rw [nI_1]; try rfl) rfl ?_
  rintro r M3 ⟨rfl, hT3⟩
  refine cl_ (c_Bodies_told1 np p kd M3 M (hT3.1 4 (by decide)) hP) ?_
  refine clpe ((ans_10 (dep := dep + 1) (by omega) hP) M3 (l ++ [23] ++ [20]) hT3 (by simp only [List.length_cons, List.length_nil, List.length_append]; omega)) (by rw [nI_1, hk]; rfl) rfl ?_
  rintro r M4 ⟨rfl, hT4⟩
  refine ⟨?_, ?_⟩
  · rfl
  · rw [show l ++ [23, 20, 10] = l ++ [23] ++ [20] ++ [10] by simp]
    exact hT4
def mkB (kd : Nat) : Nat := if kd = 1 then 21 else if kd = 4 then 24 else if kd = 5 then 23 else 22
def mkT (kd : Nat) : List Nat := if kd = 1 then [21, 20] else if kd = 4 then [24, 21, 20] else if kd = 5 then [23, 20, 10] else [22, 20]
def mkV (kd : Nat) (p re pr md : Int32) : Int32 := if kd = 1 then p + pr else if kd = 4 then p + pr - 1000 else if kd = 5 then p - re else p + md
theorem ans_mark {M : am_M} {np p kd dep : Nat} (hd : dep ≤ 10) (hP : PF M np p kd) : AnsC 6 M p (mkB kd) dep (mkT kd) (mkV kd (nI p) (M 4 0 8 p) (M 4 0 7 p) (M 4 0 5 p)) := by
  have hk : kd = 1 ∨ kd = 2 ∨ kd = 3 ∨ kd = 4 ∨ kd = 5 := by
    have := hP.2.2.2.2
    omega
  rcases hk with rfl | rfl | rfl | rfl | rfl
  · exact ans_21m (by omega) hP
  · exact ans_22m (by omega) hP
  · exact ans_22m (by omega) hP
  · exact ans_24 hd hP
  · exact ans_23m (by omega) hP rfl
theorem mkL (kd : Nat) : (mkT kd).length ≤ 3 := by
  unfold mkT
  split
  · decide
  · split
    · decide
    · split <;> decide
theorem mkN (kd : Nat) (h1 : 1 ≤ kd) (h5 : kd ≤ 5) : (am_sc 2).getD kd 0 = nI (mkB kd) := by
  have hk : kd = 1 ∨ kd = 2 ∨ kd = 3 ∨ kd = 4 ∨ kd = 5 := by omega
  rcases hk with rfl | rfl | rfl | rfl | rfl <;> rfl
theorem ans_11 {M : am_M} {np p kd dep : Nat} (hd : dep ≤ 9) (hP : PF M np p kd) : AnsC 7 M p 11 dep ([11, 10] ++ mkT kd) (M 4 0 8 p + mkV kd (nI p) (M 4 0 8 p) (M 4 0 7 p) (M 4 0 5 p)) := by
  intro M1 l hT hl
  obtain ⟨P1, P2, P3, P4, P5, P6⟩ := id hP
  have h4 : M1 4 = M 4 := hT.1 4 (by decide)
  simp only [List.length_cons, List.length_nil, List.length_append] at hl
  refine con_of okBodies_answer [some (aR 10 0 0), some (aR 4 0 0), some (aI (nI p)), some (aI (nI 11)), some (aI (nI dep)), none] (some .int) ?_
  intro J hgo
  have hcl : (nI p).toNatClampNeg = p := cl_nI (by omega)
  refine hgo [] _ _ _ _ ?_
  refine brf (nI_nlt (a := 16) (b := dep) (by omega) (by omega)) ?_
  refine cl_ (c_House_isPaper np 0 (nI p) _ (by rw [h4]; exact P1) (by omega)) ?_
  refine brbt (by rw [i3_n (by omega)]; omega) ?_
  refine hgo [] _ _ _ _ ?_
  refine clp (c_Bodies_begin 11 l M1 M hT (by omega)) ?_
  rintro r M2 ⟨rfl, hT2⟩
  (repeat (first | refine brt (by decide) ?_ | refine brf (by decide) ?_))
  refine hgo [] _ _ _ _ ?_
  have hmk := mkL kd
  refine clpe ((ans_10 (dep := dep + 1) (by omega) hP) M2 (l ++ [11]) hT2 (by simp only [List.length_cons, List.length_nil, List.length_append]; omega)) (by rw [nI_1]; try rfl) rfl ?_
  rintro r M3 ⟨rfl, hT3⟩
  refine cl_ (c_Bodies_told2 np p kd M3 M (hT3.1 4 (by decide)) hP) ?_
  refine clpe ((ans_mark (dep := dep + 1) (by omega) hP) M3 (l ++ [11] ++ [10]) hT3 (by simp only [List.length_cons, List.length_nil, List.length_append]; omega)) (by rw [nI_1, mkN kd P5 P6]; try rfl) rfl ?_
  rintro r M4 ⟨rfl, hT4⟩
  refine ⟨?_, ?_⟩
  · rfl
  · rw [show l ++ ([11, 10] ++ mkT kd) = l ++ [11] ++ [10] ++ mkT kd by simp]
    exact hT4
theorem ans_11s {M : am_M} {np p kd dep : Nat} (hd : dep ≤ 9) (hP : PF M np p kd) : AnsC 8 M p 11 dep ([11, 10] ++ mkT kd) (M 4 0 8 p + mkV kd (nI p) (M 4 0 8 p) (M 4 0 7 p) (M 4 0 5 p)) := by
  intro M1 l hT hl
  obtain ⟨P1, P2, P3, P4, P5, P6⟩ := id hP
  have h4 : M1 4 = M 4 := hT.1 4 (by decide)
  simp only [List.length_cons, List.length_nil, List.length_append] at hl
  refine con_of okBodies_answer [some (aR 10 0 0), some (aR 4 0 0), some (aI (nI p)), some (aI (nI 11)), some (aI (nI dep)), none] (some .int) ?_
  intro J hgo
  have hcl : (nI p).toNatClampNeg = p := cl_nI (by omega)
  refine hgo [] _ _ _ _ ?_
  refine brf (nI_nlt (a := 16) (b := dep) (by omega) (by omega)) ?_
  refine cl_ (c_House_isPaper np 0 (nI p) _ (by rw [h4]; exact P1) (by omega)) ?_
  refine brbt (by rw [i3_n (by omega)]; omega) ?_
  refine hgo [] _ _ _ _ ?_
  refine clp (c_Bodies_begin 11 l M1 M hT (by omega)) ?_
  rintro r M2 ⟨rfl, hT2⟩
  (repeat (first | refine brt (by decide) ?_ | refine brf (by decide) ?_))
  refine hgo [] _ _ _ _ ?_
  have hmk := mkL kd
  refine clpe ((ans_10 (dep := dep + 1) (by omega) hP) M2 (l ++ [11]) hT2 (by simp only [List.length_cons, List.length_nil, List.length_append]; omega)) (by rw [nI_1]; try rfl) rfl ?_
  rintro r M3 ⟨rfl, hT3⟩
  refine cl_ (c_Bodies_told2 np p kd M3 M (hT3.1 4 (by decide)) hP) ?_
  refine clpe ((ans_mark (dep := dep + 1) (by omega) hP) M3 (l ++ [11] ++ [10]) hT3 (by simp only [List.length_cons, List.length_nil, List.length_append]; omega)) (by rw [nI_1, mkN kd P5 P6]; try rfl) rfl ?_
  rintro r M4 ⟨rfl, hT4⟩
  refine ⟨?_, ?_⟩
  · rfl
  · rw [show l ++ ([11, 10] ++ mkT kd) = l ++ [11] ++ [10] ++ mkT kd by simp]
    exact hT4
theorem ans_12 {M : am_M} {np p kd dep : Nat} (hd : dep ≤ 8) (hP : PF M np p kd) : AnsC 8 M p 12 dep ([12, 11, 10] ++ mkT kd) (0 - (M 4 0 8 p + mkV kd (nI p) (M 4 0 8 p) (M 4 0 7 p) (M 4 0 5 p))) := by
  intro M1 l hT hl
  obtain ⟨P1, P2, P3, P4, P5, P6⟩ := id hP
  have h4 : M1 4 = M 4 := hT.1 4 (by decide)
  simp only [List.length_cons, List.length_nil, List.length_append] at hl
  refine con_of okBodies_answer [some (aR 10 0 0), some (aR 4 0 0), some (aI (nI p)), some (aI (nI 12)), some (aI (nI dep)), none] (some .int) ?_
  intro J hgo
  have hcl : (nI p).toNatClampNeg = p := cl_nI (by omega)
  refine hgo [] _ _ _ _ ?_
  refine brf (nI_nlt (a := 16) (b := dep) (by omega) (by omega)) ?_
  refine cl_ (c_House_isPaper np 0 (nI p) _ (by rw [h4]; exact P1) (by omega)) ?_
  refine brbt (by rw [i3_n (by omega)]; omega) ?_
  refine hgo [] _ _ _ _ ?_
  refine clp (c_Bodies_begin 12 l M1 M hT (by omega)) ?_
  rintro r M2 ⟨rfl, hT2⟩
  (repeat (first | refine brt (by decide) ?_ | refine brf (by decide) ?_))
  refine hgo [] _ _ _ _ ?_
  have hmk := mkL kd
  refine clpe ((ans_11 (dep := dep + 1) (by omega) hP) M2 (l ++ [12]) hT2 (by simp only [List.length_cons, List.length_nil, List.length_append]; omega)) (by rw [nI_1]; try rfl) rfl ?_
  rintro r M3 ⟨rfl, hT3⟩
  refine ⟨?_, ?_⟩
  · rfl
  · rw [show l ++ ([12, 11, 10] ++ mkT kd) = l ++ [12] ++ ([11, 10] ++ mkT kd) by simp]
    exact hT3
theorem ans_10s {M : am_M} {np p kd dep : Nat} (hd : dep ≤ 12) (hP : PF M np p kd) : AnsC 8 M p 10 dep [10] (M 4 0 8 p) := by
  intro M1 l hT hl
  obtain ⟨P1, P2, P3, P4, P5, P6⟩ := id hP
  have h4 : M1 4 = M 4 := hT.1 4 (by decide)
  simp only [List.length_cons, List.length_nil, List.length_append] at hl
  refine con_of okBodies_answer [some (aR 10 0 0), some (aR 4 0 0), some (aI (nI p)), some (aI (nI 10)), some (aI (nI dep)), none] (some .int) ?_
  intro J hgo
  have hcl : (nI p).toNatClampNeg = p := cl_nI (by omega)
  refine hgo [] _ _ _ _ ?_
  refine brf (nI_nlt (a := 16) (b := dep) (by omega) (by omega)) ?_
  refine cl_ (c_House_isPaper np 0 (nI p) _ (by rw [h4]; exact P1) (by omega)) ?_
  refine brbt (by rw [i3_n (by omega)]; omega) ?_
  refine hgo [] _ _ _ _ ?_
  refine clp (c_Bodies_begin 10 l M1 M hT (by omega)) ?_
  rintro r M2 ⟨rfl, hT2⟩
  (repeat (first | refine brt (by decide) ?_ | refine brf (by decide) ?_))
  refine hgo [] _ _ _ _ ?_
  refine ob_ (vp_in_nI (by omega) (by omega)) ?_
  refine ⟨?_, hT2⟩
  rw [hcl, hT2.1 4 (by decide)]
theorem ans_13s {M : am_M} {np p kd dep : Nat} (hd : dep ≤ 11) (hP : PF M np p kd) : AnsC 8 M p 13 dep [13, 10] (M 4 0 8 p - M 4 0 7 p) := by
  intro M1 l hT hl
  obtain ⟨P1, P2, P3, P4, P5, P6⟩ := id hP
  have h4 : M1 4 = M 4 := hT.1 4 (by decide)
  simp only [List.length_cons, List.length_nil, List.length_append] at hl
  refine con_of okBodies_answer [some (aR 10 0 0), some (aR 4 0 0), some (aI (nI p)), some (aI (nI 13)), some (aI (nI dep)), none] (some .int) ?_
  intro J hgo
  have hcl : (nI p).toNatClampNeg = p := cl_nI (by omega)
  refine hgo [] _ _ _ _ ?_
  refine brf (nI_nlt (a := 16) (b := dep) (by omega) (by omega)) ?_
  refine cl_ (c_House_isPaper np 0 (nI p) _ (by rw [h4]; exact P1) (by omega)) ?_
  refine brbt (by rw [i3_n (by omega)]; omega) ?_
  refine hgo [] _ _ _ _ ?_
  refine clp (c_Bodies_begin 13 l M1 M hT (by omega)) ?_
  rintro r M2 ⟨rfl, hT2⟩
  (repeat (first | refine brt (by decide) ?_ | refine brf (by decide) ?_))
  refine hgo [] _ _ _ _ ?_
  refine clpe ((ans_10 (dep := dep + 1) (by omega) hP) M2 (l ++ [13]) hT2 (by simp only [List.length_cons, List.length_nil, List.length_append]; omega)) (by rw [nI_1]; try rfl) rfl ?_
  rintro r M3 ⟨rfl, hT3⟩
  refine ob_ (vp_in_nI (by omega) (by omega)) ?_
  refine ⟨?_, ?_⟩
  · rw [hcl, hT3.1 4 (by decide)]
  · rw [show l ++ [13, 10] = l ++ [13] ++ [10] by simp]
    exact hT3
theorem ans_14s {M : am_M} {np p kd dep : Nat} (hd : dep ≤ 10) (hP : PF M np p kd) : AnsC 8 M p 14 dep [14, 13, 10] (2 * (M 4 0 8 p - M 4 0 7 p)) := by
  intro M1 l hT hl
  obtain ⟨P1, P2, P3, P4, P5, P6⟩ := id hP
  have h4 : M1 4 = M 4 := hT.1 4 (by decide)
  simp only [List.length_cons, List.length_nil, List.length_append] at hl
  refine con_of okBodies_answer [some (aR 10 0 0), some (aR 4 0 0), some (aI (nI p)), some (aI (nI 14)), some (aI (nI dep)), none] (some .int) ?_
  intro J hgo
  have hcl : (nI p).toNatClampNeg = p := cl_nI (by omega)
  refine hgo [] _ _ _ _ ?_
  refine brf (nI_nlt (a := 16) (b := dep) (by omega) (by omega)) ?_
  refine cl_ (c_House_isPaper np 0 (nI p) _ (by rw [h4]; exact P1) (by omega)) ?_
  refine brbt (by rw [i3_n (by omega)]; omega) ?_
  refine hgo [] _ _ _ _ ?_
  refine clp (c_Bodies_begin 14 l M1 M hT (by omega)) ?_
  rintro r M2 ⟨rfl, hT2⟩
  (repeat (first | refine brt (by decide) ?_ | refine brf (by decide) ?_))
  refine hgo [] _ _ _ _ ?_
  refine clpe ((ans_13 (dep := dep + 1) (by omega) hP) M2 (l ++ [14]) hT2 (by simp only [List.length_cons, List.length_nil, List.length_append]; omega)) (by rw [nI_1]; try rfl) rfl ?_
  rintro r M3 ⟨rfl, hT3⟩
  refine ⟨?_, ?_⟩
  · rfl
  · rw [show l ++ [14, 13, 10] = l ++ [14] ++ [13, 10] by simp]
    exact hT3
def szB (kd : Nat) : Nat := if kd = 1 then 11 else if kd = 2 then 13 else if kd = 3 then 14 else if kd = 4 then 12 else 10
def szT (kd : Nat) : List Nat := if kd = 1 then [11, 10] ++ mkT kd else if kd = 2 then [13, 10] else if kd = 3 then [14, 13, 10] else if kd = 4 then [12, 11, 10] ++ mkT kd else [10]
def szV (kd : Nat) (p re pr md : Int32) : Int32 := if kd = 1 then re + mkV kd p re pr md else if kd = 2 then re - pr else if kd = 3 then 2 * (re - pr) else if kd = 4 then 0 - (re + mkV kd p re pr md) else re
theorem ans_size {M : am_M} {np p kd dep : Nat} (hd : dep ≤ 8) (hP : PF M np p kd) : AnsC 8 M p (szB kd) dep (szT kd) (szV kd (nI p) (M 4 0 8 p) (M 4 0 7 p) (M 4 0 5 p)) := by
  have hk : kd = 1 ∨ kd = 2 ∨ kd = 3 ∨ kd = 4 ∨ kd = 5 := by
    have := hP.2.2.2.2
    omega
  rcases hk with rfl | rfl | rfl | rfl | rfl
  · exact ans_11s (by omega) hP
  · exact ans_13s (by omega) hP
  · exact ans_14s (by omega) hP
  · exact ans_12 hd hP
  · exact ans_10s (by omega) hP
theorem szN (kd : Nat) (h1 : 1 ≤ kd) (h5 : kd ≤ 5) : (am_sc 1).getD kd 0 = nI (szB kd) ∧ (szT kd).length ≤ 16 := by
  have hk : kd = 1 ∨ kd = 2 ∨ kd = 3 ∨ kd = 4 ∨ kd = 5 := by omega
  rcases hk with rfl | rfl | rfl | rfl | rfl <;> exact ⟨rfl, by decide⟩
theorem c_Bodies_askSize (np p kd : Nat) (M : am_M) (hP : PF M np p kd) : ConP 9 mBodies_askSize [aR 10 0 0, aR 4 0 0, aI (nI p)] M (fun r M2 => r = some (aI (szV kd (nI p) (M 4 0 8 p) (M 4 0 7 p) (M 4 0 5 p))) ∧ TRc M2 M (szT kd)) := by
  refine con_of okBodies_askSize [some (aR 10 0 0), some (aR 4 0 0), some (aI (nI p))] (some .int) ?_
  intro J hgo
  obtain ⟨s1, s2⟩ := szN kd hP.2.2.2.2.1 hP.2.2.2.2.2
  have hT : TRc (sA M 10 0 0 (upd (M 10 0 0) 1 0)) M [] := ⟨fun k hk => sA_k hk, rfl, fun i hi => absurd hi (Nat.not_lt_zero i)⟩
  refine hgo [] _ _ _ _ ?_
  refine cl_ (c_Bodies_told1 np p kd _ M rfl hP) ?_
  refine clpe (ans_size (dep := 0) (by omega) hP _ [] hT (by rw [List.length_nil]; omega)) (by rw [s1]; try rfl) rfl ?_
  rintro r M2 ⟨rfl, h2⟩
  exact ⟨rfl, h2⟩
theorem c_Bodies_askMark (np p kd : Nat) (M : am_M) (hP : PF M np p kd) : ConP 9 mBodies_askMark [aR 10 0 0, aR 4 0 0, aI (nI p)] M (fun r M2 => r = some (aI (mkV kd (nI p) (M 4 0 8 p) (M 4 0 7 p) (M 4 0 5 p))) ∧ TRc M2 M (mkT kd)) := by
  refine con_of okBodies_askMark [some (aR 10 0 0), some (aR 4 0 0), some (aI (nI p))] (some .int) ?_
  intro J hgo
  have s1 := mkN kd hP.2.2.2.2.1 hP.2.2.2.2.2
  have s2 := mkL kd
  have hT : TRc (sA M 10 0 0 (upd (M 10 0 0) 1 0)) M [] := ⟨fun k hk => sA_k hk, rfl, fun i hi => absurd hi (Nat.not_lt_zero i)⟩
  refine hgo [] _ _ _ _ ?_
  refine cl_ (c_Bodies_told2 np p kd _ M rfl hP) ?_
  refine clpe (ans_mark (dep := 0) (by omega) hP _ [] hT (by rw [List.length_nil]; omega)) (by rw [s1]; try rfl) rfl ?_
  rintro r M2 ⟨rfl, h2⟩
  exact ⟨rfl, h2⟩
end
section
/-! ask: the reference -/
def TRr (M2 M : am_M) (l : List Nat) : Prop := (∀ k, k ≠ 11 → M2 k = M k) ∧ (∀ o, o ≠ 0 → o ≠ 15 → M2 11 0 o = M 11 0 o) ∧ (∀ i, i ≠ 28 → M2 11 0 0 i = M 11 0 0 i) ∧ M2 11 0 0 28 = nI l.length ∧ ∀ i, i < l.length → M2 11 0 15 i = nI (l.getD i 0)
theorem c_Ref_began (b : Nat) (l : List Nat) (M1 M : am_M) (h : TRr M1 M l) (hl : l.length < 16) : ConP 1 mRef_began [aR 11 0 0, aI (nI b)] M1 (fun r M2 => r = none ∧ TRr M2 M (l ++ [b])) := by
  obtain ⟨h0, h3, h4, h1, h2⟩ := h
  refine con_of okRef_began [some (aR 11 0 0), some (aI (nI b))] none ?_
  intro J hgo
  refine hgo [] _ _ _ _ ?_
  refine brf (show ¬ nI 16 ≤ M1 11 0 0 28 by rw [h1]; exact nI_ge hl (by omega)) ?_
  refine ob_ (by rw [h1]; exact vp_in_nI (by omega) (by omega)) ?_
  have hcl : (M1 11 0 0 28).toNatClampNeg = l.length := by rw [h1]; exact cl_nI (by omega)
  refine ⟨rfl, fun k hk => by rw [sA_k hk, sA_k hk]; exact h0 k hk, fun o g1 g2 => by rw [sA_o g1, sA_o g2]; exact h3 o g1 g2, fun i hi => ?_, ?_, fun i hi => ?_⟩
  · show upd (M1 11 0 0) 28 _ i = _
    rw [upd_n hi]
    exact h4 i hi
  · show M1 11 0 0 28 + 1 = _
    rw [h1, nI_1, List.length_append]
    rfl
  · show upd (M1 11 0 15) (M1 11 0 0 28).toNatClampNeg (nI b) i = _
    rw [hcl]
    by_cases he : i = l.length
    · rw [he, upd_s, gd2]
    · have hi2 : i < l.length := by
        rw [List.length_append] at hi
        have : ([b] : List Nat).length = 1 := rfl
        omega
      rw [upd_n he, gd1 hi2]
      exact h2 i hi2
def PR4 (M : am_M) (np p kd : Nat) : Prop := M 11 0 4 1 = nI np ∧ np ≤ 10 ∧ p < np ∧ M 11 0 4 (28 + 5 * p + 0) = nI kd ∧ 1 ≤ kd ∧ kd ≤ 5
theorem c_Ref_plainSize (p : Nat) (l : List Nat) (M1 M : am_M) (h : TRr M1 M l) (hl : l.length < 16) (hp : p < 10) : ConP 2 mRef_plainSize [aR 11 0 0, aI (nI p)] M1 (fun r M2 => r = some (aI (M 11 0 4 (28 + 5 * p + 4))) ∧ TRr M2 M (l ++ [10])) := by
  refine con_of okRef_plainSize [some (aR 11 0 0), some (aI (nI p))] (some .int) ?_
  intro J hgo
  refine hgo [] _ _ _ _ ?_
  refine clp (c_Ref_began 10 l M1 M h hl) ?_
  rintro r M2 ⟨rfl, h2⟩
  refine cl_ (c_Ref_of p 4 M2 hp (by omega)) ?_
  refine ⟨?_, h2⟩
  rw [h2.2.1 4 (by decide) (by decide)]
theorem c_Ref_mark1 {np : Nat} (p : Nat) (l : List Nat) (M1 M : am_M) (hT1 : TRr M1 M l) (hl : l.length ≤ 13) (hP : PR4 M np p 1) : ConP 4 mRef_markOf [aR 11 0 0, aI (nI p)] M1 (fun r M2 => r = some (aI (mkV 1 (nI p) (M 11 0 4 (28 + 5 * p + 4)) (M 11 0 4 (28 + 5 * p + 3)) (M 11 0 4 (28 + 5 * p + 1)))) ∧ TRr M2 M (l ++ mkT 1)) := by
  obtain ⟨P1, P2, P3, P4, P5, P6⟩ := id hP
  refine con_of okRef_markOf [some (aR 11 0 0), some (aI (nI p)), none] (some .int) ?_
  intro J hgo
  refine hgo [] _ _ _ _ ?_
  refine cl_ (c_Ref_of p 0 M1 (by omega) (by omega)) ?_
  rw [show M1 11 0 4 (28 + 5 * p + 0) = nI 1 by rw [hT1.2.1 4 (by decide) (by decide)]; exact P4]
  refine brf (by decide) ?_
  refine hgo [] _ _ _ _ ?_
  refine cl_ (c_Ref_isOf 1 1 M1 (by omega) (by omega)) ?_
  refine brbt (by decide) ?_
  refine hgo [] _ _ _ _ ?_
  refine clp (c_Ref_began 21 (l) M1 M hT1 (by (try simp only [List.length_cons, List.length_nil, List.length_append]); omega)) ?_
  rintro r M2 ⟨rfl, hT2⟩
  refine clp (c_Ref_began 20 (l ++ [21]) M2 M hT2 (by (try simp only [List.length_cons, List.length_nil, List.length_append]); omega)) ?_
  rintro r M3 ⟨rfl, hT3⟩
  (repeat (first | refine brt (by decide) ?_ | refine brf (by decide) ?_))
  refine hgo [] _ _ _ _ ?_
  refine cl_ (c_Ref_of p 3 M3 (by omega) (by omega)) ?_
  refine ⟨?_, ?_⟩
  · rw [hT3.2.1 4 (by decide) (by decide)]; rfl
  · rw [show l ++ mkT 1 = l ++ [21] ++ [20] by simp [mkT, szT]]
    exact hT3
theorem c_Ref_mark2 {np : Nat} (p : Nat) (l : List Nat) (M1 M : am_M) (hT1 : TRr M1 M l) (hl : l.length ≤ 13) (hP : PR4 M np p 2) : ConP 4 mRef_markOf [aR 11 0 0, aI (nI p)] M1 (fun r M2 => r = some (aI (mkV 2 (nI p) (M 11 0 4 (28 + 5 * p + 4)) (M 11 0 4 (28 + 5 * p + 3)) (M 11 0 4 (28 + 5 * p + 1)))) ∧ TRr M2 M (l ++ mkT 2)) := by
  obtain ⟨P1, P2, P3, P4, P5, P6⟩ := id hP
  refine con_of okRef_markOf [some (aR 11 0 0), some (aI (nI p)), none] (some .int) ?_
  intro J hgo
  refine hgo [] _ _ _ _ ?_
  refine cl_ (c_Ref_of p 0 M1 (by omega) (by omega)) ?_
  rw [show M1 11 0 4 (28 + 5 * p + 0) = nI 2 by rw [hT1.2.1 4 (by decide) (by decide)]; exact P4]
  refine brf (by decide) ?_
  refine hgo [] _ _ _ _ ?_
  refine cl_ (c_Ref_isOf 2 1 M1 (by omega) (by omega)) ?_
  refine brbf (by decide) ?_
  refine hgo [] _ _ _ _ ?_
  refine brf (by decide) ?_
  refine hgo [] _ _ _ _ ?_
  refine clp (c_Ref_began 22 (l) M1 M hT1 (by (try simp only [List.length_cons, List.length_nil, List.length_append]); omega)) ?_
  rintro r M2 ⟨rfl, hT2⟩
  refine clp (c_Ref_began 20 (l ++ [22]) M2 M hT2 (by (try simp only [List.length_cons, List.length_nil, List.length_append]); omega)) ?_
  rintro r M3 ⟨rfl, hT3⟩
  (repeat (first | refine brt (by decide) ?_ | refine brf (by decide) ?_))
  refine hgo [] _ _ _ _ ?_
  refine cl_ (c_Ref_of p 1 M3 (by omega) (by omega)) ?_
  refine ⟨?_, ?_⟩
  · rw [hT3.2.1 4 (by decide) (by decide)]; rfl
  · rw [show l ++ mkT 2 = l ++ [22] ++ [20] by simp [mkT, szT]]
    exact hT3
theorem c_Ref_mark3 {np : Nat} (p : Nat) (l : List Nat) (M1 M : am_M) (hT1 : TRr M1 M l) (hl : l.length ≤ 13) (hP : PR4 M np p 3) : ConP 4 mRef_markOf [aR 11 0 0, aI (nI p)] M1 (fun r M2 => r = some (aI (mkV 3 (nI p) (M 11 0 4 (28 + 5 * p + 4)) (M 11 0 4 (28 + 5 * p + 3)) (M 11 0 4 (28 + 5 * p + 1)))) ∧ TRr M2 M (l ++ mkT 3)) := by
  obtain ⟨P1, P2, P3, P4, P5, P6⟩ := id hP
  refine con_of okRef_markOf [some (aR 11 0 0), some (aI (nI p)), none] (some .int) ?_
  intro J hgo
  refine hgo [] _ _ _ _ ?_
  refine cl_ (c_Ref_of p 0 M1 (by omega) (by omega)) ?_
  rw [show M1 11 0 4 (28 + 5 * p + 0) = nI 3 by rw [hT1.2.1 4 (by decide) (by decide)]; exact P4]
  refine brf (by decide) ?_
  refine hgo [] _ _ _ _ ?_
  refine cl_ (c_Ref_isOf 3 1 M1 (by omega) (by omega)) ?_
  refine brbf (by decide) ?_
  refine hgo [] _ _ _ _ ?_
  refine brf (by decide) ?_
  refine hgo [] _ _ _ _ ?_
  refine clp (c_Ref_began 22 (l) M1 M hT1 (by (try simp only [List.length_cons, List.length_nil, List.length_append]); omega)) ?_
  rintro r M2 ⟨rfl, hT2⟩
  refine clp (c_Ref_began 20 (l ++ [22]) M2 M hT2 (by (try simp only [List.length_cons, List.length_nil, List.length_append]); omega)) ?_
  rintro r M3 ⟨rfl, hT3⟩
  (repeat (first | refine brt (by decide) ?_ | refine brf (by decide) ?_))
  refine hgo [] _ _ _ _ ?_
  refine cl_ (c_Ref_of p 1 M3 (by omega) (by omega)) ?_
  refine ⟨?_, ?_⟩
  · rw [hT3.2.1 4 (by decide) (by decide)]; rfl
  · rw [show l ++ mkT 3 = l ++ [22] ++ [20] by simp [mkT, szT]]
    exact hT3
theorem c_Ref_mark4 {np : Nat} (p : Nat) (l : List Nat) (M1 M : am_M) (hT1 : TRr M1 M l) (hl : l.length ≤ 13) (hP : PR4 M np p 4) : ConP 4 mRef_markOf [aR 11 0 0, aI (nI p)] M1 (fun r M2 => r = some (aI (mkV 4 (nI p) (M 11 0 4 (28 + 5 * p + 4)) (M 11 0 4 (28 + 5 * p + 3)) (M 11 0 4 (28 + 5 * p + 1)))) ∧ TRr M2 M (l ++ mkT 4)) := by
  obtain ⟨P1, P2, P3, P4, P5, P6⟩ := id hP
  refine con_of okRef_markOf [some (aR 11 0 0), some (aI (nI p)), none] (some .int) ?_
  intro J hgo
  refine hgo [] _ _ _ _ ?_
  refine cl_ (c_Ref_of p 0 M1 (by omega) (by omega)) ?_
  rw [show M1 11 0 4 (28 + 5 * p + 0) = nI 4 by rw [hT1.2.1 4 (by decide) (by decide)]; exact P4]
  refine brt rfl ?_
  refine clp (c_Ref_began 24 (l) M1 M hT1 (by (try simp only [List.length_cons, List.length_nil, List.length_append]); omega)) ?_
  rintro r M2 ⟨rfl, hT2⟩
  refine cl_ (c_Ref_isOf 4 1 M2 (by omega) (by omega)) ?_
  refine brbt (by decide) ?_
  refine hgo [] _ _ _ _ ?_
  refine clp (c_Ref_began 21 (l ++ [24]) M2 M hT2 (by (try simp only [List.length_cons, List.length_nil, List.length_append]); omega)) ?_
  rintro r M3 ⟨rfl, hT3⟩
  refine clp (c_Ref_began 20 (l ++ [24] ++ [21]) M3 M hT3 (by (try simp only [List.length_cons, List.length_nil, List.length_append]); omega)) ?_
  rintro r M4 ⟨rfl, hT4⟩
  (repeat (first | refine brt (by decide) ?_ | refine brf (by decide) ?_))
  refine hgo [] _ _ _ _ ?_
  refine cl_ (c_Ref_of p 3 M4 (by omega) (by omega)) ?_
  refine ⟨?_, ?_⟩
  · rw [hT4.2.1 4 (by decide) (by decide)]; rfl
  · rw [show l ++ mkT 4 = l ++ [24] ++ [21] ++ [20] by simp [mkT, szT]]
    exact hT4
theorem c_Ref_mark5 {np : Nat} (p : Nat) (l : List Nat) (M1 M : am_M) (hT1 : TRr M1 M l) (hl : l.length ≤ 13) (hP : PR4 M np p 5) : ConP 4 mRef_markOf [aR 11 0 0, aI (nI p)] M1 (fun r M2 => r = some (aI (mkV 5 (nI p) (M 11 0 4 (28 + 5 * p + 4)) (M 11 0 4 (28 + 5 * p + 3)) (M 11 0 4 (28 + 5 * p + 1)))) ∧ TRr M2 M (l ++ mkT 5)) := by
  obtain ⟨P1, P2, P3, P4, P5, P6⟩ := id hP
  refine con_of okRef_markOf [some (aR 11 0 0), some (aI (nI p)), none] (some .int) ?_
  intro J hgo
  refine hgo [] _ _ _ _ ?_
  refine cl_ (c_Ref_of p 0 M1 (by omega) (by omega)) ?_
  rw [show M1 11 0 4 (28 + 5 * p + 0) = nI 5 by rw [hT1.2.1 4 (by decide) (by decide)]; exact P4]
  refine brf (by decide) ?_
  refine hgo [] _ _ _ _ ?_
  refine cl_ (c_Ref_isOf 5 1 M1 (by omega) (by omega)) ?_
  refine brbf (by decide) ?_
  refine hgo [] _ _ _ _ ?_
  refine brt rfl ?_
  refine hgo [] _ _ _ _ ?_
  refine clp (c_Ref_began 23 (l) M1 M hT1 (by (try simp only [List.length_cons, List.length_nil, List.length_append]); omega)) ?_
  rintro r M2 ⟨rfl, hT2⟩
  refine clp (c_Ref_began 20 (l ++ [23]) M2 M hT2 (by (try simp only [List.length_cons, List.length_nil, List.length_append]); omega)) ?_
  rintro r M3 ⟨rfl, hT3⟩
  (repeat (first | refine brt (by decide) ?_ | refine brf (by decide) ?_))
  refine hgo [] _ _ _ _ ?_
  refine clp (c_Ref_plainSize p (l ++ [23] ++ [20]) M3 M hT3 (by (try simp only [List.length_cons, List.length_nil, List.length_append]); omega) (by omega)) ?_
  rintro r M4 ⟨rfl, hT4⟩
  refine ⟨?_, ?_⟩
  · rfl
  · rw [show l ++ mkT 5 = l ++ [23] ++ [20] ++ [10] by simp [mkT, szT]]
    exact hT4
theorem c_Ref_size1 {np : Nat} (p : Nat) (l : List Nat) (M1 M : am_M) (hT1 : TRr M1 M l) (hl : l.length ≤ 10) (hP : PR4 M np p 1) : ConP 5 mRef_sizeOf [aR 11 0 0, aI (nI p)] M1 (fun r M2 => r = some (aI (szV 1 (nI p) (M 11 0 4 (28 + 5 * p + 4)) (M 11 0 4 (28 + 5 * p + 3)) (M 11 0 4 (28 + 5 * p + 1)))) ∧ TRr M2 M (l ++ szT 1)) := by
  obtain ⟨P1, P2, P3, P4, P5, P6⟩ := id hP
  refine con_of okRef_sizeOf [some (aR 11 0 0), some (aI (nI p)), none, none] (some .int) ?_
  intro J hgo
  refine hgo [] _ _ _ _ ?_
  refine cl_ (c_Ref_of p 0 M1 (by omega) (by omega)) ?_
  rw [show M1 11 0 4 (28 + 5 * p + 0) = nI 1 by rw [hT1.2.1 4 (by decide) (by decide)]; exact P4]
  refine brf (by decide) ?_
  refine hgo [] _ _ _ _ ?_
  refine brf (by decide) ?_
  refine brf (by decide) ?_
  refine hgo [] _ _ _ _ ?_
  refine cl_ (c_Ref_isOf 1 1 M1 (by omega) (by omega)) ?_
  refine brbt (by decide) ?_
  refine hgo [] _ _ _ _ ?_
  refine clp (c_Ref_began 11 (l) M1 M hT1 (by (try simp only [List.length_cons, List.length_nil, List.length_append]); omega)) ?_
  rintro r M2 ⟨rfl, hT2⟩
  refine clp (c_Ref_plainSize p (l ++ [11]) M2 M hT2 (by (try simp only [List.length_cons, List.length_nil, List.length_append]); omega) (by omega)) ?_
  rintro r M3 ⟨rfl, hT3⟩
  refine cl_ (c_Ref_isOf 1 2 M3 (by omega) (by omega)) ?_
  refine brbf (by decide) ?_
  refine hgo [] _ _ _ _ ?_
  refine clp (c_Ref_mark1 (np := np) p (l ++ [11] ++ [10]) M3 M hT3 (by (try simp only [List.length_cons, List.length_nil, List.length_append]); omega) hP) ?_
  rintro r M4 ⟨rfl, hT4⟩
  refine brf (by decide) ?_
  refine hgo [] _ _ _ _ ?_
  refine ⟨?_, ?_⟩
  · rfl
  · rw [show l ++ szT 1 = l ++ [11] ++ [10] ++ mkT 1 by simp [mkT, szT]]
    exact hT4
theorem c_Ref_size2 {np : Nat} (p : Nat) (l : List Nat) (M1 M : am_M) (hT1 : TRr M1 M l) (hl : l.length ≤ 10) (hP : PR4 M np p 2) : ConP 5 mRef_sizeOf [aR 11 0 0, aI (nI p)] M1 (fun r M2 => r = some (aI (szV 2 (nI p) (M 11 0 4 (28 + 5 * p + 4)) (M 11 0 4 (28 + 5 * p + 3)) (M 11 0 4 (28 + 5 * p + 1)))) ∧ TRr M2 M (l ++ szT 2)) := by
  obtain ⟨P1, P2, P3, P4, P5, P6⟩ := id hP
  refine con_of okRef_sizeOf [some (aR 11 0 0), some (aI (nI p)), none, none] (some .int) ?_
  intro J hgo
  refine hgo [] _ _ _ _ ?_
  refine cl_ (c_Ref_of p 0 M1 (by omega) (by omega)) ?_
  rw [show M1 11 0 4 (28 + 5 * p + 0) = nI 2 by rw [hT1.2.1 4 (by decide) (by decide)]; exact P4]
  refine brf (by decide) ?_
  refine hgo [] _ _ _ _ ?_
  refine brf (by decide) ?_
  refine brf (by decide) ?_
  refine hgo [] _ _ _ _ ?_
  refine cl_ (c_Ref_isOf 2 1 M1 (by omega) (by omega)) ?_
  refine brbf (by decide) ?_
  refine hgo [] _ _ _ _ ?_
  refine clp (c_Ref_began 13 (l) M1 M hT1 (by (try simp only [List.length_cons, List.length_nil, List.length_append]); omega)) ?_
  rintro r M2 ⟨rfl, hT2⟩
  refine clp (c_Ref_plainSize p (l ++ [13]) M2 M hT2 (by (try simp only [List.length_cons, List.length_nil, List.length_append]); omega) (by omega)) ?_
  rintro r M3 ⟨rfl, hT3⟩
  refine cl_ (c_Ref_isOf 2 2 M3 (by omega) (by omega)) ?_
  refine brbt (by decide) ?_
  refine cl_ (c_Ref_of p 3 M3 (by omega) (by omega)) ?_
  refine brf (by decide) ?_
  refine hgo [] _ _ _ _ ?_
  refine ⟨?_, ?_⟩
  · rw [hT3.2.1 4 (by decide) (by decide)]; rfl
  · rw [show l ++ szT 2 = l ++ [13] ++ [10] by simp [mkT, szT]]
    exact hT3
theorem c_Ref_size3 {np : Nat} (p : Nat) (l : List Nat) (M1 M : am_M) (hT1 : TRr M1 M l) (hl : l.length ≤ 10) (hP : PR4 M np p 3) : ConP 5 mRef_sizeOf [aR 11 0 0, aI (nI p)] M1 (fun r M2 => r = some (aI (szV 3 (nI p) (M 11 0 4 (28 + 5 * p + 4)) (M 11 0 4 (28 + 5 * p + 3)) (M 11 0 4 (28 + 5 * p + 1)))) ∧ TRr M2 M (l ++ szT 3)) := by
  obtain ⟨P1, P2, P3, P4, P5, P6⟩ := id hP
  refine con_of okRef_sizeOf [some (aR 11 0 0), some (aI (nI p)), none, none] (some .int) ?_
  intro J hgo
  refine hgo [] _ _ _ _ ?_
  refine cl_ (c_Ref_of p 0 M1 (by omega) (by omega)) ?_
  rw [show M1 11 0 4 (28 + 5 * p + 0) = nI 3 by rw [hT1.2.1 4 (by decide) (by decide)]; exact P4]
  refine brf (by decide) ?_
  refine hgo [] _ _ _ _ ?_
  refine brt rfl ?_
  refine hgo [] _ _ _ _ ?_
  refine brt rfl ?_
  refine hgo [] _ _ _ _ ?_
  refine clp (c_Ref_began 14 (l) M1 M hT1 (by (try simp only [List.length_cons, List.length_nil, List.length_append]); omega)) ?_
  rintro r M2 ⟨rfl, hT2⟩
  refine cl_ (c_Ref_isOf 3 1 M2 (by omega) (by omega)) ?_
  refine brbf (by decide) ?_
  refine hgo [] _ _ _ _ ?_
  refine clp (c_Ref_began 13 (l ++ [14]) M2 M hT2 (by (try simp only [List.length_cons, List.length_nil, List.length_append]); omega)) ?_
  rintro r M3 ⟨rfl, hT3⟩
  refine clp (c_Ref_plainSize p (l ++ [14] ++ [13]) M3 M hT3 (by (try simp only [List.length_cons, List.length_nil, List.length_append]); omega) (by omega)) ?_
  rintro r M4 ⟨rfl, hT4⟩
  refine cl_ (c_Ref_isOf 3 2 M4 (by omega) (by omega)) ?_
  refine brbt (by decide) ?_
  refine cl_ (c_Ref_of p 3 M4 (by omega) (by omega)) ?_
  refine brt rfl ?_
  refine hgo [] _ _ _ _ ?_
  refine ⟨?_, ?_⟩
  · rw [hT4.2.1 4 (by decide) (by decide)]; rfl
  · rw [show l ++ szT 3 = l ++ [14] ++ [13] ++ [10] by simp [mkT, szT]]
    exact hT4
theorem c_Ref_size4 {np : Nat} (p : Nat) (l : List Nat) (M1 M : am_M) (hT1 : TRr M1 M l) (hl : l.length ≤ 10) (hP : PR4 M np p 4) : ConP 5 mRef_sizeOf [aR 11 0 0, aI (nI p)] M1 (fun r M2 => r = some (aI (szV 4 (nI p) (M 11 0 4 (28 + 5 * p + 4)) (M 11 0 4 (28 + 5 * p + 3)) (M 11 0 4 (28 + 5 * p + 1)))) ∧ TRr M2 M (l ++ szT 4)) := by
  obtain ⟨P1, P2, P3, P4, P5, P6⟩ := id hP
  refine con_of okRef_sizeOf [some (aR 11 0 0), some (aI (nI p)), none, none] (some .int) ?_
  intro J hgo
  refine hgo [] _ _ _ _ ?_
  refine cl_ (c_Ref_of p 0 M1 (by omega) (by omega)) ?_
  rw [show M1 11 0 4 (28 + 5 * p + 0) = nI 4 by rw [hT1.2.1 4 (by decide) (by decide)]; exact P4]
  refine brf (by decide) ?_
  refine hgo [] _ _ _ _ ?_
  refine brf (by decide) ?_
  refine brt rfl ?_
  refine brf (by decide) ?_
  refine hgo [] _ _ _ _ ?_
  refine clp (c_Ref_began 12 (l) M1 M hT1 (by (try simp only [List.length_cons, List.length_nil, List.length_append]); omega)) ?_
  rintro r M2 ⟨rfl, hT2⟩
  refine cl_ (c_Ref_isOf 4 1 M2 (by omega) (by omega)) ?_
  refine brbt (by decide) ?_
  refine hgo [] _ _ _ _ ?_
  refine clp (c_Ref_began 11 (l ++ [12]) M2 M hT2 (by (try simp only [List.length_cons, List.length_nil, List.length_append]); omega)) ?_
  rintro r M3 ⟨rfl, hT3⟩
  refine clp (c_Ref_plainSize p (l ++ [12] ++ [11]) M3 M hT3 (by (try simp only [List.length_cons, List.length_nil, List.length_append]); omega) (by omega)) ?_
  rintro r M4 ⟨rfl, hT4⟩
  refine cl_ (c_Ref_isOf 4 2 M4 (by omega) (by omega)) ?_
  refine brbf (by decide) ?_
  refine hgo [] _ _ _ _ ?_
  refine clp (c_Ref_mark4 (np := np) p (l ++ [12] ++ [11] ++ [10]) M4 M hT4 (by (try simp only [List.length_cons, List.length_nil, List.length_append]); omega) hP) ?_
  rintro r M5 ⟨rfl, hT5⟩
  refine brt rfl ?_
  refine hgo [] _ _ _ _ ?_
  refine ⟨?_, ?_⟩
  · rw [← Int32.zero_sub]; rfl
  · rw [show l ++ szT 4 = l ++ [12] ++ [11] ++ [10] ++ mkT 4 by simp [mkT, szT]]
    exact hT5
theorem c_Ref_size5 {np : Nat} (p : Nat) (l : List Nat) (M1 M : am_M) (hT1 : TRr M1 M l) (hl : l.length ≤ 10) (hP : PR4 M np p 5) : ConP 5 mRef_sizeOf [aR 11 0 0, aI (nI p)] M1 (fun r M2 => r = some (aI (szV 5 (nI p) (M 11 0 4 (28 + 5 * p + 4)) (M 11 0 4 (28 + 5 * p + 3)) (M 11 0 4 (28 + 5 * p + 1)))) ∧ TRr M2 M (l ++ szT 5)) := by
  obtain ⟨P1, P2, P3, P4, P5, P6⟩ := id hP
  refine con_of okRef_sizeOf [some (aR 11 0 0), some (aI (nI p)), none, none] (some .int) ?_
  intro J hgo
  refine hgo [] _ _ _ _ ?_
  refine cl_ (c_Ref_of p 0 M1 (by omega) (by omega)) ?_
  rw [show M1 11 0 4 (28 + 5 * p + 0) = nI 5 by rw [hT1.2.1 4 (by decide) (by decide)]; exact P4]
  refine brt rfl ?_
  refine clp (c_Ref_plainSize p (l) M1 M hT1 (by (try simp only [List.length_cons, List.length_nil, List.length_append]); omega) (by omega)) ?_
  rintro r M2 ⟨rfl, hT2⟩
  refine ⟨?_, ?_⟩
  · rfl
  · rw [show l ++ szT 5 = l ++ [10] by simp [mkT, szT]]
    exact hT2
theorem c_Ref_markOf {np : Nat} (p kd : Nat) (l : List Nat) (M1 M : am_M) (hT1 : TRr M1 M l) (hl : l.length ≤ 13) (hP : PR4 M np p kd) : ConP 4 mRef_markOf [aR 11 0 0, aI (nI p)] M1 (fun r M2 => r = some (aI (mkV kd (nI p) (M 11 0 4 (28 + 5 * p + 4)) (M 11 0 4 (28 + 5 * p + 3)) (M 11 0 4 (28 + 5 * p + 1)))) ∧ TRr M2 M (l ++ mkT kd)) := by
  have hk : kd = 1 ∨ kd = 2 ∨ kd = 3 ∨ kd = 4 ∨ kd = 5 := by
    have := hP.2.2.2.2
    omega
  rcases hk with rfl | rfl | rfl | rfl | rfl
  · exact c_Ref_mark1 p l M1 M hT1 hl hP
  · exact c_Ref_mark2 p l M1 M hT1 hl hP
  · exact c_Ref_mark3 p l M1 M hT1 hl hP
  · exact c_Ref_mark4 p l M1 M hT1 hl hP
  · exact c_Ref_mark5 p l M1 M hT1 hl hP
theorem c_Ref_sizeOf {np : Nat} (p kd : Nat) (l : List Nat) (M1 M : am_M) (hT1 : TRr M1 M l) (hl : l.length ≤ 10) (hP : PR4 M np p kd) : ConP 5 mRef_sizeOf [aR 11 0 0, aI (nI p)] M1 (fun r M2 => r = some (aI (szV kd (nI p) (M 11 0 4 (28 + 5 * p + 4)) (M 11 0 4 (28 + 5 * p + 3)) (M 11 0 4 (28 + 5 * p + 1)))) ∧ TRr M2 M (l ++ szT kd)) := by
  have hk : kd = 1 ∨ kd = 2 ∨ kd = 3 ∨ kd = 4 ∨ kd = 5 := by
    have := hP.2.2.2.2
    omega
  rcases hk with rfl | rfl | rfl | rfl | rfl
  · exact c_Ref_size1 p l M1 M hT1 hl hP
  · exact c_Ref_size2 p l M1 M hT1 hl hP
  · exact c_Ref_size3 p l M1 M hT1 hl hP
  · exact c_Ref_size4 p l M1 M hT1 hl hP
  · exact c_Ref_size5 p l M1 M hT1 hl hP
end
section
theorem c_Main_ask_bad (np : Nat) (p x : Int32) (M : am_M) (hnp : M 4 0 0 4 = nI np) (h10 : np ≤ 10) (hb : ¬ ((0 ≤ p.toInt ∧ p.toInt < np) ∧ (x = 0 ∨ x = 1))) : Con 10 mMain_ask [aR 0 0 0, aI p, aI x] M (some (aI (-1000001))) M := by
  refine con_of okMain_ask [some (aR 0 0 0), some (aI p), some (aI x)] (some .int) ?_
  intro J hgo
  have p18 : J 18 [some (aR 0 0 0), some (aI p), some (aI x)] [] M := by
    refine hgo [] _ _ _ _ ?_
    exact ⟨rfl, rfl⟩
  refine hgo [18] _ _ _ _ ?_
  refine cl_ (c_House_isPaper np 0 p _ hnp (by omega)) ?_
  refine brb (fun h1 => p18) (fun h1 => ?_)
  refine cl_ (c_Main_isSwitch x _) ?_
  refine brbf (fun h2 => hb ⟨h1, h2⟩) ?_
  exact p18
def akT (x : Int32) (kd : Nat) : List Nat := if x = 0 then szT kd else mkT kd
def akV (x : Int32) (kd : Nat) (p re pr md : Int32) : Int32 := if x = 0 then szV kd p re pr md else mkV kd p re pr md
theorem c_Main_ask_ok (np p kd : Nat) (x : Int32) (M : am_M) (hP : PF M np p kd) (hx : x = 0 ∨ x = 1) : ConP 10 mMain_ask [aR 0 0 0, aI (nI p), aI x] M (fun r M2 => r = some (aI (akV x kd (nI p) (M 4 0 8 p) (M 4 0 7 p) (M 4 0 5 p))) ∧ TRc M2 M (akT x kd)) := by
  obtain ⟨P1, P2, P3, P4, P5, P6⟩ := id hP
  refine con_of okMain_ask [some (aR 0 0 0), some (aI (nI p)), some (aI x)] (some .int) ?_
  intro J hgo
  refine hgo [] _ _ _ _ ?_
  refine cl_ (c_House_isPaper np 0 (nI p) _ P1 (by omega)) ?_
  refine brbt (by rw [i3_n (by omega)]; omega) ?_
  refine cl_ (c_Main_isSwitch x _) ?_
  refine brbt hx ?_
  refine hgo [] _ _ _ _ ?_
  refine br_ (fun h1 => ?_) (fun h1 => ?_)
  · refine clp (c_Bodies_askSize np p kd M hP) ?_
    rintro r M2 ⟨rfl, h2⟩
    refine hgo [] _ _ _ _ ?_
    unfold akV akT
    rw [if_pos h1, if_pos h1]
    exact ⟨rfl, h2⟩
  · refine hgo [] _ _ _ _ ?_
    refine clp (c_Bodies_askMark np p kd M hP) ?_
    rintro r M2 ⟨rfl, h2⟩
    unfold akV akT
    rw [if_neg h1, if_neg h1]
    exact ⟨rfl, h2⟩
theorem c_Ref_ask_bad (np : Nat) (p x : Int32) (M : am_M) (hnp : M 11 0 4 1 = nI np) (h10 : np ≤ 10) (hb : ¬ ((0 ≤ p.toInt ∧ p.toInt < np) ∧ (x = 0 ∨ x = 1))) : Con 10 mRef_ask [aR 11 0 0, aI p, aI x] M (some (aI (-1000001))) (rT M) := by
  refine con_of okRef_ask [some (aR 11 0 0), some (aI p), some (aI x)] (some .int) ?_
  intro J hgo
  have p23 : J 23 [some (aR 11 0 0), some (aI p), some (aI x)] [] (rT M) := by
    refine hgo [] _ _ _ _ ?_
    exact ⟨rfl, rfl⟩
  refine hgo [23] _ _ _ _ ?_
  refine cl_ (c_Ref_isPaper np p _ hnp (by omega)) ?_
  refine brb (fun h1 => p23) (fun h1 => ?_)
  refine cl_ (c_Ref_in x 0 1 _ _ _ rfl (by decide) (by decide) _) ?_
  refine brbf (fun h2 => hb ⟨h1, swIn.mp h2⟩) ?_
  exact p23
theorem c_Ref_ask_ok (np p kd : Nat) (x : Int32) (M : am_M) (hP : PR4 M np p kd) (hx : x = 0 ∨ x = 1) : ConP 10 mRef_ask [aR 11 0 0, aI (nI p), aI x] M (fun r M2 => r = some (aI (akV x kd (nI p) (M 11 0 4 (28 + 5 * p + 4)) (M 11 0 4 (28 + 5 * p + 3)) (M 11 0 4 (28 + 5 * p + 1)))) ∧ TRr M2 (rT M) (akT x kd)) := by
  obtain ⟨P1, P2, P3, P4, P5, P6⟩ := id hP
  refine con_of okRef_ask [some (aR 11 0 0), some (aI (nI p)), some (aI x)] (some .int) ?_
  intro J hgo
  have hT : TRr (sA (rT M) 11 0 0 (upd (rT M 11 0 0) 28 0)) (rT M) [] := ⟨fun k hk => sA_k hk, fun o h1 h2 => sA_o h1, fun i hi => upd_n hi, rfl, fun i hi => absurd hi (Nat.not_lt_zero i)⟩
  refine hgo [] _ _ _ _ ?_
  refine cl_ (c_Ref_isPaper np (nI p) _ P1 (by omega)) ?_
  refine brbt (by rw [i3_n (by omega)]; omega) ?_
  refine cl_ (c_Ref_in x 0 1 _ _ _ rfl (by decide) (by decide) _) ?_
  refine brbt (swIn.mpr hx) ?_
  refine hgo [] _ _ _ _ ?_
  refine br_ (fun h1 => ?_) (fun h1 => ?_)
  · refine clp (c_Ref_sizeOf (np := np) p kd [] _ (rT M) hT (by decide) hP) ?_
    rintro r M2 ⟨rfl, h2⟩
    refine hgo [] _ _ _ _ ?_
    unfold akV akT
    rw [if_pos h1, if_pos h1]
    exact ⟨rfl, h2⟩
  · refine hgo [] _ _ _ _ ?_
    refine clp (c_Ref_markOf (np := np) p kd [] _ (rT M) hT (by decide) hP) ?_
    rintro r M2 ⟨rfl, h2⟩
    unfold akV akT
    rw [if_neg h1, if_neg h1]
    exact ⟨rfl, h2⟩
theorem Rel_bod {M M2 : am_M} (h : Rel M) (hk : ∀ k, k ≠ 10 → k ≠ 11 → M2 k = M k) (hr : ∀ o, o ≠ 0 → o ≠ 15 → M2 11 0 o = M 11 0 o) (hs : ∀ i, i ≠ 0 → i ≠ 28 → M2 11 0 0 i = M 11 0 0 i) (hb : Rbod (M2 10 0 0 1) (M2 10 0 1) (M2 11 0 0 28) (M2 11 0 15)) : Rel M2 := by
  obtain ⟨g1, g2, g3, g4, g5, g6, g7⟩ := h
  unfold Rel RelH RelA RelI
  rw [hk 0 (by decide) (by decide), hk 1 (by decide) (by decide), hk 2 (by decide) (by decide), hk 4 (by decide) (by decide), hk 5 (by decide) (by decide), hk 7 (by decide) (by decide), hk 8 (by decide) (by decide), hr 1 (by decide) (by decide), hr 2 (by decide) (by decide), hr 3 (by decide) (by decide), hr 4 (by decide) (by decide), hr 6 (by decide) (by decide), hr 7 (by decide) (by decide), hr 8 (by decide) (by decide), hr 9 (by decide) (by decide), hr 13 (by decide) (by decide), hr 14 (by decide) (by decide), hs 1 (by decide) (by decide), hs 7 (by decide) (by decide), hs 9 (by decide) (by decide), hs 10 (by decide) (by decide), hs 18 (by decide) (by decide)]
  exact ⟨g1, g2, g3, g4, g5, g6, hb⟩
theorem akL (x : Int32) (kd : Nat) (h1 : 1 ≤ kd) (h5 : kd ≤ 5) : (akT x kd).length ≤ 16 := by
  unfold akT
  split
  · exact (szN kd h1 h5).2
  · have := mkL kd
    omega
theorem op_ask (p x : Int32) (M : am_M) (hR : Rel M) : OpAt mMain_ask mRef_ask [aI p, aI x] M := by
  obtain ⟨p1, p2, p3⟩ := Rel_np hR
  by_cases hb : (0 ≤ p.toInt ∧ p.toInt < nP (M 11 0 4)) ∧ (x = 0 ∨ x = 1)
  · obtain ⟨b1, hx⟩ := hb
    have hpp := i3_of b1.1
    have hcl := i3_cl b1.1
    generalize p.toNatClampNeg = q at hpp hcl
    subst hpp
    have hq : q < nP (M 11 0 4) := by omega
    obtain ⟨kd, md, la, pr, re, ⟨k1, k2, k3, k4⟩, ⟨m1, m2, m3, m4⟩, -, ⟨r1, r2, -⟩, ⟨e1, e2, -⟩⟩ := Rel_pap hR hq
    refine op_mkP (v := akV x kd (nI q) (M 4 0 8 q) (M 4 0 7 q) (M 4 0 5 q)) (d2 := 10) (c_Main_ask_ok (nP (M 11 0 4)) q kd x M ⟨p1, p3, hq, k1, k3, k4⟩ hx) ?_
    rintro r M1 ⟨rfl, t0, t1, t2⟩
    have h11 := t0 11 (by decide)
    refine ⟨rfl, _, c_Ref_ask_ok (nP (M 11 0 4)) q kd x M1 ⟨by rw [h11]; exact p2, p3, hq, by rw [h11]; exact k2, k3, k4⟩ hx, ?_⟩
    rintro r2 M2 ⟨rfl, u0, u1, u2, u3, u4⟩
    refine ⟨?_, ?_⟩
    · rw [h11, show 28 + 5 * q + 4 = 32 + 5 * q by omega, show 28 + 5 * q + 3 = 31 + 5 * q by omega, show 28 + 5 * q + 1 = 29 + 5 * q by omega, e1, e2, r1, r2, m1, m2]
    · refine Rel_bod hR (fun k h1 h2 => ?_) (fun o h1 h2 => ?_) (fun i h1 h2 => ?_) ?_
      · rw [u0 k h2]
        show sA M1 11 0 0 _ k = _
        rw [sA_k h2]
        exact t0 k h1
      · rw [u1 o h1 h2]
        show sA M1 11 0 0 _ 11 0 o = _
        rw [sA_o h1, h11]
      · rw [u2 i h2]
        show upd (M1 11 0 0) 0 0 i = _
        rw [upd_n h1, h11]
      · have h10 : M2 10 = M1 10 := (u0 10 (by decide)).trans (sA_k (by decide))
        rw [h10]
        exact ⟨_, akL x kd k3 k4, t1, u3, fun i hi => by rw [t2 i hi, u4 i hi]⟩
  · exact op_mk (c_Main_ask_bad _ p x M p1 p3 hb) (c_Ref_ask_bad _ p x M p2 p3 hb) (Rel_bad hR)
end
