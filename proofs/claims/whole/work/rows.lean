section
-- ===== PART A: goes FIRST, ahead of the names: the tables' words, and 'selects' of the private methods out of them =====
/-- a private method of a class that the tables say can be made, by its rows of tables_1 -/
def lw_okq (q : MethodName × Nat) : Prop := (q.1.cls ≠ "java/lang/invoke/MethodHandle" ∧ q.1.cls ≠ "java/lang/invoke/VarHandle") ∧ Cond.instantiable q.1.cls q.2 ∈ tables_1 ∧ Cond.privateMethod q.1 ∈ tables_1 ∧ Cond.instanceMethod q.1 ∈ tables_1
theorem lw_p0 : lw_okq (⟨"LevelTables", "writeOut", "()V"⟩, 16) := ⟨⟨by decide +kernel, by decide +kernel⟩, List.mem_of_getElem? (i := 36) (by decide +kernel), List.mem_of_getElem? (i := 292) (by decide +kernel), List.mem_of_getElem? (i := 293) (by decide +kernel)⟩
theorem lw_p1 : lw_okq (⟨"LevelTables$Level", "tableWith", "(I)I"⟩, 4) := ⟨⟨by decide +kernel, by decide +kernel⟩, List.mem_of_getElem? (i := 134) (by decide +kernel), List.mem_of_getElem? (i := 342) (by decide +kernel), List.mem_of_getElem? (i := 343) (by decide +kernel)⟩
theorem lw_p2 : lw_okq (⟨"LevelTables$Chip", "hasRow", "(II)Z"⟩, 5) := ⟨⟨by decide +kernel, by decide +kernel⟩, List.mem_of_getElem? (i := 75) (by decide +kernel), List.mem_of_getElem? (i := 377) (by decide +kernel), List.mem_of_getElem? (i := 378) (by decide +kernel)⟩
theorem lw_p3 : lw_okq (⟨"LevelTables", "writeNeeded", "(I)V"⟩, 16) := ⟨⟨by decide +kernel, by decide +kernel⟩, List.mem_of_getElem? (i := 36) (by decide +kernel), List.mem_of_getElem? (i := 415) (by decide +kernel), List.mem_of_getElem? (i := 416) (by decide +kernel)⟩
theorem lw_p4 : lw_okq (⟨"LevelTables$Walk", "takeNext", "()Z"⟩, 8) := ⟨⟨by decide +kernel, by decide +kernel⟩, List.mem_of_getElem? (i := 177) (by decide +kernel), List.mem_of_getElem? (i := 431) (by decide +kernel), List.mem_of_getElem? (i := 432) (by decide +kernel)⟩
theorem lw_p5 : lw_okq (⟨"LevelTables", "nextMoment", "(LLevelTables$Version;I)I"⟩, 16) := ⟨⟨by decide +kernel, by decide +kernel⟩, List.mem_of_getElem? (i := 36) (by decide +kernel), List.mem_of_getElem? (i := 455) (by decide +kernel), List.mem_of_getElem? (i := 456) (by decide +kernel)⟩
theorem lw_p6 : lw_okq (⟨"LevelTables", "hasSomething", "(LLevelTables$Version;II)Z"⟩, 16) := ⟨⟨by decide +kernel, by decide +kernel⟩, List.mem_of_getElem? (i := 36) (by decide +kernel), List.mem_of_getElem? (i := 470) (by decide +kernel), List.mem_of_getElem? (i := 471) (by decide +kernel)⟩
theorem lw_p7 : lw_okq (⟨"java/util/ArrayList", "add", "(Ljava/lang/Object;[Ljava/lang/Object;I)V"⟩, 3) := ⟨⟨by decide +kernel, by decide +kernel⟩, List.mem_of_getElem? (i := 140) (by decide +kernel), List.mem_of_getElem? (i := 523) (by decide +kernel), List.mem_of_getElem? (i := 524) (by decide +kernel)⟩
theorem lw_p8 : lw_okq (⟨"java/util/ArrayList", "grow", "()[Ljava/lang/Object;"⟩, 3) := ⟨⟨by decide +kernel, by decide +kernel⟩, List.mem_of_getElem? (i := 140) (by decide +kernel), List.mem_of_getElem? (i := 527) (by decide +kernel), List.mem_of_getElem? (i := 528) (by decide +kernel)⟩
theorem lw_p9 : lw_okq (⟨"java/util/ArrayList", "grow", "(I)[Ljava/lang/Object;"⟩, 3) := ⟨⟨by decide +kernel, by decide +kernel⟩, List.mem_of_getElem? (i := 140) (by decide +kernel), List.mem_of_getElem? (i := 531) (by decide +kernel), List.mem_of_getElem? (i := 532) (by decide +kernel)⟩
theorem lw_p10 : lw_okq (⟨"LevelTables$Chip", "erase", "(I)V"⟩, 5) := ⟨⟨by decide +kernel, by decide +kernel⟩, List.mem_of_getElem? (i := 75) (by decide +kernel), List.mem_of_getElem? (i := 582) (by decide +kernel), List.mem_of_getElem? (i := 583) (by decide +kernel)⟩
theorem lw_p11 : lw_okq (⟨"java/util/ArrayList", "fastRemove", "([Ljava/lang/Object;I)V"⟩, 3) := ⟨⟨by decide +kernel, by decide +kernel⟩, List.mem_of_getElem? (i := 140) (by decide +kernel), List.mem_of_getElem? (i := 617) (by decide +kernel), List.mem_of_getElem? (i := 618) (by decide +kernel)⟩
theorem lw_p12 : lw_okq (⟨"LevelTables$Level", "renumber", "()V"⟩, 4) := ⟨⟨by decide +kernel, by decide +kernel⟩, List.mem_of_getElem? (i := 134) (by decide +kernel), List.mem_of_getElem? (i := 622) (by decide +kernel), List.mem_of_getElem? (i := 623) (by decide +kernel)⟩
theorem lw_p13 : lw_okq (⟨"java/util/ArrayList", "rangeCheckForAdd", "(I)V"⟩, 3) := ⟨⟨by decide +kernel, by decide +kernel⟩, List.mem_of_getElem? (i := 140) (by decide +kernel), List.mem_of_getElem? (i := 646) (by decide +kernel), List.mem_of_getElem? (i := 647) (by decide +kernel)⟩
theorem lw_p14 : lw_okq (⟨"java/lang/Throwable", "fillInStackTrace", "(I)Ljava/lang/Throwable;"⟩, 6) := ⟨⟨by decide +kernel, by decide +kernel⟩, List.mem_of_getElem? (i := 689) (by decide +kernel), List.mem_of_getElem? (i := 687) (by decide +kernel), List.mem_of_getElem? (i := 688) (by decide +kernel)⟩
theorem lw_p15 : lw_okq (⟨"java/util/ArrayList", "outOfBoundsMsg", "(I)Ljava/lang/String;"⟩, 3) := ⟨⟨by decide +kernel, by decide +kernel⟩, List.mem_of_getElem? (i := 140) (by decide +kernel), List.mem_of_getElem? (i := 692) (by decide +kernel), List.mem_of_getElem? (i := 693) (by decide +kernel)⟩
def lw_privs_1 : List (MethodName × Nat) := [(⟨"LevelTables", "writeOut", "()V"⟩, 16), (⟨"LevelTables$Level", "tableWith", "(I)I"⟩, 4), (⟨"LevelTables$Chip", "hasRow", "(II)Z"⟩, 5), (⟨"LevelTables", "writeNeeded", "(I)V"⟩, 16), (⟨"LevelTables$Walk", "takeNext", "()Z"⟩, 8), (⟨"LevelTables", "nextMoment", "(LLevelTables$Version;I)I"⟩, 16), (⟨"LevelTables", "hasSomething", "(LLevelTables$Version;II)Z"⟩, 16), (⟨"java/util/ArrayList", "add", "(Ljava/lang/Object;[Ljava/lang/Object;I)V"⟩, 3), (⟨"java/util/ArrayList", "grow", "()[Ljava/lang/Object;"⟩, 3), (⟨"java/util/ArrayList", "grow", "(I)[Ljava/lang/Object;"⟩, 3), (⟨"LevelTables$Chip", "erase", "(I)V"⟩, 5), (⟨"java/util/ArrayList", "fastRemove", "([Ljava/lang/Object;I)V"⟩, 3), (⟨"LevelTables$Level", "renumber", "()V"⟩, 4), (⟨"java/util/ArrayList", "rangeCheckForAdd", "(I)V"⟩, 3), (⟨"java/lang/Throwable", "fillInStackTrace", "(I)Ljava/lang/Throwable;"⟩, 6), (⟨"java/util/ArrayList", "outOfBoundsMsg", "(I)Ljava/lang/String;"⟩, 3)]
theorem lw_r1 : ∀ q ∈ lw_privs_1, lw_okq q := List.forall_mem_cons.mpr ⟨lw_p0, List.forall_mem_cons.mpr ⟨lw_p1, List.forall_mem_cons.mpr ⟨lw_p2, List.forall_mem_cons.mpr ⟨lw_p3, List.forall_mem_cons.mpr ⟨lw_p4, List.forall_mem_cons.mpr ⟨lw_p5, List.forall_mem_cons.mpr ⟨lw_p6, List.forall_mem_cons.mpr ⟨lw_p7, List.forall_mem_cons.mpr ⟨lw_p8, List.forall_mem_cons.mpr ⟨lw_p9, List.forall_mem_cons.mpr ⟨lw_p10, List.forall_mem_cons.mpr ⟨lw_p11, List.forall_mem_cons.mpr ⟨lw_p12, List.forall_mem_cons.mpr ⟨lw_p13, List.forall_mem_cons.mpr ⟨lw_p14, List.forall_mem_cons.mpr ⟨lw_p15, fun _ h => absurd h List.not_mem_nil⟩⟩⟩⟩⟩⟩⟩⟩⟩⟩⟩⟩⟩⟩⟩⟩
theorem lw_p16 : lw_okq (⟨"LevelTables", "pushDown", "(I)V"⟩, 16) := ⟨⟨by decide +kernel, by decide +kernel⟩, List.mem_of_getElem? (i := 36) (by decide +kernel), List.mem_of_getElem? (i := 973) (by decide +kernel), List.mem_of_getElem? (i := 974) (by decide +kernel)⟩
theorem lw_p17 : lw_okq (⟨"LevelTables", "mergeAll", "()V"⟩, 16) := ⟨⟨by decide +kernel, by decide +kernel⟩, List.mem_of_getElem? (i := 36) (by decide +kernel), List.mem_of_getElem? (i := 982) (by decide +kernel), List.mem_of_getElem? (i := 983) (by decide +kernel)⟩
theorem lw_p18 : lw_okq (⟨"LevelTables", "isSound", "()Z"⟩, 16) := ⟨⟨by decide +kernel, by decide +kernel⟩, List.mem_of_getElem? (i := 36) (by decide +kernel), List.mem_of_getElem? (i := 991) (by decide +kernel), List.mem_of_getElem? (i := 992) (by decide +kernel)⟩
theorem lw_p19 : lw_okq (⟨"LevelTables$Level", "isWhole", "(LLevelTables$Table;LLevelTables$Version;LLevelTables$Version;)Z"⟩, 4) := ⟨⟨by decide +kernel, by decide +kernel⟩, List.mem_of_getElem? (i := 134) (by decide +kernel), List.mem_of_getElem? (i := 1014) (by decide +kernel), List.mem_of_getElem? (i := 1015) (by decide +kernel)⟩
theorem lw_p20 : lw_okq (⟨"LevelTables", "countLiving", "()I"⟩, 16) := ⟨⟨by decide +kernel, by decide +kernel⟩, List.mem_of_getElem? (i := 36) (by decide +kernel), List.mem_of_getElem? (i := 1029) (by decide +kernel), List.mem_of_getElem? (i := 1030) (by decide +kernel)⟩
theorem lw_p21 : lw_okq (⟨"LevelTables", "addVersion", "(ZII)I"⟩, 16) := ⟨⟨by decide +kernel, by decide +kernel⟩, List.mem_of_getElem? (i := 36) (by decide +kernel), List.mem_of_getElem? (i := 1098) (by decide +kernel), List.mem_of_getElem? (i := 1099) (by decide +kernel)⟩
theorem lw_p22 : lw_okq (⟨"LevelTables", "readTapeFor", "(I)I"⟩, 16) := ⟨⟨by decide +kernel, by decide +kernel⟩, List.mem_of_getElem? (i := 36) (by decide +kernel), List.mem_of_getElem? (i := 1180) (by decide +kernel), List.mem_of_getElem? (i := 1181) (by decide +kernel)⟩
theorem lw_p23 : lw_okq (⟨"LevelTables", "show", "(Z)I"⟩, 16) := ⟨⟨by decide +kernel, by decide +kernel⟩, List.mem_of_getElem? (i := 36) (by decide +kernel), List.mem_of_getElem? (i := 1184) (by decide +kernel), List.mem_of_getElem? (i := 1185) (by decide +kernel)⟩
theorem lw_p24 : lw_okq (⟨"LevelTables", "reachSomething", "(I)Z"⟩, 16) := ⟨⟨by decide +kernel, by decide +kernel⟩, List.mem_of_getElem? (i := 36) (by decide +kernel), List.mem_of_getElem? (i := 1215) (by decide +kernel), List.mem_of_getElem? (i := 1216) (by decide +kernel)⟩
theorem lw_p25 : lw_okq (⟨"LevelTables$Version", "byteAt", "(I)J"⟩, 1) := ⟨⟨by decide +kernel, by decide +kernel⟩, List.mem_of_getElem? (i := 108) (by decide +kernel), List.mem_of_getElem? (i := 1242) (by decide +kernel), List.mem_of_getElem? (i := 1243) (by decide +kernel)⟩
theorem lw_p26 : lw_okq (⟨"LevelTablesModel", "fail", "(I)I"⟩, 12) := ⟨⟨by decide +kernel, by decide +kernel⟩, List.mem_of_getElem? (i := 1246) (by decide +kernel), List.mem_of_getElem? (i := 1298) (by decide +kernel), List.mem_of_getElem? (i := 1299) (by decide +kernel)⟩
theorem lw_p27 : lw_okq (⟨"LevelTablesModel", "keyed", "()Z"⟩, 12) := ⟨⟨by decide +kernel, by decide +kernel⟩, List.mem_of_getElem? (i := 1246) (by decide +kernel), List.mem_of_getElem? (i := 1310) (by decide +kernel), List.mem_of_getElem? (i := 1311) (by decide +kernel)⟩
theorem lw_p28 : lw_okq (⟨"LevelTablesModel", "enter", "(II)I"⟩, 12) := ⟨⟨by decide +kernel, by decide +kernel⟩, List.mem_of_getElem? (i := 1246) (by decide +kernel), List.mem_of_getElem? (i := 1314) (by decide +kernel), List.mem_of_getElem? (i := 1315) (by decide +kernel)⟩
theorem lw_p29 : lw_okq (⟨"LevelTablesModel", "compareTape", "(II)I"⟩, 12) := ⟨⟨by decide +kernel, by decide +kernel⟩, List.mem_of_getElem? (i := 1246) (by decide +kernel), List.mem_of_getElem? (i := 1318) (by decide +kernel), List.mem_of_getElem? (i := 1319) (by decide +kernel)⟩
theorem lw_p30 : lw_okq (⟨"LevelTablesModel", "compare", "(II)I"⟩, 12) := ⟨⟨by decide +kernel, by decide +kernel⟩, List.mem_of_getElem? (i := 1246) (by decide +kernel), List.mem_of_getElem? (i := 1342) (by decide +kernel), List.mem_of_getElem? (i := 1343) (by decide +kernel)⟩
theorem lw_p31 : lw_okq (⟨"LevelTablesModel", "stands", "(II)Z"⟩, 12) := ⟨⟨by decide +kernel, by decide +kernel⟩, List.mem_of_getElem? (i := 1246) (by decide +kernel), List.mem_of_getElem? (i := 1346) (by decide +kernel), List.mem_of_getElem? (i := 1347) (by decide +kernel)⟩
def lw_privs_2 : List (MethodName × Nat) := [(⟨"LevelTables", "pushDown", "(I)V"⟩, 16), (⟨"LevelTables", "mergeAll", "()V"⟩, 16), (⟨"LevelTables", "isSound", "()Z"⟩, 16), (⟨"LevelTables$Level", "isWhole", "(LLevelTables$Table;LLevelTables$Version;LLevelTables$Version;)Z"⟩, 4), (⟨"LevelTables", "countLiving", "()I"⟩, 16), (⟨"LevelTables", "addVersion", "(ZII)I"⟩, 16), (⟨"LevelTables", "readTapeFor", "(I)I"⟩, 16), (⟨"LevelTables", "show", "(Z)I"⟩, 16), (⟨"LevelTables", "reachSomething", "(I)Z"⟩, 16), (⟨"LevelTables$Version", "byteAt", "(I)J"⟩, 1), (⟨"LevelTablesModel", "fail", "(I)I"⟩, 12), (⟨"LevelTablesModel", "keyed", "()Z"⟩, 12), (⟨"LevelTablesModel", "enter", "(II)I"⟩, 12), (⟨"LevelTablesModel", "compareTape", "(II)I"⟩, 12), (⟨"LevelTablesModel", "compare", "(II)I"⟩, 12), (⟨"LevelTablesModel", "stands", "(II)Z"⟩, 12)]
theorem lw_r2 : ∀ q ∈ lw_privs_2, lw_okq q := List.forall_mem_cons.mpr ⟨lw_p16, List.forall_mem_cons.mpr ⟨lw_p17, List.forall_mem_cons.mpr ⟨lw_p18, List.forall_mem_cons.mpr ⟨lw_p19, List.forall_mem_cons.mpr ⟨lw_p20, List.forall_mem_cons.mpr ⟨lw_p21, List.forall_mem_cons.mpr ⟨lw_p22, List.forall_mem_cons.mpr ⟨lw_p23, List.forall_mem_cons.mpr ⟨lw_p24, List.forall_mem_cons.mpr ⟨lw_p25, List.forall_mem_cons.mpr ⟨lw_p26, List.forall_mem_cons.mpr ⟨lw_p27, List.forall_mem_cons.mpr ⟨lw_p28, List.forall_mem_cons.mpr ⟨lw_p29, List.forall_mem_cons.mpr ⟨lw_p30, List.forall_mem_cons.mpr ⟨lw_p31, fun _ h => absurd h List.not_mem_nil⟩⟩⟩⟩⟩⟩⟩⟩⟩⟩⟩⟩⟩⟩⟩⟩
theorem lw_p32 : lw_okq (⟨"LevelTablesModel", "present", "()I"⟩, 12) := ⟨⟨by decide +kernel, by decide +kernel⟩, List.mem_of_getElem? (i := 1246) (by decide +kernel), List.mem_of_getElem? (i := 1363) (by decide +kernel), List.mem_of_getElem? (i := 1364) (by decide +kernel)⟩
def lw_privs_3 : List (MethodName × Nat) := [(⟨"LevelTablesModel", "present", "()I"⟩, 12)]
theorem lw_r3 : ∀ q ∈ lw_privs_3, lw_okq q := List.forall_mem_cons.mpr ⟨lw_p32, fun _ h => absurd h List.not_mem_nil⟩
def lw_privs : List (MethodName × Nat) := lw_privs_1 ++ (lw_privs_2 ++ (lw_privs_3))
def lw_tbl : List Cond := k2_sels lw_privs ++ tables_1
theorem lw_privs_ok : ∀ q ∈ lw_privs, lw_okq q := by
  show ∀ q ∈ lw_privs_1 ++ (lw_privs_2 ++ (lw_privs_3)), lw_okq q
  exact List.forall_mem_append.mpr ⟨lw_r1, List.forall_mem_append.mpr ⟨lw_r2, lw_r3⟩⟩
end
section
/-! names: classes, fields, methods (written by wip/whole/gen.py out of the claim) -/
def lwg : List Cond := lw_tbl.filter goodWord
theorem lwg_of {w : Cond} (h : w ∈ tables_1) (g : goodWord w = true) : w ∈ lwg := List.mem_filter.mpr ⟨List.mem_append_right _ h, g⟩
theorem lwg_sel {q : MethodName × Nat} (h : q ∈ lw_privs) (g : goodWord (Cond.selects q.1.cls q.1 q.1) = true) : Cond.selects q.1.cls q.1 q.1 ∈ lwg := List.mem_filter.mpr ⟨List.mem_append_left _ (List.mem_map.mpr ⟨q, h, rfl⟩), g⟩
theorem lwg_all : ∀ w ∈ lwg, goodWord w = true := fun _ h => (List.mem_filter.mp h).2
theorem lwg_tbl : ∀ w ∈ lwg, w ∈ lw_tbl := fun _ h => (List.mem_filter.mp h).1
def j_all {α : Type} (P : α → Prop) : List α → Prop
  | [] => True
  | a :: r => P a ∧ j_all P r
theorem j_all_mem {α : Type} {P : α → Prop} : ∀ {l : List α}, j_all P l → ∀ a ∈ l, P a
  | [], _, a, h => by cases h
  | b :: r, h, a, ha => by
    rcases List.mem_cons.mp ha with rfl | ha
    · exact h.1
    · exact j_all_mem h.2 a ha
def R_LT : String := "LevelTables"
def F_LT : u_T := fun k => match k with
  | 0 => ("LevelTables", "isShown", "Z", false)
  | 1 => ("LevelTables", "living", "I", false)
  | 2 => ("LevelTables", "tape", "LLevelTables$Tape;", true)
  | 3 => ("LevelTables", "views", "LLevelTables$Views;", true)
  | 4 => ("LevelTables", "chip", "LLevelTables$Chip;", true)
  | 5 => ("LevelTables", "memory", "LLevelTables$Memory;", true)
  | 6 => ("LevelTables", "levels", "[LLevelTables$Level;", true)
  | 7 => ("LevelTables", "runs", "[LLevelTables$Run;", true)
  | 8 => ("LevelTables", "walk", "LLevelTables$Walk;", true)
  | 9 => ("LevelTables", "writer", "LLevelTables$Writer;", true)
  | 10 => ("LevelTables", "key", "LLevelTables$Version;", true)
  | 11 => ("LevelTables", "target", "LLevelTables$Version;", true)
  | 12 => ("LevelTables", "found", "LLevelTables$Version;", true)
  | 13 => ("LevelTables", "low", "LLevelTables$Version;", true)
  | 14 => ("LevelTables", "high", "LLevelTables$Version;", true)
  | _ => ("LevelTables", "shown", "LLevelTables$Version;", true)
def t_LT : Nat → FieldType := fun k => match k with
  | 0 => .boolean
  | 1 => .int
  | 2 => .object "LevelTables$Tape"
  | 3 => .object "LevelTables$Views"
  | 4 => .object "LevelTables$Chip"
  | 5 => .object "LevelTables$Memory"
  | 6 => .array (.object "LevelTables$Level")
  | 7 => .array (.object "LevelTables$Run")
  | 8 => .object "LevelTables$Walk"
  | 9 => .object "LevelTables$Writer"
  | 10 => .object "LevelTables$Version"
  | 11 => .object "LevelTables$Version"
  | 12 => .object "LevelTables$Version"
  | 13 => .object "LevelTables$Version"
  | 14 => .object "LevelTables$Version"
  | _ => .object "LevelTables$Version"
theorem n_LT : ∀ a, a < 16 → ∀ b, b < 16 → a ≠ b → (F_LT a).2.1 ≠ (F_LT b).2.1 := by decide +kernel
theorem t_LT_ok : ∀ k, k < 16 → parseFieldDescriptor (F_LT k).2.2.1 = some (t_LT k) := by decide +kernel
def R_Tp : String := "LevelTables$Tape"
def F_Tp : u_T := fun k => match k with
  | 0 => ("LevelTables$Tape", "length", "I", false)
  | _ => ("LevelTables$Tape", "bytes", "[B", true)
def t_Tp : Nat → FieldType := fun k => match k with
  | 0 => .int
  | _ => .array .byte
theorem n_Tp : ∀ a, a < 2 → ∀ b, b < 2 → a ≠ b → (F_Tp a).2.1 ≠ (F_Tp b).2.1 := by decide +kernel
theorem t_Tp_ok : ∀ k, k < 2 → parseFieldDescriptor (F_Tp k).2.2.1 = some (t_Tp k) := by decide +kernel
def R_Vi : String := "LevelTables$Views"
def F_Vi : u_T := fun k => match k with
  | 0 => ("LevelTables$Views", "present", "I", false)
  | _ => ("LevelTables$Views", "moments", "[I", true)
def t_Vi : Nat → FieldType := fun k => match k with
  | 0 => .int
  | _ => .array .int
theorem n_Vi : ∀ a, a < 2 → ∀ b, b < 2 → a ≠ b → (F_Vi a).2.1 ≠ (F_Vi b).2.1 := by decide +kernel
theorem t_Vi_ok : ∀ k, k < 2 → parseFieldDescriptor (F_Vi k).2.2.1 = some (t_Vi k) := by decide +kernel
def R_Ch : String := "LevelTables$Chip"
def F_Ch : u_T := fun k => match k with
  | 0 => ("LevelTables$Chip", "misused", "Z", false)
  | 1 => ("LevelTables$Chip", "blocks", "[[J", true)
  | 2 => ("LevelTables$Chip", "written", "[I", true)
  | 3 => ("LevelTables$Chip", "taken", "[I", true)
  | _ => ("LevelTables$Chip", "uses", "[I", true)
def t_Ch : Nat → FieldType := fun k => match k with
  | 0 => .boolean
  | 1 => .array (.array .long)
  | 2 => .array .int
  | 3 => .array .int
  | _ => .array .int
theorem n_Ch : ∀ a, a < 5 → ∀ b, b < 5 → a ≠ b → (F_Ch a).2.1 ≠ (F_Ch b).2.1 := by decide +kernel
theorem t_Ch_ok : ∀ k, k < 5 → parseFieldDescriptor (F_Ch k).2.2.1 = some (t_Ch k) := by decide +kernel
def R_Me : String := "LevelTables$Memory"
def F_Me : u_T := fun k => match k with
  | 0 => ("LevelTables$Run", "middle", "LLevelTables$Version;", true)
  | 1 => ("LevelTables$Memory", "count", "I", false)
  | _ => ("LevelTables$Memory", "rows", "[J", true)
def t_Me : Nat → FieldType := fun k => match k with
  | 0 => .object "LevelTables$Version"
  | 1 => .int
  | _ => .array .long
theorem n_Me : ∀ a, a < 3 → ∀ b, b < 3 → a ≠ b → (F_Me a).2.1 ≠ (F_Me b).2.1 := by decide +kernel
theorem t_Me_ok : ∀ k, k < 3 → parseFieldDescriptor (F_Me k).2.2.1 = some (t_Me k) := by decide +kernel
def R_Lv : String := "LevelTables$Level"
def F_Lv : u_T := fun k => match k with
  | 0 => ("LevelTables$Run", "middle", "LLevelTables$Version;", true)
  | 1 => ("LevelTables$Level", "count", "I", false)
  | 2 => ("LevelTables$Level", "chip", "LLevelTables$Chip;", true)
  | _ => ("LevelTables$Level", "tables", "Ljava/util/ArrayList;", true)
def t_Lv : Nat → FieldType := fun k => match k with
  | 0 => .object "LevelTables$Version"
  | 1 => .int
  | 2 => .object "LevelTables$Chip"
  | _ => .object "java/util/ArrayList"
theorem n_Lv : ∀ a, a < 4 → ∀ b, b < 4 → a ≠ b → (F_Lv a).2.1 ≠ (F_Lv b).2.1 := by decide +kernel
theorem t_Lv_ok : ∀ k, k < 4 → parseFieldDescriptor (F_Lv k).2.2.1 = some (t_Lv k) := by decide +kernel
def R_Wk : String := "LevelTables$Walk"
def F_Wk : u_T := fun k => match k with
  | 0 => ("LevelTables$Walk", "hasNext", "Z", false)
  | 1 => ("LevelTables$Walk", "until", "I", false)
  | 2 => ("LevelTables$Walk", "runs", "[LLevelTables$Run;", true)
  | 3 => ("LevelTables$Walk", "at", "[I", true)
  | 4 => ("LevelTables$Walk", "stop", "[I", true)
  | 5 => ("LevelTables$Walk", "heads", "[LLevelTables$Version;", true)
  | 6 => ("LevelTables$Walk", "version", "LLevelTables$Version;", true)
  | _ => ("LevelTables$Walk", "next", "LLevelTables$Version;", true)
def t_Wk : Nat → FieldType := fun k => match k with
  | 0 => .boolean
  | 1 => .int
  | 2 => .array (.object "LevelTables$Run")
  | 3 => .array .int
  | 4 => .array .int
  | 5 => .array (.object "LevelTables$Version")
  | 6 => .object "LevelTables$Version"
  | _ => .object "LevelTables$Version"
theorem n_Wk : ∀ a, a < 8 → ∀ b, b < 8 → a ≠ b → (F_Wk a).2.1 ≠ (F_Wk b).2.1 := by decide +kernel
theorem t_Wk_ok : ∀ k, k < 8 → parseFieldDescriptor (F_Wk k).2.2.1 = some (t_Wk k) := by decide +kernel
def R_Wr : String := "LevelTables$Writer"
def F_Wr : u_T := fun k => match k with
  | 0 => ("LevelTables$Writer", "count", "I", false)
  | 1 => ("LevelTables$Writer", "sum", "J", false)
  | 2 => ("LevelTables$Writer", "chip", "LLevelTables$Chip;", true)
  | 3 => ("LevelTables$Writer", "tables", "Ljava/util/ArrayList;", true)
  | _ => ("LevelTables$Writer", "blocks", "[I", true)
def t_Wr : Nat → FieldType := fun k => match k with
  | 0 => .int
  | 1 => .long
  | 2 => .object "LevelTables$Chip"
  | 3 => .object "java/util/ArrayList"
  | _ => .array .int
theorem n_Wr : ∀ a, a < 5 → ∀ b, b < 5 → a ≠ b → (F_Wr a).2.1 ≠ (F_Wr b).2.1 := by decide +kernel
theorem t_Wr_ok : ∀ k, k < 5 → parseFieldDescriptor (F_Wr k).2.2.1 = some (t_Wr k) := by decide +kernel
def R_Ve : String := "LevelTables$Version"
def F_Ve : u_T := fun k => match k with
  | _ => ("LevelTables$Version", "words", "[J", true)
def t_Ve : Nat → FieldType := fun k => match k with
  | _ => .array .long
theorem n_Ve : ∀ a, a < 1 → ∀ b, b < 1 → a ≠ b → (F_Ve a).2.1 ≠ (F_Ve b).2.1 := by decide +kernel
theorem t_Ve_ok : ∀ k, k < 1 → parseFieldDescriptor (F_Ve k).2.2.1 = some (t_Ve k) := by decide +kernel
def R_Tb : String := "LevelTables$Table"
def F_Tb : u_T := fun k => match k with
  | 0 => ("LevelTables$Table", "start", "I", false)
  | 1 => ("LevelTables$Table", "blocks", "[I", true)
  | 2 => ("LevelTables$Table", "count", "I", true)
  | _ => ("LevelTables$Table", "sum", "J", true)
def t_Tb : Nat → FieldType := fun k => match k with
  | 0 => .int
  | 1 => .array .int
  | 2 => .int
  | _ => .long
theorem n_Tb : ∀ a, a < 4 → ∀ b, b < 4 → a ≠ b → (F_Tb a).2.1 ≠ (F_Tb b).2.1 := by decide +kernel
theorem t_Tb_ok : ∀ k, k < 4 → parseFieldDescriptor (F_Tb k).2.2.1 = some (t_Tb k) := by decide +kernel
def R_AL : String := "java/util/ArrayList"
def F_AL : u_T := fun k => match k with
  | 0 => ("java/util/AbstractList", "modCount", "I", false)
  | 1 => ("java/util/ArrayList", "elementData", "[Ljava/lang/Object;", false)
  | _ => ("java/util/ArrayList", "size", "I", false)
def t_AL : Nat → FieldType := fun k => match k with
  | 0 => .int
  | 1 => .array (.object "java/lang/Object")
  | _ => .int
theorem n_AL : ∀ a, a < 3 → ∀ b, b < 3 → a ≠ b → (F_AL a).2.1 ≠ (F_AL b).2.1 := by decide +kernel
theorem t_AL_ok : ∀ k, k < 3 → parseFieldDescriptor (F_AL k).2.2.1 = some (t_AL k) := by decide +kernel
def R_Mo : String := "LevelTablesModel"
def F_Mo : u_T := fun k => match k with
  | 0 => ("LevelTablesModel", "failed", "I", false)
  | 1 => ("LevelTablesModel", "taped", "I", false)
  | 2 => ("LevelTablesModel", "made", "I", false)
  | 3 => ("LevelTablesModel", "standing", "I", false)
  | 4 => ("LevelTablesModel", "at", "I", false)
  | 5 => ("LevelTablesModel", "tape", "[B", true)
  | 6 => ("LevelTablesModel", "keys", "[B", true)
  | 7 => ("LevelTablesModel", "lengths", "[I", true)
  | 8 => ("LevelTablesModel", "places", "[I", true)
  | 9 => ("LevelTablesModel", "sizes", "[I", true)
  | 10 => ("LevelTablesModel", "open", "[Z", true)
  | _ => ("LevelTablesModel", "sees", "[I", true)
def t_Mo : Nat → FieldType := fun k => match k with
  | 0 => .int
  | 1 => .int
  | 2 => .int
  | 3 => .int
  | 4 => .int
  | 5 => .array .byte
  | 6 => .array .byte
  | 7 => .array .int
  | 8 => .array .int
  | 9 => .array .int
  | 10 => .array .boolean
  | _ => .array .int
theorem n_Mo : ∀ a, a < 12 → ∀ b, b < 12 → a ≠ b → (F_Mo a).2.1 ≠ (F_Mo b).2.1 := by decide +kernel
theorem t_Mo_ok : ∀ k, k < 12 → parseFieldDescriptor (F_Mo k).2.2.1 = some (t_Mo k) := by decide +kernel
def R_Ru : String := "LevelTables$Run"
def R_La : String := "LevelTablesLaw"
def R_Al : String := "java/util/AbstractList"
def R_Ac : String := "java/util/AbstractCollection"
def R_Ar : String := "java/util/Arrays"
def R_Ma : String := "java/lang/Math"
def R_Ob : String := "java/util/Objects"
def R_Pr : String := "jdk/internal/util/Preconditions"
def R_As : String := "jdk/internal/util/ArraysSupport"
abbrev cls : List vw_C := [(R_LT, F_LT, 16), (R_Tp, F_Tp, 2), (R_Vi, F_Vi, 2), (R_Ch, F_Ch, 5), (R_Me, F_Me, 3), (R_Lv, F_Lv, 4), (R_Wk, F_Wk, 8), (R_Wr, F_Wr, 5), (R_Ve, F_Ve, 1), (R_Tb, F_Tb, 4), (R_AL, F_AL, 3), (R_Mo, F_Mo, 12)]
abbrev aty : List FieldType := [.int, .long, .byte, .object "LevelTables$Version", .object "LevelTables$Run", .object "LevelTables$Level", .object "java/lang/Object", .array .long, .boolean]
abbrev a_Obj : Nat := 6
def x_nm (k : Nat) : String := match k with
  | 0 => "java/lang/IllegalArgumentException"
  | 1 => "java/lang/IllegalStateException"
  | 2 => "java/lang/IndexOutOfBoundsException"
  | _ => "java/util/NoSuchElementException"
abbrev b_AL_add_1 : ByteArray := prog_33_method_25_code
def y_AL_add_1 : MethodName := ⟨R_AL, "add", "(Ljava/lang/Object;)Z"⟩
abbrev b_AL_add_2 : ByteArray := prog_33_method_26_code
def y_AL_add_2 : MethodName := ⟨R_AL, "add", "(ILjava/lang/Object;)V"⟩
abbrev b_AL_add_3 : ByteArray := prog_33_method_24_code
def y_AL_add_3 : MethodName := ⟨R_AL, "add", "(Ljava/lang/Object;[Ljava/lang/Object;I)V"⟩
abbrev b_AL_clear : ByteArray := prog_33_method_40_code
def y_AL_clear : MethodName := ⟨R_AL, "clear", "()V"⟩
abbrev b_AL_elementData : ByteArray := prog_33_method_18_code
def y_AL_elementData : MethodName := ⟨R_AL, "elementData", "(I)Ljava/lang/Object;"⟩
abbrev b_AL_fastRemove : ByteArray := prog_33_method_39_code
def y_AL_fastRemove : MethodName := ⟨R_AL, "fastRemove", "([Ljava/lang/Object;I)V"⟩
abbrev b_AL_get : ByteArray := prog_33_method_20_code
def y_AL_get : MethodName := ⟨R_AL, "get", "(I)Ljava/lang/Object;"⟩
abbrev b_AL_grow_0 : ByteArray := prog_33_method_7_code
def y_AL_grow_0 : MethodName := ⟨R_AL, "grow", "()[Ljava/lang/Object;"⟩
abbrev b_AL_grow_1 : ByteArray := prog_33_method_6_code
def y_AL_grow_1 : MethodName := ⟨R_AL, "grow", "(I)[Ljava/lang/Object;"⟩
abbrev b_AL_init : ByteArray := prog_33_method_2_code
def y_AL_init : MethodName := ⟨R_AL, "<init>", "()V"⟩
abbrev b_AL_rangeCheckForAdd : ByteArray := prog_33_method_45_code
def y_AL_rangeCheckForAdd : MethodName := ⟨R_AL, "rangeCheckForAdd", "(I)V"⟩
abbrev b_AL_remove : ByteArray := prog_33_method_29_code
def y_AL_remove : MethodName := ⟨R_AL, "remove", "(I)Ljava/lang/Object;"⟩
abbrev b_AL_size : ByteArray := prog_33_method_8_code
def y_AL_size : MethodName := ⟨R_AL, "size", "()I"⟩
abbrev b_Ac_init : ByteArray := prog_31_method_1_code
def y_Ac_init : MethodName := ⟨R_Ac, "<init>", "()V"⟩
abbrev b_Al_init : ByteArray := prog_32_method_1_code
def y_Al_init : MethodName := ⟨R_Al, "<init>", "()V"⟩
abbrev b_Ar_copyOf_2aB : ByteArray := prog_34_method_121_code
def y_Ar_copyOf_2aB : MethodName := ⟨R_Ar, "copyOf", "([BI)[B"⟩
abbrev b_Ar_copyOf_2aI : ByteArray := prog_34_method_123_code
def y_Ar_copyOf_2aI : MethodName := ⟨R_Ar, "copyOf", "([II)[I"⟩
abbrev b_Ar_copyOf_2aLj : ByteArray := prog_34_method_119_code
def y_Ar_copyOf_2aLj : MethodName := ⟨R_Ar, "copyOf", "([Ljava/lang/Object;I)[Ljava/lang/Object;"⟩
abbrev b_Ar_copyOf_3 : ByteArray := prog_34_method_120_code
def y_Ar_copyOf_3 : MethodName := ⟨R_Ar, "copyOf", "([Ljava/lang/Object;ILjava/lang/Class;)[Ljava/lang/Object;"⟩
abbrev b_Ar_fill_2aI : ByteArray := prog_34_method_103_code
def y_Ar_fill_2aI : MethodName := ⟨R_Ar, "fill", "([II)V"⟩
abbrev b_Ar_fill_2aJ : ByteArray := prog_34_method_101_code
def y_Ar_fill_2aJ : MethodName := ⟨R_Ar, "fill", "([JJ)V"⟩
abbrev b_As_hugeLength : ByteArray := prog_41_method_28_code
def y_As_hugeLength : MethodName := ⟨R_As, "hugeLength", "(II)I"⟩
abbrev b_As_newLength : ByteArray := prog_41_method_27_code
def y_As_newLength : MethodName := ⟨R_As, "newLength", "(III)I"⟩
abbrev b_Ch_erase : ByteArray := prog_2_method_4_code
def y_Ch_erase : MethodName := ⟨R_Ch, "erase", "(I)V"⟩
abbrev b_Ch_forgetUses : ByteArray := prog_2_method_9_code
def y_Ch_forgetUses : MethodName := ⟨R_Ch, "forgetUses", "()V"⟩
abbrev b_Ch_hasRow : ByteArray := prog_2_method_8_code
def y_Ch_hasRow : MethodName := ⟨R_Ch, "hasRow", "(II)Z"⟩
abbrev b_Ch_init : ByteArray := prog_2_method_1_code
def y_Ch_init : MethodName := ⟨R_Ch, "<init>", "()V"⟩
abbrev b_Ch_isMisused : ByteArray := prog_2_method_2_code
def y_Ch_isMisused : MethodName := ⟨R_Ch, "isMisused", "()Z"⟩
abbrev b_Ch_read : ByteArray := prog_2_method_7_code
def y_Ch_read : MethodName := ⟨R_Ch, "read", "(IILLevelTables$Version;)V"⟩
abbrev b_Ch_release : ByteArray := prog_2_method_5_code
def y_Ch_release : MethodName := ⟨R_Ch, "release", "(I)V"⟩
abbrev b_Ch_take : ByteArray := prog_2_method_3_code
def y_Ch_take : MethodName := ⟨R_Ch, "take", "()I"⟩
abbrev b_Ch_use : ByteArray := prog_2_method_10_code
def y_Ch_use : MethodName := ⟨R_Ch, "use", "(I)Z"⟩
abbrev b_Ch_write : ByteArray := prog_2_method_6_code
def y_Ch_write : MethodName := ⟨R_Ch, "write", "(IILLevelTables$Version;)V"⟩
abbrev b_LT_addVersion : ByteArray := prog_1_method_16_code
def y_LT_addVersion : MethodName := ⟨R_LT, "addVersion", "(ZII)I"⟩
abbrev b_LT_check : ByteArray := prog_1_method_14_code
def y_LT_check : MethodName := ⟨R_LT, "check", "()I"⟩
abbrev b_LT_close : ByteArray := prog_1_method_7_code
def y_LT_close : MethodName := ⟨R_LT, "close", "(I)I"⟩
abbrev b_LT_countLiving : ByteArray := prog_1_method_26_code
def y_LT_countLiving : MethodName := ⟨R_LT, "countLiving", "()I"⟩
abbrev b_LT_current : ByteArray := prog_1_method_10_code
def y_LT_current : MethodName := ⟨R_LT, "current", "(I)I"⟩
abbrev b_LT_end : ByteArray := prog_1_method_3_code
def y_LT_end : MethodName := ⟨R_LT, "end", "(I)I"⟩
abbrev b_LT_feed : ByteArray := prog_1_method_2_code
def y_LT_feed : MethodName := ⟨R_LT, "feed", "(IIIII)I"⟩
abbrev b_LT_find : ByteArray := prog_1_method_8_code
def y_LT_find : MethodName := ⟨R_LT, "find", "(I)I"⟩
abbrev b_LT_flush : ByteArray := prog_1_method_12_code
def y_LT_flush : MethodName := ⟨R_LT, "flush", "()I"⟩
abbrev b_LT_hasSomething : ByteArray := prog_1_method_17_code
def y_LT_hasSomething : MethodName := ⟨R_LT, "hasSomething", "(LLevelTables$Version;II)Z"⟩
abbrev b_LT_init : ByteArray := prog_1_method_1_code
def y_LT_init : MethodName := ⟨R_LT, "<init>", "()V"⟩
abbrev b_LT_isSound : ByteArray := prog_1_method_25_code
def y_LT_isSound : MethodName := ⟨R_LT, "isSound", "()Z"⟩
abbrev b_LT_merge : ByteArray := prog_1_method_13_code
def y_LT_merge : MethodName := ⟨R_LT, "merge", "(Z)I"⟩
abbrev b_LT_mergeAll : ByteArray := prog_1_method_22_code
def y_LT_mergeAll : MethodName := ⟨R_LT, "mergeAll", "()V"⟩
abbrev b_LT_nextMoment : ByteArray := prog_1_method_24_code
def y_LT_nextMoment : MethodName := ⟨R_LT, "nextMoment", "(LLevelTables$Version;I)I"⟩
abbrev b_LT_open : ByteArray := prog_1_method_6_code
def y_LT_open : MethodName := ⟨R_LT, "open", "(I)I"⟩
abbrev b_LT_out : ByteArray := prog_1_method_5_code
def y_LT_out : MethodName := ⟨R_LT, "out", "()I"⟩
abbrev b_LT_pushDown : ByteArray := prog_1_method_21_code
def y_LT_pushDown : MethodName := ⟨R_LT, "pushDown", "(I)V"⟩
abbrev b_LT_put : ByteArray := prog_1_method_4_code
def y_LT_put : MethodName := ⟨R_LT, "put", "(II)I"⟩
abbrev b_LT_reachSomething : ByteArray := prog_1_method_18_code
def y_LT_reachSomething : MethodName := ⟨R_LT, "reachSomething", "(I)Z"⟩
abbrev b_LT_readTapeFor : ByteArray := prog_1_method_15_code
def y_LT_readTapeFor : MethodName := ⟨R_LT, "readTapeFor", "(I)I"⟩
abbrev b_LT_seek : ByteArray := prog_1_method_9_code
def y_LT_seek : MethodName := ⟨R_LT, "seek", "(IZ)I"⟩
abbrev b_LT_show : ByteArray := prog_1_method_19_code
def y_LT_show : MethodName := ⟨R_LT, "show", "(Z)I"⟩
abbrev b_LT_word : ByteArray := prog_1_method_11_code
def y_LT_word : MethodName := ⟨R_LT, "word", "(I)J"⟩
abbrev b_LT_writeNeeded : ByteArray := prog_1_method_23_code
def y_LT_writeNeeded : MethodName := ⟨R_LT, "writeNeeded", "(I)V"⟩
abbrev b_LT_writeOut : ByteArray := prog_1_method_20_code
def y_LT_writeOut : MethodName := ⟨R_LT, "writeOut", "()V"⟩
abbrev b_La_close : ByteArray := method_8_code
def y_La_close : MethodName := ⟨R_La, "close", "(LLevelTables;I[J)I"⟩
abbrev b_La_current : ByteArray := method_11_code
def y_La_current : MethodName := ⟨R_La, "current", "(LLevelTables;I[J)I"⟩
abbrev b_La_end : ByteArray := method_4_code
def y_La_end : MethodName := ⟨R_La, "end", "(LLevelTables;I[J)I"⟩
abbrev b_La_feed : ByteArray := method_3_code
def y_La_feed : MethodName := ⟨R_La, "feed", "(LLevelTables;IIIII[J)I"⟩
abbrev b_La_find : ByteArray := method_9_code
def y_La_find : MethodName := ⟨R_La, "find", "(LLevelTables;I[J)I"⟩
abbrev b_La_open : ByteArray := method_7_code
def y_La_open : MethodName := ⟨R_La, "open", "(LLevelTables;I[J)I"⟩
abbrev b_La_out : ByteArray := method_6_code
def y_La_out : MethodName := ⟨R_La, "out", "(LLevelTables;[J)I"⟩
abbrev b_La_put : ByteArray := method_5_code
def y_La_put : MethodName := ⟨R_La, "put", "(LLevelTables;II[J)I"⟩
abbrev b_La_seek : ByteArray := method_10_code
def y_La_seek : MethodName := ⟨R_La, "seek", "(LLevelTables;IZ[J)I"⟩
abbrev b_La_word : ByteArray := method_12_code
def y_La_word : MethodName := ⟨R_La, "word", "(LLevelTables;I[J)I"⟩
abbrev b_Lv_count : ByteArray := prog_3_method_2_code
def y_Lv_count : MethodName := ⟨R_Lv, "count", "()I"⟩
abbrev b_Lv_firstTableBeyond : ByteArray := prog_3_method_8_code
def y_Lv_firstTableBeyond : MethodName := ⟨R_Lv, "firstTableBeyond", "(LLevelTables$Version;)I"⟩
abbrev b_Lv_firstTableReaching : ByteArray := prog_3_method_7_code
def y_Lv_firstTableReaching : MethodName := ⟨R_Lv, "firstTableReaching", "(LLevelTables$Version;)I"⟩
abbrev b_Lv_init : ByteArray := prog_3_method_1_code
def y_Lv_init : MethodName := ⟨R_Lv, "<init>", "(LLevelTables$Chip;)V"⟩
abbrev b_Lv_insert : ByteArray := prog_3_method_10_code
def y_Lv_insert : MethodName := ⟨R_Lv, "insert", "(ILjava/util/ArrayList;)V"⟩
abbrev b_Lv_isSound : ByteArray := prog_3_method_12_code
def y_Lv_isSound : MethodName := ⟨R_Lv, "isSound", "(LLevelTables$Version;LLevelTables$Version;)Z"⟩
abbrev b_Lv_isWhole : ByteArray := prog_3_method_13_code
def y_Lv_isWhole : MethodName := ⟨R_Lv, "isWhole", "(LLevelTables$Table;LLevelTables$Version;LLevelTables$Version;)Z"⟩
abbrev b_Lv_load : ByteArray := prog_3_method_3_code
def y_Lv_load : MethodName := ⟨R_Lv, "load", "(ILLevelTables$Version;)V"⟩
abbrev b_Lv_remove : ByteArray := prog_3_method_9_code
def y_Lv_remove : MethodName := ⟨R_Lv, "remove", "(II)V"⟩
abbrev b_Lv_renumber : ByteArray := prog_3_method_11_code
def y_Lv_renumber : MethodName := ⟨R_Lv, "renumber", "()V"⟩
abbrev b_Lv_startOf : ByteArray := prog_3_method_5_code
def y_Lv_startOf : MethodName := ⟨R_Lv, "startOf", "(I)I"⟩
abbrev b_Lv_tableCount : ByteArray := prog_3_method_4_code
def y_Lv_tableCount : MethodName := ⟨R_Lv, "tableCount", "()I"⟩
abbrev b_Lv_tableWith : ByteArray := prog_3_method_6_code
def y_Lv_tableWith : MethodName := ⟨R_Lv, "tableWith", "(I)I"⟩
abbrev b_Ma_max : ByteArray := prog_23_method_65_code
def y_Ma_max : MethodName := ⟨R_Ma, "max", "(II)I"⟩
abbrev b_Ma_min : ByteArray := prog_23_method_69_code
def y_Ma_min : MethodName := ⟨R_Ma, "min", "(II)I"⟩
abbrev b_Me_clear : ByteArray := prog_4_method_5_code
def y_Me_clear : MethodName := ⟨R_Me, "clear", "()V"⟩
abbrev b_Me_count : ByteArray := prog_4_method_2_code
def y_Me_count : MethodName := ⟨R_Me, "count", "()I"⟩
abbrev b_Me_init : ByteArray := prog_4_method_1_code
def y_Me_init : MethodName := ⟨R_Me, "<init>", "()V"⟩
abbrev b_Me_insert : ByteArray := prog_4_method_4_code
def y_Me_insert : MethodName := ⟨R_Me, "insert", "(LLevelTables$Version;)V"⟩
abbrev b_Me_load : ByteArray := prog_4_method_3_code
def y_Me_load : MethodName := ⟨R_Me, "load", "(ILLevelTables$Version;)V"⟩
abbrev b_Mo_check : ByteArray := prog_13_method_22_code
def y_Mo_check : MethodName := ⟨R_Mo, "check", "()I"⟩
abbrev b_Mo_close : ByteArray := prog_13_method_11_code
def y_Mo_close : MethodName := ⟨R_Mo, "close", "(I)I"⟩
abbrev b_Mo_compare : ByteArray := prog_13_method_12_code
def y_Mo_compare : MethodName := ⟨R_Mo, "compare", "(II)I"⟩
abbrev b_Mo_compareTape : ByteArray := prog_13_method_13_code
def y_Mo_compareTape : MethodName := ⟨R_Mo, "compareTape", "(II)I"⟩
abbrev b_Mo_current : ByteArray := prog_13_method_17_code
def y_Mo_current : MethodName := ⟨R_Mo, "current", "(I)I"⟩
abbrev b_Mo_end : ByteArray := prog_13_method_5_code
def y_Mo_end : MethodName := ⟨R_Mo, "end", "(I)I"⟩
abbrev b_Mo_enter : ByteArray := prog_13_method_7_code
def y_Mo_enter : MethodName := ⟨R_Mo, "enter", "(II)I"⟩
abbrev b_Mo_fail : ByteArray := prog_13_method_3_code
def y_Mo_fail : MethodName := ⟨R_Mo, "fail", "(I)I"⟩
abbrev b_Mo_feed : ByteArray := prog_13_method_4_code
def y_Mo_feed : MethodName := ⟨R_Mo, "feed", "(IIIII)I"⟩
abbrev b_Mo_find : ByteArray := prog_13_method_15_code
def y_Mo_find : MethodName := ⟨R_Mo, "find", "(I)I"⟩
abbrev b_Mo_flush : ByteArray := prog_13_method_20_code
def y_Mo_flush : MethodName := ⟨R_Mo, "flush", "()I"⟩
abbrev b_Mo_init : ByteArray := prog_13_method_1_code
def y_Mo_init : MethodName := ⟨R_Mo, "<init>", "()V"⟩
abbrev b_Mo_keyed : ByteArray := prog_13_method_6_code
def y_Mo_keyed : MethodName := ⟨R_Mo, "keyed", "()Z"⟩
abbrev b_Mo_merge : ByteArray := prog_13_method_21_code
def y_Mo_merge : MethodName := ⟨R_Mo, "merge", "(Z)I"⟩
abbrev b_Mo_open : ByteArray := prog_13_method_10_code
def y_Mo_open : MethodName := ⟨R_Mo, "open", "(I)I"⟩
abbrev b_Mo_out : ByteArray := prog_13_method_9_code
def y_Mo_out : MethodName := ⟨R_Mo, "out", "()I"⟩
abbrev b_Mo_present : ByteArray := prog_13_method_19_code
def y_Mo_present : MethodName := ⟨R_Mo, "present", "()I"⟩
abbrev b_Mo_put : ByteArray := prog_13_method_8_code
def y_Mo_put : MethodName := ⟨R_Mo, "put", "(II)I"⟩
abbrev b_Mo_seek : ByteArray := prog_13_method_16_code
def y_Mo_seek : MethodName := ⟨R_Mo, "seek", "(IZ)I"⟩
abbrev b_Mo_stands : ByteArray := prog_13_method_14_code
def y_Mo_stands : MethodName := ⟨R_Mo, "stands", "(II)Z"⟩
abbrev b_Mo_thrown : ByteArray := prog_13_method_2_code
def y_Mo_thrown : MethodName := ⟨R_Mo, "thrown", "()I"⟩
abbrev b_Mo_word : ByteArray := prog_13_method_18_code
def y_Mo_word : MethodName := ⟨R_Mo, "word", "(I)J"⟩
abbrev b_Ob_checkIndex : ByteArray := prog_38_method_17_code
def y_Ob_checkIndex : MethodName := ⟨R_Ob, "checkIndex", "(II)I"⟩
abbrev b_Pr_checkIndex : ByteArray := prog_42_method_11_code
def y_Pr_checkIndex : MethodName := ⟨R_Pr, "checkIndex", "(IILjava/util/function/BiFunction;)I"⟩
abbrev b_Ru_firstNotBefore : ByteArray := prog_5_method_4_code
def y_Ru_firstNotBefore : MethodName := ⟨R_Ru, "firstNotBefore", "(LLevelTables$Version;)I"⟩
abbrev b_Ru_init : ByteArray := prog_5_method_1_code
def y_Ru_init : MethodName := ⟨R_Ru, "<init>", "()V"⟩
abbrev b_Tb_blockOf : ByteArray := prog_6_method_6_code
def y_Tb_blockOf : MethodName := ⟨R_Tb, "blockOf", "(I)I"⟩
abbrev b_Tb_count : ByteArray := prog_6_method_2_code
def y_Tb_count : MethodName := ⟨R_Tb, "count", "()I"⟩
abbrev b_Tb_init : ByteArray := prog_6_method_1_code
def y_Tb_init : MethodName := ⟨R_Tb, "<init>", "([IIJ)V"⟩
abbrev b_Tb_release : ByteArray := prog_6_method_7_code
def y_Tb_release : MethodName := ⟨R_Tb, "release", "(LLevelTables$Chip;)V"⟩
abbrev b_Tb_setStart : ByteArray := prog_6_method_5_code
def y_Tb_setStart : MethodName := ⟨R_Tb, "setStart", "(I)V"⟩
abbrev b_Tb_start : ByteArray := prog_6_method_4_code
def y_Tb_start : MethodName := ⟨R_Tb, "start", "()I"⟩
abbrev b_Tb_sum : ByteArray := prog_6_method_3_code
def y_Tb_sum : MethodName := ⟨R_Tb, "sum", "()J"⟩
abbrev b_Tb_usesItsBlocks : ByteArray := prog_6_method_8_code
def y_Tb_usesItsBlocks : MethodName := ⟨R_Tb, "usesItsBlocks", "(LLevelTables$Chip;)Z"⟩
abbrev b_Tp_append : ByteArray := prog_7_method_5_code
def y_Tp_append : MethodName := ⟨R_Tp, "append", "(I)V"⟩
abbrev b_Tp_cut : ByteArray := prog_7_method_4_code
def y_Tp_cut : MethodName := ⟨R_Tp, "cut", "(I)V"⟩
abbrev b_Tp_hasKey : ByteArray := prog_7_method_3_code
def y_Tp_hasKey : MethodName := ⟨R_Tp, "hasKey", "()Z"⟩
abbrev b_Tp_init : ByteArray := prog_7_method_1_code
def y_Tp_init : MethodName := ⟨R_Tp, "<init>", "()V"⟩
abbrev b_Tp_length : ByteArray := prog_7_method_2_code
def y_Tp_length : MethodName := ⟨R_Tp, "length", "()I"⟩
abbrev b_Tp_moveTo : ByteArray := prog_7_method_6_code
def y_Tp_moveTo : MethodName := ⟨R_Tp, "moveTo", "(LLevelTables$Version;)V"⟩
abbrev b_Ve_addTo : ByteArray := prog_8_method_16_code
def y_Ve_addTo : MethodName := ⟨R_Ve, "addTo", "(J)J"⟩
abbrev b_Ve_byteAt : ByteArray := prog_8_method_15_code
def y_Ve_byteAt : MethodName := ⟨R_Ve, "byteAt", "(I)J"⟩
abbrev b_Ve_compareKey : ByteArray := prog_8_method_12_code
def y_Ve_compareKey : MethodName := ⟨R_Ve, "compareKey", "(LLevelTables$Version;)I"⟩
abbrev b_Ve_copy : ByteArray := prog_8_method_8_code
def y_Ve_copy : MethodName := ⟨R_Ve, "copy", "(LLevelTables$Version;)V"⟩
abbrev b_Ve_describe : ByteArray := prog_8_method_11_code
def y_Ve_describe : MethodName := ⟨R_Ve, "describe", "(IZII)V"⟩
abbrev b_Ve_eightBytes : ByteArray := prog_8_method_14_code
def y_Ve_eightBytes : MethodName := ⟨R_Ve, "eightBytes", "(I)J"⟩
abbrev b_Ve_init : ByteArray := prog_8_method_1_code
def y_Ve_init : MethodName := ⟨R_Ve, "<init>", "()V"⟩
abbrev b_Ve_isBefore : ByteArray := prog_8_method_13_code
def y_Ve_isBefore : MethodName := ⟨R_Ve, "isBefore", "(LLevelTables$Version;)Z"⟩
abbrev b_Ve_isThere : ByteArray := prog_8_method_5_code
def y_Ve_isThere : MethodName := ⟨R_Ve, "isThere", "()Z"⟩
abbrev b_Ve_length : ByteArray := prog_8_method_3_code
def y_Ve_length : MethodName := ⟨R_Ve, "length", "()I"⟩
abbrev b_Ve_moment : ByteArray := prog_8_method_4_code
def y_Ve_moment : MethodName := ⟨R_Ve, "moment", "()I"⟩
abbrev b_Ve_place : ByteArray := prog_8_method_7_code
def y_Ve_place : MethodName := ⟨R_Ve, "place", "()I"⟩
abbrev b_Ve_setKey : ByteArray := prog_8_method_9_code
def y_Ve_setKey : MethodName := ⟨R_Ve, "setKey", "([BI)V"⟩
abbrev b_Ve_setMoment : ByteArray := prog_8_method_10_code
def y_Ve_setMoment : MethodName := ⟨R_Ve, "setMoment", "(I)V"⟩
abbrev b_Ve_size : ByteArray := prog_8_method_6_code
def y_Ve_size : MethodName := ⟨R_Ve, "size", "()I"⟩
abbrev b_Ve_words : ByteArray := prog_8_method_2_code
def y_Ve_words : MethodName := ⟨R_Ve, "words", "()[J"⟩
abbrev b_Vi_begin : ByteArray := prog_9_method_5_code
def y_Vi_begin : MethodName := ⟨R_Vi, "begin", "(I)V"⟩
abbrev b_Vi_finish : ByteArray := prog_9_method_6_code
def y_Vi_finish : MethodName := ⟨R_Vi, "finish", "(I)V"⟩
abbrev b_Vi_init : ByteArray := prog_9_method_1_code
def y_Vi_init : MethodName := ⟨R_Vi, "<init>", "()V"⟩
abbrev b_Vi_momentOf : ByteArray := prog_9_method_4_code
def y_Vi_momentOf : MethodName := ⟨R_Vi, "momentOf", "(I)I"⟩
abbrev b_Vi_need : ByteArray := prog_9_method_7_code
def y_Vi_need : MethodName := ⟨R_Vi, "need", "(II)Z"⟩
abbrev b_Vi_present : ByteArray := prog_9_method_2_code
def y_Vi_present : MethodName := ⟨R_Vi, "present", "()I"⟩
abbrev b_Vi_step : ByteArray := prog_9_method_3_code
def y_Vi_step : MethodName := ⟨R_Vi, "step", "()V"⟩
abbrev b_Wk_advance : ByteArray := prog_10_method_5_code
def y_Wk_advance : MethodName := ⟨R_Wk, "advance", "()Z"⟩
abbrev b_Wk_begin : ByteArray := prog_10_method_4_code
def y_Wk_begin : MethodName := ⟨R_Wk, "begin", "()V"⟩
abbrev b_Wk_clear : ByteArray := prog_10_method_2_code
def y_Wk_clear : MethodName := ⟨R_Wk, "clear", "()V"⟩
abbrev b_Wk_cover : ByteArray := prog_10_method_3_code
def y_Wk_cover : MethodName := ⟨R_Wk, "cover", "(III)V"⟩
abbrev b_Wk_init : ByteArray := prog_10_method_1_code
def y_Wk_init : MethodName := ⟨R_Wk, "<init>", "([LLevelTables$Run;)V"⟩
abbrev b_Wk_isSomethingAt : ByteArray := prog_10_method_9_code
def y_Wk_isSomethingAt : MethodName := ⟨R_Wk, "isSomethingAt", "(I)Z"⟩
abbrev b_Wk_takeNext : ByteArray := prog_10_method_6_code
def y_Wk_takeNext : MethodName := ⟨R_Wk, "takeNext", "()Z"⟩
abbrev b_Wk_until : ByteArray := prog_10_method_8_code
def y_Wk_until : MethodName := ⟨R_Wk, "until", "()I"⟩
abbrev b_Wk_version : ByteArray := prog_10_method_7_code
def y_Wk_version : MethodName := ⟨R_Wk, "version", "()LLevelTables$Version;"⟩
abbrev b_Wr_add : ByteArray := prog_11_method_4_code
def y_Wr_add : MethodName := ⟨R_Wr, "add", "(LLevelTables$Version;Z)V"⟩
abbrev b_Wr_begin : ByteArray := prog_11_method_3_code
def y_Wr_begin : MethodName := ⟨R_Wr, "begin", "()V"⟩
abbrev b_Wr_init : ByteArray := prog_11_method_1_code
def y_Wr_init : MethodName := ⟨R_Wr, "<init>", "(LLevelTables$Chip;)V"⟩
abbrev b_Wr_seal : ByteArray := prog_11_method_5_code
def y_Wr_seal : MethodName := ⟨R_Wr, "seal", "()V"⟩
abbrev b_Wr_tables : ByteArray := prog_11_method_2_code
def y_Wr_tables : MethodName := ⟨R_Wr, "tables", "()Ljava/util/ArrayList;"⟩
end
section
/-! words of the tables, by their places (written by wip/whole/gen.py) -/
theorem pt_1 : ∀ w ∈ tables_1_1, w ∈ tables_1 := fun w h => List.mem_append_left _ h
theorem pt_2 : ∀ w ∈ tables_1_2, w ∈ tables_1 := fun w h => List.mem_append_right _ (List.mem_append_left _ h)
theorem pt_3 : ∀ w ∈ tables_1_3, w ∈ tables_1 := fun w h => List.mem_append_right _ (List.mem_append_right _ (List.mem_append_left _ h))
theorem pt_4 : ∀ w ∈ tables_1_4, w ∈ tables_1 := fun w h => List.mem_append_right _ (List.mem_append_right _ (List.mem_append_right _ (List.mem_append_left _ h)))
theorem pt_5 : ∀ w ∈ tables_1_5, w ∈ tables_1 := fun w h => List.mem_append_right _ (List.mem_append_right _ (List.mem_append_right _ (List.mem_append_right _ (List.mem_append_left _ h))))
theorem pt_6 : ∀ w ∈ tables_1_6, w ∈ tables_1 := fun w h => List.mem_append_right _ (List.mem_append_right _ (List.mem_append_right _ (List.mem_append_right _ (List.mem_append_right _ h))))
/-- words that are carried one by one -/
def lwn : List Cond := [(Cond.methodLinkNest "LevelTables" (11 : Nat) ({ cls := "LevelTables$Tape", name := "<init>", desc := "()V" } : MethodName) "LevelTables"), (Cond.methodLinkNest "LevelTables" (25 : Nat) ({ cls := "LevelTables$Chip", name := "<init>", desc := "()V" } : MethodName) "LevelTables"), (Cond.arrayOver (FieldType.array FieldType.long)), (Cond.methodLinkNest "LevelTables" (32 : Nat) ({ cls := "LevelTables$Memory", name := "<init>", desc := "()V" } : MethodName) "LevelTables"), (Cond.methodLinkNest "LevelTables$Memory" (3 : Nat) ({ cls := "LevelTables$Run", name := "<init>", desc := "()V" } : MethodName) "LevelTables"), (Cond.methodLinkNest "LevelTables$Run" (9 : Nat) ({ cls := "LevelTables$Version", name := "<init>", desc := "()V" } : MethodName) "LevelTables"), (Cond.arrayOver (FieldType.object "LevelTables$Level")), (Cond.arrayOver (FieldType.object "LevelTables$Run")), (Cond.methodLinkNest "LevelTables" (51 : Nat) ({ cls := "LevelTables$Version", name := "<init>", desc := "()V" } : MethodName) "LevelTables"), (Cond.methodLinkNest "LevelTables$Level" (3 : Nat) ({ cls := "LevelTables$Run", name := "<init>", desc := "()V" } : MethodName) "LevelTables"), (Cond.arrayOver (FieldType.object "LevelTables$Version")), (Cond.methodLinkNest "LevelTables$Walk" (24 : Nat) ({ cls := "LevelTables$Version", name := "<init>", desc := "()V" } : MethodName) "LevelTables"), (Cond.declares ({ cls := "LevelTables$Run", name := "firstNotBefore", desc := "(LLevelTables$Version;)I" } : MethodName)), (Cond.declares ({ cls := "LevelTables$Run", name := "count", desc := "()I" } : MethodName)), (Cond.declares ({ cls := "LevelTables$Run", name := "load", desc := "(ILLevelTables$Version;)V" } : MethodName)), (Cond.arrayOver (FieldType.object "java/lang/Object")), (Cond.castable "java/lang/IndexOutOfBoundsException" "java/lang/IndexOutOfBoundsException"), (Cond.declares ({ cls := "java/lang/RuntimeException", name := "<init>", desc := "()V" } : MethodName)), (Cond.declares ({ cls := "java/lang/RuntimeException", name := "<init>", desc := "(Ljava/lang/String;)V" } : MethodName)), (Cond.declares ({ cls := "java/lang/Exception", name := "<init>", desc := "()V" } : MethodName)), (Cond.declares ({ cls := "java/lang/Exception", name := "<init>", desc := "(Ljava/lang/String;)V" } : MethodName)), (Cond.declares ({ cls := "java/lang/Throwable", name := "<init>", desc := "()V" } : MethodName)), (Cond.declares ({ cls := "java/lang/Throwable", name := "<init>", desc := "(Ljava/lang/String;)V" } : MethodName)), (Cond.castable "java/lang/IllegalArgumentException" "java/lang/IllegalArgumentException"), (Cond.castable "java/lang/IllegalStateException" "java/lang/IllegalStateException"), (Cond.castable "java/util/NoSuchElementException" "java/util/NoSuchElementException"), (Cond.declares ({ cls := "java/lang/Object", name := "getClass", desc := "()Ljava/lang/Class;" } : MethodName)), (Cond.castable "LevelTables$Table" "java/lang/Object"), (Cond.castable "LevelTables$Level" "LevelTables$Run"), (Cond.castable "LevelTables$Memory" "LevelTables$Run")]
theorem j_AOa_moved {u U : State} (hvm : u.vm.Alike U.vm) (h : va_Nw (.arrayOver (.array .long)) u) : va_Nw (.arrayOver (.array .long)) U := by
  obtain ⟨comp, c, k, h1, h2, h3, h4, h5⟩ := arrayOverA_spec h
  obtain ⟨k', hk', he⟩ := hvm.2.2 _ _ h3
  have hi : (U.vm.classes.findIdx? fun (x : Class) => match x.kind with | .array component _ => component == comp | _ => false) = some c := by
    rw [hvm.findIdx?_eq _ (fun _ => rfl)]; exact h2
  have hkind : k'.kind = .array comp (.array .long) := by rw [he]; exact h4
  have f1 : U.vm.findClass (FieldType.array .long).toString = some comp := by rw [hvm.findClass]; exact h1
  have f2 : U.vm.findClass ("[" ++ (FieldType.array .long).toString) = some c := by rw [hvm.findClass]; exact h5
  unfold va_Nw Cond.before Cond.holds
  simp only [Cond.value]
  rw [f1, Option.bind_some]
  refine (congrArg (fun o : Option Nat => (o.bind (fun c => (U.vm.classes[c]?).map fun (k : Class) => match k.kind with | .array _ ty => decide (ty = FieldType.array .long) && decide (U.vm.findClass ("[" ++ (FieldType.array .long).toString) = some c) | _ => false) == some true)) hi).trans ?_
  simp [hk', hkind, f2]
theorem lwn_us : ∀ w ∈ lwn, ∀ (A : Array Value) (U : State), va_Nw w U → w.before A U = true := j_all_mem ⟨(fun _ _ z => va_Nw.use rfl z), (fun _ _ z => va_Nw.use rfl z), (fun _ _ z => z), (fun _ _ z => va_Nw.use rfl z), (fun _ _ z => va_Nw.use rfl z), (fun _ _ z => va_Nw.use rfl z), (fun _ _ z => z), (fun _ _ z => z), (fun _ _ z => va_Nw.use rfl z), (fun _ _ z => va_Nw.use rfl z), (fun _ _ z => z), (fun _ _ z => va_Nw.use rfl z), (fun _ _ z => va_Nw.use rfl z), (fun _ _ z => va_Nw.use rfl z), (fun _ _ z => va_Nw.use rfl z), (fun _ _ z => z), (fun _ _ z => va_Nw.use rfl z), (fun _ _ z => va_Nw.use rfl z), (fun _ _ z => va_Nw.use rfl z), (fun _ _ z => va_Nw.use rfl z), (fun _ _ z => va_Nw.use rfl z), (fun _ _ z => va_Nw.use rfl z), (fun _ _ z => va_Nw.use rfl z), (fun _ _ z => va_Nw.use rfl z), (fun _ _ z => va_Nw.use rfl z), (fun _ _ z => va_Nw.use rfl z), (fun _ _ z => va_Nw.use rfl z), (fun _ _ z => va_Nw.use rfl z), (fun _ _ z => va_Nw.use rfl z), (fun _ _ z => va_Nw.use rfl z), trivial⟩
theorem lwn_mk : ∀ w ∈ lwn, ∀ (A : Array Value) (U : State), w.before A U = true → va_Nw w U := j_all_mem ⟨(fun _ _ z => va_Nw.of rfl z), (fun _ _ z => va_Nw.of rfl z), (fun _ _ z => z), (fun _ _ z => va_Nw.of rfl z), (fun _ _ z => va_Nw.of rfl z), (fun _ _ z => va_Nw.of rfl z), (fun _ _ z => z), (fun _ _ z => z), (fun _ _ z => va_Nw.of rfl z), (fun _ _ z => va_Nw.of rfl z), (fun _ _ z => z), (fun _ _ z => va_Nw.of rfl z), (fun _ _ z => va_Nw.of rfl z), (fun _ _ z => va_Nw.of rfl z), (fun _ _ z => va_Nw.of rfl z), (fun _ _ z => z), (fun _ _ z => va_Nw.of rfl z), (fun _ _ z => va_Nw.of rfl z), (fun _ _ z => va_Nw.of rfl z), (fun _ _ z => va_Nw.of rfl z), (fun _ _ z => va_Nw.of rfl z), (fun _ _ z => va_Nw.of rfl z), (fun _ _ z => va_Nw.of rfl z), (fun _ _ z => va_Nw.of rfl z), (fun _ _ z => va_Nw.of rfl z), (fun _ _ z => va_Nw.of rfl z), (fun _ _ z => va_Nw.of rfl z), (fun _ _ z => va_Nw.of rfl z), (fun _ _ z => va_Nw.of rfl z), (fun _ _ z => va_Nw.of rfl z), trivial⟩
theorem lwn_ok : ∀ w ∈ lwn, ∀ (s U : State), s.WarmedH U.vm → va_Nw w s → va_Nw w U := j_all_mem ⟨(fun _ _ h z => va_Nw.warmM h z), (fun _ _ h z => va_Nw.warmM h z), (fun _ _ h z => j_AOa_moved h.alike z), (fun _ _ h z => va_Nw.warmM h z), (fun _ _ h z => va_Nw.warmM h z), (fun _ _ h z => va_Nw.warmM h z), (fun _ _ h z => va_AO.moved h.alike z), (fun _ _ h z => va_AO.moved h.alike z), (fun _ _ h z => va_Nw.warmM h z), (fun _ _ h z => va_Nw.warmM h z), (fun _ _ h z => va_AO.moved h.alike z), (fun _ _ h z => va_Nw.warmM h z), (fun _ _ h z => va_Nw.warmD h z), (fun _ _ h z => va_Nw.warmD h z), (fun _ _ h z => va_Nw.warmD h z), (fun _ _ h z => va_AO.moved h.alike z), (fun _ _ h z => va_Nw.warmC h z), (fun _ _ h z => va_Nw.warmD h z), (fun _ _ h z => va_Nw.warmD h z), (fun _ _ h z => va_Nw.warmD h z), (fun _ _ h z => va_Nw.warmD h z), (fun _ _ h z => va_Nw.warmD h z), (fun _ _ h z => va_Nw.warmD h z), (fun _ _ h z => va_Nw.warmC h z), (fun _ _ h z => va_Nw.warmC h z), (fun _ _ h z => va_Nw.warmC h z), (fun _ _ h z => va_Nw.warmD h z), (fun _ _ h z => va_Nw.warmC h z), (fun _ _ h z => va_Nw.warmC h z), (fun _ _ h z => va_Nw.warmC h z), trivial⟩
theorem lwn_in : ∀ w ∈ lwn, w ∈ lw_tbl := j_all_mem ⟨List.mem_append_right _ (pt_1 _ (List.mem_of_getElem? (i := 45) rfl)), List.mem_append_right _ (pt_1 _ (List.mem_of_getElem? (i := 76) rfl)), List.mem_append_right _ (pt_1 _ (List.mem_of_getElem? (i := 81) rfl)), List.mem_append_right _ (pt_1 _ (List.mem_of_getElem? (i := 100) rfl)), List.mem_append_right _ (pt_1 _ (List.mem_of_getElem? (i := 103) rfl)), List.mem_append_right _ (pt_1 _ (List.mem_of_getElem? (i := 109) rfl)), List.mem_append_right _ (pt_1 _ (List.mem_of_getElem? (i := 129) rfl)), List.mem_append_right _ (pt_1 _ (List.mem_of_getElem? (i := 131) rfl)), List.mem_append_right _ (pt_1 _ (List.mem_of_getElem? (i := 133) rfl)), List.mem_append_right _ (pt_1 _ (List.mem_of_getElem? (i := 138) rfl)), List.mem_append_right _ (pt_1 _ (List.mem_of_getElem? (i := 183) rfl)), List.mem_append_right _ (pt_1 _ (List.mem_of_getElem? (i := 184) rfl)), List.mem_append_right _ (pt_2 _ (List.mem_of_getElem? (i := 84) rfl)), List.mem_append_right _ (pt_2 _ (List.mem_of_getElem? (i := 89) rfl)), List.mem_append_right _ (pt_2 _ (List.mem_of_getElem? (i := 96) rfl)), List.mem_append_right _ (pt_3 _ (List.mem_of_getElem? (i := 93) rfl)), List.mem_append_right _ (pt_3 _ (List.mem_of_getElem? (i := 171) rfl)), List.mem_append_right _ (pt_3 _ (List.mem_of_getElem? (i := 172) rfl)), List.mem_append_right _ (pt_3 _ (List.mem_of_getElem? (i := 173) rfl)), List.mem_append_right _ (pt_3 _ (List.mem_of_getElem? (i := 174) rfl)), List.mem_append_right _ (pt_3 _ (List.mem_of_getElem? (i := 175) rfl)), List.mem_append_right _ (pt_3 _ (List.mem_of_getElem? (i := 176) rfl)), List.mem_append_right _ (pt_3 _ (List.mem_of_getElem? (i := 177) rfl)), List.mem_append_right _ (pt_4 _ (List.mem_of_getElem? (i := 174) rfl)), List.mem_append_right _ (pt_5 _ (List.mem_of_getElem? (i := 153) rfl)), List.mem_append_right _ (pt_5 _ (List.mem_of_getElem? (i := 229) rfl)), List.mem_append_right _ (pt_6 _ (List.mem_of_getElem? (i := 191) rfl)), List.mem_append_right _ (pt_6 _ (List.mem_of_getElem? (i := 202) rfl)), List.mem_append_right _ (pt_6 _ (List.mem_of_getElem? (i := 204) rfl)), List.mem_append_right _ (pt_6 _ (List.mem_of_getElem? (i := 205) rfl)), trivial⟩
theorem k_45 : (Cond.methodLinkNest "LevelTables" (11 : Nat) ({ cls := "LevelTables$Tape", name := "<init>", desc := "()V" } : MethodName) "LevelTables") ∈ lwn := List.mem_of_getElem? (i := 0) rfl
theorem k_76 : (Cond.methodLinkNest "LevelTables" (25 : Nat) ({ cls := "LevelTables$Chip", name := "<init>", desc := "()V" } : MethodName) "LevelTables") ∈ lwn := List.mem_of_getElem? (i := 1) rfl
theorem k_81 : (Cond.arrayOver (FieldType.array FieldType.long)) ∈ lwn := List.mem_of_getElem? (i := 2) rfl
theorem k_100 : (Cond.methodLinkNest "LevelTables" (32 : Nat) ({ cls := "LevelTables$Memory", name := "<init>", desc := "()V" } : MethodName) "LevelTables") ∈ lwn := List.mem_of_getElem? (i := 3) rfl
theorem k_103 : (Cond.methodLinkNest "LevelTables$Memory" (3 : Nat) ({ cls := "LevelTables$Run", name := "<init>", desc := "()V" } : MethodName) "LevelTables") ∈ lwn := List.mem_of_getElem? (i := 4) rfl
theorem k_109 : (Cond.methodLinkNest "LevelTables$Run" (9 : Nat) ({ cls := "LevelTables$Version", name := "<init>", desc := "()V" } : MethodName) "LevelTables") ∈ lwn := List.mem_of_getElem? (i := 5) rfl
theorem k_129 : (Cond.arrayOver (FieldType.object "LevelTables$Level")) ∈ lwn := List.mem_of_getElem? (i := 6) rfl
theorem k_131 : (Cond.arrayOver (FieldType.object "LevelTables$Run")) ∈ lwn := List.mem_of_getElem? (i := 7) rfl
theorem k_133 : (Cond.methodLinkNest "LevelTables" (51 : Nat) ({ cls := "LevelTables$Version", name := "<init>", desc := "()V" } : MethodName) "LevelTables") ∈ lwn := List.mem_of_getElem? (i := 8) rfl
theorem k_138 : (Cond.methodLinkNest "LevelTables$Level" (3 : Nat) ({ cls := "LevelTables$Run", name := "<init>", desc := "()V" } : MethodName) "LevelTables") ∈ lwn := List.mem_of_getElem? (i := 9) rfl
theorem k_183 : (Cond.arrayOver (FieldType.object "LevelTables$Version")) ∈ lwn := List.mem_of_getElem? (i := 10) rfl
theorem k_184 : (Cond.methodLinkNest "LevelTables$Walk" (24 : Nat) ({ cls := "LevelTables$Version", name := "<init>", desc := "()V" } : MethodName) "LevelTables") ∈ lwn := List.mem_of_getElem? (i := 11) rfl
theorem k_324 : (Cond.declares ({ cls := "LevelTables$Run", name := "firstNotBefore", desc := "(LLevelTables$Version;)I" } : MethodName)) ∈ lwn := List.mem_of_getElem? (i := 12) rfl
theorem k_329 : (Cond.declares ({ cls := "LevelTables$Run", name := "count", desc := "()I" } : MethodName)) ∈ lwn := List.mem_of_getElem? (i := 13) rfl
theorem k_336 : (Cond.declares ({ cls := "LevelTables$Run", name := "load", desc := "(ILLevelTables$Version;)V" } : MethodName)) ∈ lwn := List.mem_of_getElem? (i := 14) rfl
theorem k_573 : (Cond.arrayOver (FieldType.object "java/lang/Object")) ∈ lwn := List.mem_of_getElem? (i := 15) rfl
theorem k_651 : (Cond.castable "java/lang/IndexOutOfBoundsException" "java/lang/IndexOutOfBoundsException") ∈ lwn := List.mem_of_getElem? (i := 16) rfl
theorem k_652 : (Cond.declares ({ cls := "java/lang/RuntimeException", name := "<init>", desc := "()V" } : MethodName)) ∈ lwn := List.mem_of_getElem? (i := 17) rfl
theorem k_653 : (Cond.declares ({ cls := "java/lang/RuntimeException", name := "<init>", desc := "(Ljava/lang/String;)V" } : MethodName)) ∈ lwn := List.mem_of_getElem? (i := 18) rfl
theorem k_654 : (Cond.declares ({ cls := "java/lang/Exception", name := "<init>", desc := "()V" } : MethodName)) ∈ lwn := List.mem_of_getElem? (i := 19) rfl
theorem k_655 : (Cond.declares ({ cls := "java/lang/Exception", name := "<init>", desc := "(Ljava/lang/String;)V" } : MethodName)) ∈ lwn := List.mem_of_getElem? (i := 20) rfl
theorem k_656 : (Cond.declares ({ cls := "java/lang/Throwable", name := "<init>", desc := "()V" } : MethodName)) ∈ lwn := List.mem_of_getElem? (i := 21) rfl
theorem k_657 : (Cond.declares ({ cls := "java/lang/Throwable", name := "<init>", desc := "(Ljava/lang/String;)V" } : MethodName)) ∈ lwn := List.mem_of_getElem? (i := 22) rfl
theorem k_894 : (Cond.castable "java/lang/IllegalArgumentException" "java/lang/IllegalArgumentException") ∈ lwn := List.mem_of_getElem? (i := 23) rfl
theorem k_1113 : (Cond.castable "java/lang/IllegalStateException" "java/lang/IllegalStateException") ∈ lwn := List.mem_of_getElem? (i := 24) rfl
theorem k_1189 : (Cond.castable "java/util/NoSuchElementException" "java/util/NoSuchElementException") ∈ lwn := List.mem_of_getElem? (i := 25) rfl
theorem k_1391 : (Cond.declares ({ cls := "java/lang/Object", name := "getClass", desc := "()Ljava/lang/Class;" } : MethodName)) ∈ lwn := List.mem_of_getElem? (i := 26) rfl
theorem k_1402 : (Cond.castable "LevelTables$Table" "java/lang/Object") ∈ lwn := List.mem_of_getElem? (i := 27) rfl
theorem k_1404 : (Cond.castable "LevelTables$Level" "LevelTables$Run") ∈ lwn := List.mem_of_getElem? (i := 28) rfl
theorem k_1405 : (Cond.castable "LevelTables$Memory" "LevelTables$Run") ∈ lwn := List.mem_of_getElem? (i := 29) rfl
theorem k_0 : (Cond.initialized "LevelTablesLaw") ∈ lwg := lwg_of (pt_1 _ (List.mem_of_getElem? (i := 0) rfl)) rfl
theorem k_1 : (Cond.initialized "LevelTables") ∈ lwg := lwg_of (pt_1 _ (List.mem_of_getElem? (i := 1) rfl)) rfl
theorem k_2 : (Cond.initialized "LevelTables$Tape") ∈ lwg := lwg_of (pt_1 _ (List.mem_of_getElem? (i := 2) rfl)) rfl
theorem k_3 : (Cond.initialized "LevelTables$Views") ∈ lwg := lwg_of (pt_1 _ (List.mem_of_getElem? (i := 3) rfl)) rfl
theorem k_4 : (Cond.initialized "java/util/Arrays") ∈ lwg := lwg_of (pt_1 _ (List.mem_of_getElem? (i := 4) rfl)) rfl
theorem k_5 : (Cond.initialized "LevelTables$Chip") ∈ lwg := lwg_of (pt_1 _ (List.mem_of_getElem? (i := 5) rfl)) rfl
theorem k_6 : (Cond.initialized "LevelTables$Run") ∈ lwg := lwg_of (pt_1 _ (List.mem_of_getElem? (i := 6) rfl)) rfl
theorem k_7 : (Cond.initialized "LevelTables$Memory") ∈ lwg := lwg_of (pt_1 _ (List.mem_of_getElem? (i := 7) rfl)) rfl
theorem k_8 : (Cond.initialized "LevelTables$Version") ∈ lwg := lwg_of (pt_1 _ (List.mem_of_getElem? (i := 8) rfl)) rfl
theorem k_9 : (Cond.initialized "LevelTables$Level") ∈ lwg := lwg_of (pt_1 _ (List.mem_of_getElem? (i := 9) rfl)) rfl
theorem k_10 : (Cond.initialized "java/util/AbstractCollection") ∈ lwg := lwg_of (pt_1 _ (List.mem_of_getElem? (i := 10) rfl)) rfl
theorem k_11 : (Cond.initialized "java/util/AbstractList") ∈ lwg := lwg_of (pt_1 _ (List.mem_of_getElem? (i := 11) rfl)) rfl
theorem k_12 : (Cond.initialized "java/util/ArrayList") ∈ lwg := lwg_of (pt_1 _ (List.mem_of_getElem? (i := 12) rfl)) rfl
theorem k_13 : (Cond.initialized "LevelTables$Walk") ∈ lwg := lwg_of (pt_1 _ (List.mem_of_getElem? (i := 13) rfl)) rfl
theorem k_14 : (Cond.initialized "LevelTables$Writer") ∈ lwg := lwg_of (pt_1 _ (List.mem_of_getElem? (i := 14) rfl)) rfl
theorem k_15 : (Cond.initialized "LevelTablesModel") ∈ lwg := lwg_of (pt_1 _ (List.mem_of_getElem? (i := 15) rfl)) rfl
theorem k_19 : (Cond.initialized "java/lang/IndexOutOfBoundsException") ∈ lwg := lwg_of (pt_1 _ (List.mem_of_getElem? (i := 19) rfl)) rfl
theorem k_20 : (Cond.initialized "java/lang/IllegalArgumentException") ∈ lwg := lwg_of (pt_1 _ (List.mem_of_getElem? (i := 20) rfl)) rfl
theorem k_21 : (Cond.initialized "java/lang/IllegalStateException") ∈ lwg := lwg_of (pt_1 _ (List.mem_of_getElem? (i := 21) rfl)) rfl
theorem k_22 : (Cond.initialized "java/lang/System") ∈ lwg := lwg_of (pt_1 _ (List.mem_of_getElem? (i := 22) rfl)) rfl
theorem k_23 : (Cond.initialized "java/util/Objects") ∈ lwg := lwg_of (pt_1 _ (List.mem_of_getElem? (i := 23) rfl)) rfl
theorem k_24 : (Cond.initialized "jdk/internal/util/Preconditions") ∈ lwg := lwg_of (pt_1 _ (List.mem_of_getElem? (i := 24) rfl)) rfl
theorem k_25 : (Cond.initialized "java/util/NoSuchElementException") ∈ lwg := lwg_of (pt_1 _ (List.mem_of_getElem? (i := 25) rfl)) rfl
theorem k_26 : (Cond.initialized "LevelTables$Table") ∈ lwg := lwg_of (pt_1 _ (List.mem_of_getElem? (i := 26) rfl)) rfl
theorem k_27 : (Cond.initialized "java/lang/Math") ∈ lwg := lwg_of (pt_1 _ (List.mem_of_getElem? (i := 27) rfl)) rfl
theorem k_28 : (Cond.initialized "jdk/internal/util/ArraysSupport") ∈ lwg := lwg_of (pt_1 _ (List.mem_of_getElem? (i := 28) rfl)) rfl
theorem k_35 : (Cond.classLink "LevelTablesLaw" (8 : Nat) "LevelTables") ∈ lwg := lwg_of (pt_1 _ (List.mem_of_getElem? (i := 35) rfl)) rfl
theorem k_36 : (Cond.instantiable "LevelTables" (16 : Nat)) ∈ lwg := lwg_of (pt_1 _ (List.mem_of_getElem? (i := 36) rfl)) rfl
theorem k_37 : (Cond.methodLink "LevelTablesLaw" (53 : Nat) ({ cls := "LevelTables", name := "<init>", desc := "()V" } : MethodName)) ∈ lwg := lwg_of (pt_1 _ (List.mem_of_getElem? (i := 37) rfl)) rfl
theorem k_38 : (Cond.instanceMethod ({ cls := "LevelTables", name := "<init>", desc := "()V" } : MethodName)) ∈ lwg := lwg_of (pt_1 _ (List.mem_of_getElem? (i := 38) rfl)) rfl
theorem k_39 : (Cond.code ({ cls := "LevelTables", name := "<init>", desc := "()V" } : MethodName) prog_1_method_1_code (2 : Nat) (Option.none : Option Jvm.ClassFile.FieldType)) ∈ lwg := lwg_of (pt_1 _ (List.mem_of_getElem? (i := 39) rfl)) rfl
theorem k_40 : (Cond.methodLink "LevelTables" (3 : Nat) ({ cls := "java/lang/Object", name := "<init>", desc := "()V" } : MethodName)) ∈ lwg := lwg_of (pt_1 _ (List.mem_of_getElem? (i := 40) rfl)) rfl
theorem k_41 : (Cond.instanceMethod ({ cls := "java/lang/Object", name := "<init>", desc := "()V" } : MethodName)) ∈ lwg := lwg_of (pt_1 _ (List.mem_of_getElem? (i := 41) rfl)) rfl
theorem k_42 : (Cond.code ({ cls := "java/lang/Object", name := "<init>", desc := "()V" } : MethodName) object_method_1_code (1 : Nat) (Option.none : Option Jvm.ClassFile.FieldType)) ∈ lwg := lwg_of (pt_1 _ (List.mem_of_getElem? (i := 42) rfl)) rfl
theorem k_43 : (Cond.classLink "LevelTables" (9 : Nat) "LevelTables$Tape") ∈ lwg := lwg_of (pt_1 _ (List.mem_of_getElem? (i := 43) rfl)) rfl
theorem k_44 : (Cond.instantiable "LevelTables$Tape" (2 : Nat)) ∈ lwg := lwg_of (pt_1 _ (List.mem_of_getElem? (i := 44) rfl)) rfl
theorem k_46 : (Cond.instanceMethod ({ cls := "LevelTables$Tape", name := "<init>", desc := "()V" } : MethodName)) ∈ lwg := lwg_of (pt_1 _ (List.mem_of_getElem? (i := 46) rfl)) rfl
theorem k_47 : (Cond.code ({ cls := "LevelTables$Tape", name := "<init>", desc := "()V" } : MethodName) prog_7_method_1_code (1 : Nat) (Option.none : Option Jvm.ClassFile.FieldType)) ∈ lwg := lwg_of (pt_1 _ (List.mem_of_getElem? (i := 47) rfl)) rfl
theorem k_48 : (Cond.methodLink "LevelTables$Tape" (3 : Nat) ({ cls := "java/lang/Object", name := "<init>", desc := "()V" } : MethodName)) ∈ lwg := lwg_of (pt_1 _ (List.mem_of_getElem? (i := 48) rfl)) rfl
theorem k_49 : (Cond.fieldLink "LevelTables$Tape" (9 : Nat) "LevelTables$Tape" "bytes" "[B") ∈ lwg := lwg_of (pt_1 _ (List.mem_of_getElem? (i := 49) rfl)) rfl
theorem k_50 : (Cond.fieldLink "LevelTables$Tape" (15 : Nat) "LevelTables$Tape" "length" "I") ∈ lwg := lwg_of (pt_1 _ (List.mem_of_getElem? (i := 50) rfl)) rfl
theorem k_51 : (Cond.laysFinal "LevelTables$Tape" "LevelTables$Tape" "bytes" "[B") ∈ lwg := lwg_of (pt_1 _ (List.mem_of_getElem? (i := 51) rfl)) rfl
theorem k_53 : (Cond.lays "LevelTables$Tape" "LevelTables$Tape" "length" "I") ∈ lwg := lwg_of (pt_1 _ (List.mem_of_getElem? (i := 53) rfl)) rfl
theorem k_56 : (Cond.arrayClass FieldType.byte) ∈ lwg := lwg_of (pt_1 _ (List.mem_of_getElem? (i := 56) rfl)) rfl
theorem k_57 : (Cond.classLink "LevelTables" (16 : Nat) "LevelTables$Views") ∈ lwg := lwg_of (pt_1 _ (List.mem_of_getElem? (i := 57) rfl)) rfl
theorem k_58 : (Cond.instantiable "LevelTables$Views" (2 : Nat)) ∈ lwg := lwg_of (pt_1 _ (List.mem_of_getElem? (i := 58) rfl)) rfl
theorem k_59 : (Cond.methodLink "LevelTables" (18 : Nat) ({ cls := "LevelTables$Views", name := "<init>", desc := "()V" } : MethodName)) ∈ lwg := lwg_of (pt_1 _ (List.mem_of_getElem? (i := 59) rfl)) rfl
theorem k_60 : (Cond.instanceMethod ({ cls := "LevelTables$Views", name := "<init>", desc := "()V" } : MethodName)) ∈ lwg := lwg_of (pt_1 _ (List.mem_of_getElem? (i := 60) rfl)) rfl
theorem k_61 : (Cond.code ({ cls := "LevelTables$Views", name := "<init>", desc := "()V" } : MethodName) prog_9_method_1_code (1 : Nat) (Option.none : Option Jvm.ClassFile.FieldType)) ∈ lwg := lwg_of (pt_1 _ (List.mem_of_getElem? (i := 61) rfl)) rfl
theorem k_62 : (Cond.methodLink "LevelTables$Views" (3 : Nat) ({ cls := "java/lang/Object", name := "<init>", desc := "()V" } : MethodName)) ∈ lwg := lwg_of (pt_1 _ (List.mem_of_getElem? (i := 62) rfl)) rfl
theorem k_63 : (Cond.methodLink "LevelTables$Views" (15 : Nat) ({ cls := "java/util/Arrays", name := "fill", desc := "([II)V" } : MethodName)) ∈ lwg := lwg_of (pt_1 _ (List.mem_of_getElem? (i := 63) rfl)) rfl
theorem k_64 : (Cond.static ({ cls := "java/util/Arrays", name := "fill", desc := "([II)V" } : MethodName)) ∈ lwg := lwg_of (pt_1 _ (List.mem_of_getElem? (i := 64) rfl)) rfl
theorem k_65 : (Cond.code ({ cls := "java/util/Arrays", name := "fill", desc := "([II)V" } : MethodName) prog_34_method_103_code (4 : Nat) (Option.none : Option Jvm.ClassFile.FieldType)) ∈ lwg := lwg_of (pt_1 _ (List.mem_of_getElem? (i := 65) rfl)) rfl
theorem k_66 : (Cond.fieldLink "LevelTables$Views" (9 : Nat) "LevelTables$Views" "moments" "[I") ∈ lwg := lwg_of (pt_1 _ (List.mem_of_getElem? (i := 66) rfl)) rfl
theorem k_67 : (Cond.fieldLink "LevelTables$Views" (21 : Nat) "LevelTables$Views" "present" "I") ∈ lwg := lwg_of (pt_1 _ (List.mem_of_getElem? (i := 67) rfl)) rfl
theorem k_68 : (Cond.laysFinal "LevelTables$Views" "LevelTables$Views" "moments" "[I") ∈ lwg := lwg_of (pt_1 _ (List.mem_of_getElem? (i := 68) rfl)) rfl
theorem k_70 : (Cond.lays "LevelTables$Views" "LevelTables$Views" "present" "I") ∈ lwg := lwg_of (pt_1 _ (List.mem_of_getElem? (i := 70) rfl)) rfl
theorem k_73 : (Cond.arrayClass FieldType.int) ∈ lwg := lwg_of (pt_1 _ (List.mem_of_getElem? (i := 73) rfl)) rfl
theorem k_74 : (Cond.classLink "LevelTables" (23 : Nat) "LevelTables$Chip") ∈ lwg := lwg_of (pt_1 _ (List.mem_of_getElem? (i := 74) rfl)) rfl
theorem k_75 : (Cond.instantiable "LevelTables$Chip" (5 : Nat)) ∈ lwg := lwg_of (pt_1 _ (List.mem_of_getElem? (i := 75) rfl)) rfl
theorem k_77 : (Cond.instanceMethod ({ cls := "LevelTables$Chip", name := "<init>", desc := "()V" } : MethodName)) ∈ lwg := lwg_of (pt_1 _ (List.mem_of_getElem? (i := 77) rfl)) rfl
theorem k_78 : (Cond.code ({ cls := "LevelTables$Chip", name := "<init>", desc := "()V" } : MethodName) prog_2_method_1_code (1 : Nat) (Option.none : Option Jvm.ClassFile.FieldType)) ∈ lwg := lwg_of (pt_1 _ (List.mem_of_getElem? (i := 78) rfl)) rfl
theorem k_79 : (Cond.methodLink "LevelTables$Chip" (3 : Nat) ({ cls := "java/lang/Object", name := "<init>", desc := "()V" } : MethodName)) ∈ lwg := lwg_of (pt_1 _ (List.mem_of_getElem? (i := 79) rfl)) rfl
theorem k_80 : (Cond.classLink "LevelTables$Chip" (9 : Nat) "[J") ∈ lwg := lwg_of (pt_1 _ (List.mem_of_getElem? (i := 80) rfl)) rfl
theorem k_82 : (Cond.fieldLink "LevelTables$Chip" (11 : Nat) "LevelTables$Chip" "blocks" "[[J") ∈ lwg := lwg_of (pt_1 _ (List.mem_of_getElem? (i := 82) rfl)) rfl
theorem k_83 : (Cond.fieldLink "LevelTables$Chip" (17 : Nat) "LevelTables$Chip" "written" "[I") ∈ lwg := lwg_of (pt_1 _ (List.mem_of_getElem? (i := 83) rfl)) rfl
theorem k_84 : (Cond.fieldLink "LevelTables$Chip" (21 : Nat) "LevelTables$Chip" "taken" "[I") ∈ lwg := lwg_of (pt_1 _ (List.mem_of_getElem? (i := 84) rfl)) rfl
theorem k_85 : (Cond.fieldLink "LevelTables$Chip" (24 : Nat) "LevelTables$Chip" "uses" "[I") ∈ lwg := lwg_of (pt_1 _ (List.mem_of_getElem? (i := 85) rfl)) rfl
theorem k_86 : (Cond.fieldLink "LevelTables$Chip" (27 : Nat) "LevelTables$Chip" "misused" "Z") ∈ lwg := lwg_of (pt_1 _ (List.mem_of_getElem? (i := 86) rfl)) rfl
theorem k_87 : (Cond.laysFinal "LevelTables$Chip" "LevelTables$Chip" "blocks" "[[J") ∈ lwg := lwg_of (pt_1 _ (List.mem_of_getElem? (i := 87) rfl)) rfl
theorem k_89 : (Cond.laysFinal "LevelTables$Chip" "LevelTables$Chip" "written" "[I") ∈ lwg := lwg_of (pt_1 _ (List.mem_of_getElem? (i := 89) rfl)) rfl
theorem k_91 : (Cond.laysFinal "LevelTables$Chip" "LevelTables$Chip" "taken" "[I") ∈ lwg := lwg_of (pt_1 _ (List.mem_of_getElem? (i := 91) rfl)) rfl
theorem k_93 : (Cond.laysFinal "LevelTables$Chip" "LevelTables$Chip" "uses" "[I") ∈ lwg := lwg_of (pt_1 _ (List.mem_of_getElem? (i := 93) rfl)) rfl
theorem k_95 : (Cond.lays "LevelTables$Chip" "LevelTables$Chip" "misused" "Z") ∈ lwg := lwg_of (pt_1 _ (List.mem_of_getElem? (i := 95) rfl)) rfl
theorem k_98 : (Cond.classLink "LevelTables" (30 : Nat) "LevelTables$Memory") ∈ lwg := lwg_of (pt_1 _ (List.mem_of_getElem? (i := 98) rfl)) rfl
theorem k_99 : (Cond.instantiable "LevelTables$Memory" (3 : Nat)) ∈ lwg := lwg_of (pt_1 _ (List.mem_of_getElem? (i := 99) rfl)) rfl
theorem k_101 : (Cond.instanceMethod ({ cls := "LevelTables$Memory", name := "<init>", desc := "()V" } : MethodName)) ∈ lwg := lwg_of (pt_1 _ (List.mem_of_getElem? (i := 101) rfl)) rfl
theorem k_102 : (Cond.code ({ cls := "LevelTables$Memory", name := "<init>", desc := "()V" } : MethodName) prog_4_method_1_code (1 : Nat) (Option.none : Option Jvm.ClassFile.FieldType)) ∈ lwg := lwg_of (pt_1 _ (List.mem_of_getElem? (i := 102) rfl)) rfl
theorem k_104 : (Cond.instanceMethod ({ cls := "LevelTables$Run", name := "<init>", desc := "()V" } : MethodName)) ∈ lwg := lwg_of (pt_1 _ (List.mem_of_getElem? (i := 104) rfl)) rfl
theorem k_105 : (Cond.code ({ cls := "LevelTables$Run", name := "<init>", desc := "()V" } : MethodName) prog_5_method_1_code (1 : Nat) (Option.none : Option Jvm.ClassFile.FieldType)) ∈ lwg := lwg_of (pt_1 _ (List.mem_of_getElem? (i := 105) rfl)) rfl
theorem k_106 : (Cond.methodLink "LevelTables$Run" (1 : Nat) ({ cls := "java/lang/Object", name := "<init>", desc := "()V" } : MethodName)) ∈ lwg := lwg_of (pt_1 _ (List.mem_of_getElem? (i := 106) rfl)) rfl
theorem k_107 : (Cond.classLink "LevelTables$Run" (7 : Nat) "LevelTables$Version") ∈ lwg := lwg_of (pt_1 _ (List.mem_of_getElem? (i := 107) rfl)) rfl
theorem k_108 : (Cond.instantiable "LevelTables$Version" (1 : Nat)) ∈ lwg := lwg_of (pt_1 _ (List.mem_of_getElem? (i := 108) rfl)) rfl
theorem k_110 : (Cond.instanceMethod ({ cls := "LevelTables$Version", name := "<init>", desc := "()V" } : MethodName)) ∈ lwg := lwg_of (pt_1 _ (List.mem_of_getElem? (i := 110) rfl)) rfl
theorem k_111 : (Cond.code ({ cls := "LevelTables$Version", name := "<init>", desc := "()V" } : MethodName) prog_8_method_1_code (1 : Nat) (Option.none : Option Jvm.ClassFile.FieldType)) ∈ lwg := lwg_of (pt_1 _ (List.mem_of_getElem? (i := 111) rfl)) rfl
theorem k_112 : (Cond.methodLink "LevelTables$Version" (3 : Nat) ({ cls := "java/lang/Object", name := "<init>", desc := "()V" } : MethodName)) ∈ lwg := lwg_of (pt_1 _ (List.mem_of_getElem? (i := 112) rfl)) rfl
theorem k_113 : (Cond.fieldLink "LevelTables$Version" (9 : Nat) "LevelTables$Version" "words" "[J") ∈ lwg := lwg_of (pt_1 _ (List.mem_of_getElem? (i := 113) rfl)) rfl
theorem k_114 : (Cond.laysFinal "LevelTables$Version" "LevelTables$Version" "words" "[J") ∈ lwg := lwg_of (pt_1 _ (List.mem_of_getElem? (i := 114) rfl)) rfl
theorem k_117 : (Cond.arrayClass FieldType.long) ∈ lwg := lwg_of (pt_1 _ (List.mem_of_getElem? (i := 117) rfl)) rfl
theorem k_118 : (Cond.fieldLink "LevelTables$Memory" (9 : Nat) "LevelTables$Memory" "rows" "[J") ∈ lwg := lwg_of (pt_1 _ (List.mem_of_getElem? (i := 118) rfl)) rfl
theorem k_119 : (Cond.fieldLink "LevelTables$Memory" (15 : Nat) "LevelTables$Memory" "count" "I") ∈ lwg := lwg_of (pt_1 _ (List.mem_of_getElem? (i := 119) rfl)) rfl
theorem k_120 : (Cond.fieldLink "LevelTables$Run" (10 : Nat) "LevelTables$Run" "middle" "LLevelTables$Version;") ∈ lwg := lwg_of (pt_1 _ (List.mem_of_getElem? (i := 120) rfl)) rfl
theorem k_121 : (Cond.laysFinal "LevelTables$Memory" "LevelTables$Memory" "rows" "[J") ∈ lwg := lwg_of (pt_1 _ (List.mem_of_getElem? (i := 121) rfl)) rfl
theorem k_123 : (Cond.lays "LevelTables$Memory" "LevelTables$Memory" "count" "I") ∈ lwg := lwg_of (pt_1 _ (List.mem_of_getElem? (i := 123) rfl)) rfl
theorem k_125 : (Cond.laysFinal "LevelTables$Memory" "LevelTables$Run" "middle" "LLevelTables$Version;") ∈ lwg := lwg_of (pt_1 _ (List.mem_of_getElem? (i := 125) rfl)) rfl
theorem k_128 : (Cond.classLink "LevelTables" (37 : Nat) "LevelTables$Level") ∈ lwg := lwg_of (pt_1 _ (List.mem_of_getElem? (i := 128) rfl)) rfl
theorem k_130 : (Cond.classLink "LevelTables" (43 : Nat) "LevelTables$Run") ∈ lwg := lwg_of (pt_1 _ (List.mem_of_getElem? (i := 130) rfl)) rfl
theorem k_132 : (Cond.classLink "LevelTables" (49 : Nat) "LevelTables$Version") ∈ lwg := lwg_of (pt_1 _ (List.mem_of_getElem? (i := 132) rfl)) rfl
theorem k_134 : (Cond.instantiable "LevelTables$Level" (4 : Nat)) ∈ lwg := lwg_of (pt_1 _ (List.mem_of_getElem? (i := 134) rfl)) rfl
theorem k_135 : (Cond.methodLink "LevelTables" (71 : Nat) ({ cls := "LevelTables$Level", name := "<init>", desc := "(LLevelTables$Chip;)V" } : MethodName)) ∈ lwg := lwg_of (pt_1 _ (List.mem_of_getElem? (i := 135) rfl)) rfl
theorem k_136 : (Cond.instanceMethod ({ cls := "LevelTables$Level", name := "<init>", desc := "(LLevelTables$Chip;)V" } : MethodName)) ∈ lwg := lwg_of (pt_1 _ (List.mem_of_getElem? (i := 136) rfl)) rfl
theorem k_137 : (Cond.code ({ cls := "LevelTables$Level", name := "<init>", desc := "(LLevelTables$Chip;)V" } : MethodName) prog_3_method_1_code (2 : Nat) (Option.none : Option Jvm.ClassFile.FieldType)) ∈ lwg := lwg_of (pt_1 _ (List.mem_of_getElem? (i := 137) rfl)) rfl
theorem k_139 : (Cond.classLink "LevelTables$Level" (9 : Nat) "java/util/ArrayList") ∈ lwg := lwg_of (pt_1 _ (List.mem_of_getElem? (i := 139) rfl)) rfl
theorem k_140 : (Cond.instantiable "java/util/ArrayList" (3 : Nat)) ∈ lwg := lwg_of (pt_1 _ (List.mem_of_getElem? (i := 140) rfl)) rfl
theorem k_141 : (Cond.methodLink "LevelTables$Level" (11 : Nat) ({ cls := "java/util/ArrayList", name := "<init>", desc := "()V" } : MethodName)) ∈ lwg := lwg_of (pt_1 _ (List.mem_of_getElem? (i := 141) rfl)) rfl
theorem k_142 : (Cond.instanceMethod ({ cls := "java/util/ArrayList", name := "<init>", desc := "()V" } : MethodName)) ∈ lwg := lwg_of (pt_1 _ (List.mem_of_getElem? (i := 142) rfl)) rfl
theorem k_143 : (Cond.code ({ cls := "java/util/ArrayList", name := "<init>", desc := "()V" } : MethodName) prog_33_method_2_code (1 : Nat) (Option.none : Option Jvm.ClassFile.FieldType)) ∈ lwg := lwg_of (pt_1 _ (List.mem_of_getElem? (i := 143) rfl)) rfl
theorem k_144 : (Cond.methodLink "java/util/ArrayList" (1 : Nat) ({ cls := "java/util/AbstractList", name := "<init>", desc := "()V" } : MethodName)) ∈ lwg := lwg_of (pt_1 _ (List.mem_of_getElem? (i := 144) rfl)) rfl
theorem k_145 : (Cond.instanceMethod ({ cls := "java/util/AbstractList", name := "<init>", desc := "()V" } : MethodName)) ∈ lwg := lwg_of (pt_1 _ (List.mem_of_getElem? (i := 145) rfl)) rfl
theorem k_146 : (Cond.code ({ cls := "java/util/AbstractList", name := "<init>", desc := "()V" } : MethodName) prog_32_method_1_code (1 : Nat) (Option.none : Option Jvm.ClassFile.FieldType)) ∈ lwg := lwg_of (pt_1 _ (List.mem_of_getElem? (i := 146) rfl)) rfl
theorem k_147 : (Cond.methodLink "java/util/AbstractList" (1 : Nat) ({ cls := "java/util/AbstractCollection", name := "<init>", desc := "()V" } : MethodName)) ∈ lwg := lwg_of (pt_1 _ (List.mem_of_getElem? (i := 147) rfl)) rfl
theorem k_148 : (Cond.instanceMethod ({ cls := "java/util/AbstractCollection", name := "<init>", desc := "()V" } : MethodName)) ∈ lwg := lwg_of (pt_1 _ (List.mem_of_getElem? (i := 148) rfl)) rfl
theorem k_149 : (Cond.code ({ cls := "java/util/AbstractCollection", name := "<init>", desc := "()V" } : MethodName) prog_31_method_1_code (1 : Nat) (Option.none : Option Jvm.ClassFile.FieldType)) ∈ lwg := lwg_of (pt_1 _ (List.mem_of_getElem? (i := 149) rfl)) rfl
theorem k_150 : (Cond.methodLink "java/util/AbstractCollection" (1 : Nat) ({ cls := "java/lang/Object", name := "<init>", desc := "()V" } : MethodName)) ∈ lwg := lwg_of (pt_1 _ (List.mem_of_getElem? (i := 150) rfl)) rfl
theorem k_151 : (Cond.fieldLink "java/util/ArrayList" (39 : Nat) "java/util/ArrayList" "DEFAULTCAPACITY_EMPTY_ELEMENTDATA" "[Ljava/lang/Object;") ∈ lwg := lwg_of (pt_1 _ (List.mem_of_getElem? (i := 151) rfl)) rfl
theorem k_153 : (Cond.fieldLink "java/util/ArrayList" (9 : Nat) "java/util/ArrayList" "elementData" "[Ljava/lang/Object;") ∈ lwg := lwg_of (pt_1 _ (List.mem_of_getElem? (i := 153) rfl)) rfl
theorem k_154 : (Cond.fieldLink "java/util/ArrayList" (48 : Nat) "java/util/ArrayList" "size" "I") ∈ lwg := lwg_of (pt_1 _ (List.mem_of_getElem? (i := 154) rfl)) rfl
theorem k_155 : (Cond.fieldLink "java/util/AbstractList" (7 : Nat) "java/util/AbstractList" "modCount" "I") ∈ lwg := lwg_of (pt_1 _ (List.mem_of_getElem? (i := 155) rfl)) rfl
theorem k_156 : (Cond.fieldLink "java/util/ArrayList" (63 : Nat) "java/util/ArrayList" "modCount" "I") ∈ lwg := lwg_of (pt_1 _ (List.mem_of_getElem? (i := 156) rfl)) rfl
theorem k_157 : (Cond.sameField "java/util/ArrayList" "java/util/AbstractList" "modCount" "I") ∈ lwg := lwg_of (pt_1 _ (List.mem_of_getElem? (i := 157) rfl)) rfl
theorem k_158 : (Cond.lays "java/util/ArrayList" "java/util/ArrayList" "elementData" "[Ljava/lang/Object;") ∈ lwg := lwg_of (pt_1 _ (List.mem_of_getElem? (i := 158) rfl)) rfl
theorem k_160 : (Cond.lays "java/util/ArrayList" "java/util/ArrayList" "size" "I") ∈ lwg := lwg_of (pt_1 _ (List.mem_of_getElem? (i := 160) rfl)) rfl
theorem k_162 : (Cond.lays "java/util/ArrayList" "java/util/AbstractList" "modCount" "I") ∈ lwg := lwg_of (pt_1 _ (List.mem_of_getElem? (i := 162) rfl)) rfl
theorem k_165 : (Cond.fieldLink "LevelTables$Level" (18 : Nat) "LevelTables$Level" "chip" "LLevelTables$Chip;") ∈ lwg := lwg_of (pt_1 _ (List.mem_of_getElem? (i := 165) rfl)) rfl
theorem k_166 : (Cond.fieldLink "LevelTables$Level" (12 : Nat) "LevelTables$Level" "tables" "Ljava/util/ArrayList;") ∈ lwg := lwg_of (pt_1 _ (List.mem_of_getElem? (i := 166) rfl)) rfl
theorem k_167 : (Cond.fieldLink "LevelTables$Level" (22 : Nat) "LevelTables$Level" "count" "I") ∈ lwg := lwg_of (pt_1 _ (List.mem_of_getElem? (i := 167) rfl)) rfl
theorem k_168 : (Cond.laysFinal "LevelTables$Level" "LevelTables$Level" "chip" "LLevelTables$Chip;") ∈ lwg := lwg_of (pt_1 _ (List.mem_of_getElem? (i := 168) rfl)) rfl
theorem k_170 : (Cond.laysFinal "LevelTables$Level" "LevelTables$Level" "tables" "Ljava/util/ArrayList;") ∈ lwg := lwg_of (pt_1 _ (List.mem_of_getElem? (i := 170) rfl)) rfl
theorem k_172 : (Cond.lays "LevelTables$Level" "LevelTables$Level" "count" "I") ∈ lwg := lwg_of (pt_1 _ (List.mem_of_getElem? (i := 172) rfl)) rfl
theorem k_174 : (Cond.laysFinal "LevelTables$Level" "LevelTables$Run" "middle" "LLevelTables$Version;") ∈ lwg := lwg_of (pt_1 _ (List.mem_of_getElem? (i := 174) rfl)) rfl
theorem k_176 : (Cond.classLink "LevelTables" (74 : Nat) "LevelTables$Walk") ∈ lwg := lwg_of (pt_1 _ (List.mem_of_getElem? (i := 176) rfl)) rfl
theorem k_177 : (Cond.instantiable "LevelTables$Walk" (8 : Nat)) ∈ lwg := lwg_of (pt_1 _ (List.mem_of_getElem? (i := 177) rfl)) rfl
theorem k_178 : (Cond.methodLink "LevelTables" (76 : Nat) ({ cls := "LevelTables$Walk", name := "<init>", desc := "([LLevelTables$Run;)V" } : MethodName)) ∈ lwg := lwg_of (pt_1 _ (List.mem_of_getElem? (i := 178) rfl)) rfl
theorem k_179 : (Cond.instanceMethod ({ cls := "LevelTables$Walk", name := "<init>", desc := "([LLevelTables$Run;)V" } : MethodName)) ∈ lwg := lwg_of (pt_1 _ (List.mem_of_getElem? (i := 179) rfl)) rfl
theorem k_180 : (Cond.code ({ cls := "LevelTables$Walk", name := "<init>", desc := "([LLevelTables$Run;)V" } : MethodName) prog_10_method_1_code (3 : Nat) (Option.none : Option Jvm.ClassFile.FieldType)) ∈ lwg := lwg_of (pt_1 _ (List.mem_of_getElem? (i := 180) rfl)) rfl
theorem k_181 : (Cond.methodLink "LevelTables$Walk" (3 : Nat) ({ cls := "java/lang/Object", name := "<init>", desc := "()V" } : MethodName)) ∈ lwg := lwg_of (pt_1 _ (List.mem_of_getElem? (i := 181) rfl)) rfl
theorem k_182 : (Cond.classLink "LevelTables$Walk" (18 : Nat) "LevelTables$Version") ∈ lwg := lwg_of (pt_1 _ (List.mem_of_getElem? (i := 182) rfl)) rfl
theorem k_185 : (Cond.fieldLink "LevelTables$Walk" (32 : Nat) "LevelTables$Walk" "runs" "[LLevelTables$Run;") ∈ lwg := lwg_of (pt_1 _ (List.mem_of_getElem? (i := 185) rfl)) rfl
theorem k_186 : (Cond.fieldLink "LevelTables$Walk" (9 : Nat) "LevelTables$Walk" "at" "[I") ∈ lwg := lwg_of (pt_1 _ (List.mem_of_getElem? (i := 186) rfl)) rfl
theorem k_187 : (Cond.fieldLink "LevelTables$Walk" (15 : Nat) "LevelTables$Walk" "stop" "[I") ∈ lwg := lwg_of (pt_1 _ (List.mem_of_getElem? (i := 187) rfl)) rfl
theorem k_188 : (Cond.fieldLink "LevelTables$Walk" (20 : Nat) "LevelTables$Walk" "heads" "[LLevelTables$Version;") ∈ lwg := lwg_of (pt_1 _ (List.mem_of_getElem? (i := 188) rfl)) rfl
theorem k_189 : (Cond.fieldLink "LevelTables$Walk" (25 : Nat) "LevelTables$Walk" "version" "LLevelTables$Version;") ∈ lwg := lwg_of (pt_1 _ (List.mem_of_getElem? (i := 189) rfl)) rfl
theorem k_190 : (Cond.fieldLink "LevelTables$Walk" (29 : Nat) "LevelTables$Walk" "next" "LLevelTables$Version;") ∈ lwg := lwg_of (pt_1 _ (List.mem_of_getElem? (i := 190) rfl)) rfl
theorem k_191 : (Cond.fieldLink "LevelTables$Walk" (52 : Nat) "LevelTables$Walk" "hasNext" "Z") ∈ lwg := lwg_of (pt_1 _ (List.mem_of_getElem? (i := 191) rfl)) rfl
theorem k_192 : (Cond.fieldLink "LevelTables$Walk" (68 : Nat) "LevelTables$Walk" "until" "I") ∈ lwg := lwg_of (pt_1 _ (List.mem_of_getElem? (i := 192) rfl)) rfl
theorem k_193 : (Cond.laysFinal "LevelTables$Walk" "LevelTables$Walk" "runs" "[LLevelTables$Run;") ∈ lwg := lwg_of (pt_1 _ (List.mem_of_getElem? (i := 193) rfl)) rfl
theorem k_195 : (Cond.laysFinal "LevelTables$Walk" "LevelTables$Walk" "at" "[I") ∈ lwg := lwg_of (pt_1 _ (List.mem_of_getElem? (i := 195) rfl)) rfl
theorem k_197 : (Cond.laysFinal "LevelTables$Walk" "LevelTables$Walk" "stop" "[I") ∈ lwg := lwg_of (pt_1 _ (List.mem_of_getElem? (i := 197) rfl)) rfl
theorem k_199 : (Cond.laysFinal "LevelTables$Walk" "LevelTables$Walk" "heads" "[LLevelTables$Version;") ∈ lwg := lwg_of (pt_1 _ (List.mem_of_getElem? (i := 199) rfl)) rfl
theorem k_201 : (Cond.laysFinal "LevelTables$Walk" "LevelTables$Walk" "version" "LLevelTables$Version;") ∈ lwg := lwg_of (pt_1 _ (List.mem_of_getElem? (i := 201) rfl)) rfl
theorem k_203 : (Cond.laysFinal "LevelTables$Walk" "LevelTables$Walk" "next" "LLevelTables$Version;") ∈ lwg := lwg_of (pt_1 _ (List.mem_of_getElem? (i := 203) rfl)) rfl
theorem k_205 : (Cond.lays "LevelTables$Walk" "LevelTables$Walk" "hasNext" "Z") ∈ lwg := lwg_of (pt_1 _ (List.mem_of_getElem? (i := 205) rfl)) rfl
theorem k_207 : (Cond.lays "LevelTables$Walk" "LevelTables$Walk" "until" "I") ∈ lwg := lwg_of (pt_1 _ (List.mem_of_getElem? (i := 207) rfl)) rfl
theorem k_210 : (Cond.classLink "LevelTables" (83 : Nat) "LevelTables$Writer") ∈ lwg := lwg_of (pt_1 _ (List.mem_of_getElem? (i := 210) rfl)) rfl
theorem k_211 : (Cond.instantiable "LevelTables$Writer" (5 : Nat)) ∈ lwg := lwg_of (pt_1 _ (List.mem_of_getElem? (i := 211) rfl)) rfl
theorem k_212 : (Cond.methodLink "LevelTables" (85 : Nat) ({ cls := "LevelTables$Writer", name := "<init>", desc := "(LLevelTables$Chip;)V" } : MethodName)) ∈ lwg := lwg_of (pt_1 _ (List.mem_of_getElem? (i := 212) rfl)) rfl
theorem k_213 : (Cond.instanceMethod ({ cls := "LevelTables$Writer", name := "<init>", desc := "(LLevelTables$Chip;)V" } : MethodName)) ∈ lwg := lwg_of (pt_1 _ (List.mem_of_getElem? (i := 213) rfl)) rfl
theorem k_214 : (Cond.code ({ cls := "LevelTables$Writer", name := "<init>", desc := "(LLevelTables$Chip;)V" } : MethodName) prog_11_method_1_code (2 : Nat) (Option.none : Option Jvm.ClassFile.FieldType)) ∈ lwg := lwg_of (pt_1 _ (List.mem_of_getElem? (i := 214) rfl)) rfl
theorem k_215 : (Cond.methodLink "LevelTables$Writer" (3 : Nat) ({ cls := "java/lang/Object", name := "<init>", desc := "()V" } : MethodName)) ∈ lwg := lwg_of (pt_1 _ (List.mem_of_getElem? (i := 215) rfl)) rfl
theorem k_216 : (Cond.classLink "LevelTables$Writer" (9 : Nat) "java/util/ArrayList") ∈ lwg := lwg_of (pt_1 _ (List.mem_of_getElem? (i := 216) rfl)) rfl
theorem k_217 : (Cond.methodLink "LevelTables$Writer" (11 : Nat) ({ cls := "java/util/ArrayList", name := "<init>", desc := "()V" } : MethodName)) ∈ lwg := lwg_of (pt_1 _ (List.mem_of_getElem? (i := 217) rfl)) rfl
theorem k_218 : (Cond.fieldLink "LevelTables$Writer" (22 : Nat) "LevelTables$Writer" "chip" "LLevelTables$Chip;") ∈ lwg := lwg_of (pt_1 _ (List.mem_of_getElem? (i := 218) rfl)) rfl
theorem k_219 : (Cond.fieldLink "LevelTables$Writer" (12 : Nat) "LevelTables$Writer" "tables" "Ljava/util/ArrayList;") ∈ lwg := lwg_of (pt_1 _ (List.mem_of_getElem? (i := 219) rfl)) rfl
theorem k_220 : (Cond.fieldLink "LevelTables$Writer" (18 : Nat) "LevelTables$Writer" "blocks" "[I") ∈ lwg := lwg_of (pt_1 _ (List.mem_of_getElem? (i := 220) rfl)) rfl
theorem k_221 : (Cond.fieldLink "LevelTables$Writer" (29 : Nat) "LevelTables$Writer" "count" "I") ∈ lwg := lwg_of (pt_1 _ (List.mem_of_getElem? (i := 221) rfl)) rfl
theorem k_222 : (Cond.fieldLink "LevelTables$Writer" (46 : Nat) "LevelTables$Writer" "sum" "J") ∈ lwg := lwg_of (pt_1 _ (List.mem_of_getElem? (i := 222) rfl)) rfl
theorem k_223 : (Cond.laysFinal "LevelTables$Writer" "LevelTables$Writer" "chip" "LLevelTables$Chip;") ∈ lwg := lwg_of (pt_1 _ (List.mem_of_getElem? (i := 223) rfl)) rfl
theorem k_225 : (Cond.laysFinal "LevelTables$Writer" "LevelTables$Writer" "tables" "Ljava/util/ArrayList;") ∈ lwg := lwg_of (pt_1 _ (List.mem_of_getElem? (i := 225) rfl)) rfl
theorem k_227 : (Cond.laysFinal "LevelTables$Writer" "LevelTables$Writer" "blocks" "[I") ∈ lwg := lwg_of (pt_1 _ (List.mem_of_getElem? (i := 227) rfl)) rfl
theorem k_229 : (Cond.lays "LevelTables$Writer" "LevelTables$Writer" "count" "I") ∈ lwg := lwg_of (pt_1 _ (List.mem_of_getElem? (i := 229) rfl)) rfl
theorem k_231 : (Cond.lays "LevelTables$Writer" "LevelTables$Writer" "sum" "J") ∈ lwg := lwg_of (pt_1 _ (List.mem_of_getElem? (i := 231) rfl)) rfl
theorem k_234 : (Cond.fieldLink "LevelTables" (12 : Nat) "LevelTables" "tape" "LLevelTables$Tape;") ∈ lwg := lwg_of (pt_1 _ (List.mem_of_getElem? (i := 234) rfl)) rfl
theorem k_235 : (Cond.fieldLink "LevelTables" (19 : Nat) "LevelTables" "views" "LLevelTables$Views;") ∈ lwg := lwg_of (pt_1 _ (List.mem_of_getElem? (i := 235) rfl)) rfl
theorem k_236 : (Cond.fieldLink "LevelTables" (26 : Nat) "LevelTables" "chip" "LLevelTables$Chip;") ∈ lwg := lwg_of (pt_1 _ (List.mem_of_getElem? (i := 236) rfl)) rfl
theorem k_237 : (Cond.fieldLink "LevelTables" (33 : Nat) "LevelTables" "memory" "LLevelTables$Memory;") ∈ lwg := lwg_of (pt_1 _ (List.mem_of_getElem? (i := 237) rfl)) rfl
theorem k_238 : (Cond.fieldLink "LevelTables" (39 : Nat) "LevelTables" "levels" "[LLevelTables$Level;") ∈ lwg := lwg_of (pt_1 _ (List.mem_of_getElem? (i := 238) rfl)) rfl
theorem k_239 : (Cond.fieldLink "LevelTables" (45 : Nat) "LevelTables" "runs" "[LLevelTables$Run;") ∈ lwg := lwg_of (pt_1 _ (List.mem_of_getElem? (i := 239) rfl)) rfl
theorem k_240 : (Cond.fieldLink "LevelTables" (79 : Nat) "LevelTables" "walk" "LLevelTables$Walk;") ∈ lwg := lwg_of (pt_2 _ (List.mem_of_getElem? (i := 0) rfl)) rfl
theorem k_241 : (Cond.fieldLink "LevelTables" (86 : Nat) "LevelTables" "writer" "LLevelTables$Writer;") ∈ lwg := lwg_of (pt_2 _ (List.mem_of_getElem? (i := 1) rfl)) rfl
theorem k_242 : (Cond.fieldLink "LevelTables" (52 : Nat) "LevelTables" "key" "LLevelTables$Version;") ∈ lwg := lwg_of (pt_2 _ (List.mem_of_getElem? (i := 2) rfl)) rfl
theorem k_243 : (Cond.fieldLink "LevelTables" (56 : Nat) "LevelTables" "target" "LLevelTables$Version;") ∈ lwg := lwg_of (pt_2 _ (List.mem_of_getElem? (i := 3) rfl)) rfl
theorem k_244 : (Cond.fieldLink "LevelTables" (59 : Nat) "LevelTables" "found" "LLevelTables$Version;") ∈ lwg := lwg_of (pt_2 _ (List.mem_of_getElem? (i := 4) rfl)) rfl
theorem k_245 : (Cond.fieldLink "LevelTables" (62 : Nat) "LevelTables" "low" "LLevelTables$Version;") ∈ lwg := lwg_of (pt_2 _ (List.mem_of_getElem? (i := 5) rfl)) rfl
theorem k_246 : (Cond.fieldLink "LevelTables" (65 : Nat) "LevelTables" "high" "LLevelTables$Version;") ∈ lwg := lwg_of (pt_2 _ (List.mem_of_getElem? (i := 6) rfl)) rfl
theorem k_247 : (Cond.fieldLink "LevelTables" (68 : Nat) "LevelTables" "shown" "LLevelTables$Version;") ∈ lwg := lwg_of (pt_2 _ (List.mem_of_getElem? (i := 7) rfl)) rfl
theorem k_248 : (Cond.fieldLink "LevelTables" (149 : Nat) "LevelTables" "isShown" "Z") ∈ lwg := lwg_of (pt_2 _ (List.mem_of_getElem? (i := 8) rfl)) rfl
theorem k_249 : (Cond.fieldLink "LevelTables" (186 : Nat) "LevelTables" "living" "I") ∈ lwg := lwg_of (pt_2 _ (List.mem_of_getElem? (i := 9) rfl)) rfl
theorem k_250 : (Cond.laysFinal "LevelTables" "LevelTables" "tape" "LLevelTables$Tape;") ∈ lwg := lwg_of (pt_2 _ (List.mem_of_getElem? (i := 10) rfl)) rfl
theorem k_252 : (Cond.laysFinal "LevelTables" "LevelTables" "views" "LLevelTables$Views;") ∈ lwg := lwg_of (pt_2 _ (List.mem_of_getElem? (i := 12) rfl)) rfl
theorem k_254 : (Cond.laysFinal "LevelTables" "LevelTables" "chip" "LLevelTables$Chip;") ∈ lwg := lwg_of (pt_2 _ (List.mem_of_getElem? (i := 14) rfl)) rfl
theorem k_256 : (Cond.laysFinal "LevelTables" "LevelTables" "memory" "LLevelTables$Memory;") ∈ lwg := lwg_of (pt_2 _ (List.mem_of_getElem? (i := 16) rfl)) rfl
theorem k_258 : (Cond.laysFinal "LevelTables" "LevelTables" "levels" "[LLevelTables$Level;") ∈ lwg := lwg_of (pt_2 _ (List.mem_of_getElem? (i := 18) rfl)) rfl
theorem k_260 : (Cond.laysFinal "LevelTables" "LevelTables" "runs" "[LLevelTables$Run;") ∈ lwg := lwg_of (pt_2 _ (List.mem_of_getElem? (i := 20) rfl)) rfl
theorem k_262 : (Cond.laysFinal "LevelTables" "LevelTables" "walk" "LLevelTables$Walk;") ∈ lwg := lwg_of (pt_2 _ (List.mem_of_getElem? (i := 22) rfl)) rfl
theorem k_264 : (Cond.laysFinal "LevelTables" "LevelTables" "writer" "LLevelTables$Writer;") ∈ lwg := lwg_of (pt_2 _ (List.mem_of_getElem? (i := 24) rfl)) rfl
theorem k_266 : (Cond.laysFinal "LevelTables" "LevelTables" "key" "LLevelTables$Version;") ∈ lwg := lwg_of (pt_2 _ (List.mem_of_getElem? (i := 26) rfl)) rfl
theorem k_268 : (Cond.laysFinal "LevelTables" "LevelTables" "target" "LLevelTables$Version;") ∈ lwg := lwg_of (pt_2 _ (List.mem_of_getElem? (i := 28) rfl)) rfl
theorem k_270 : (Cond.laysFinal "LevelTables" "LevelTables" "found" "LLevelTables$Version;") ∈ lwg := lwg_of (pt_2 _ (List.mem_of_getElem? (i := 30) rfl)) rfl
theorem k_272 : (Cond.laysFinal "LevelTables" "LevelTables" "low" "LLevelTables$Version;") ∈ lwg := lwg_of (pt_2 _ (List.mem_of_getElem? (i := 32) rfl)) rfl
theorem k_274 : (Cond.laysFinal "LevelTables" "LevelTables" "high" "LLevelTables$Version;") ∈ lwg := lwg_of (pt_2 _ (List.mem_of_getElem? (i := 34) rfl)) rfl
theorem k_276 : (Cond.laysFinal "LevelTables" "LevelTables" "shown" "LLevelTables$Version;") ∈ lwg := lwg_of (pt_2 _ (List.mem_of_getElem? (i := 36) rfl)) rfl
theorem k_278 : (Cond.lays "LevelTables" "LevelTables" "isShown" "Z") ∈ lwg := lwg_of (pt_2 _ (List.mem_of_getElem? (i := 38) rfl)) rfl
theorem k_280 : (Cond.lays "LevelTables" "LevelTables" "living" "I") ∈ lwg := lwg_of (pt_2 _ (List.mem_of_getElem? (i := 40) rfl)) rfl
theorem k_283 : (Cond.methodLink "LevelTablesLaw" (97 : Nat) ({ cls := "LevelTables", name := "flush", desc := "()I" } : MethodName)) ∈ lwg := lwg_of (pt_2 _ (List.mem_of_getElem? (i := 43) rfl)) rfl
theorem k_284 : (Cond.instanceMethod ({ cls := "LevelTables", name := "flush", desc := "()I" } : MethodName)) ∈ lwg := lwg_of (pt_2 _ (List.mem_of_getElem? (i := 44) rfl)) rfl
theorem k_285 : (Cond.selects "LevelTables" ({ cls := "LevelTables", name := "flush", desc := "()I" } : MethodName) ({ cls := "LevelTables", name := "flush", desc := "()I" } : MethodName)) ∈ lwg := lwg_of (pt_2 _ (List.mem_of_getElem? (i := 45) rfl)) rfl
theorem k_286 : (Cond.code ({ cls := "LevelTables", name := "flush", desc := "()I" } : MethodName) prog_1_method_12_code (3 : Nat) (Option.some FieldType.int)) ∈ lwg := lwg_of (pt_2 _ (List.mem_of_getElem? (i := 46) rfl)) rfl
theorem k_287 : (Cond.methodLink "LevelTables" (170 : Nat) ({ cls := "LevelTables$Memory", name := "count", desc := "()I" } : MethodName)) ∈ lwg := lwg_of (pt_2 _ (List.mem_of_getElem? (i := 47) rfl)) rfl
theorem k_288 : (Cond.instanceMethod ({ cls := "LevelTables$Memory", name := "count", desc := "()I" } : MethodName)) ∈ lwg := lwg_of (pt_2 _ (List.mem_of_getElem? (i := 48) rfl)) rfl
theorem k_289 : (Cond.selects "LevelTables$Memory" ({ cls := "LevelTables$Memory", name := "count", desc := "()I" } : MethodName) ({ cls := "LevelTables$Memory", name := "count", desc := "()I" } : MethodName)) ∈ lwg := lwg_of (pt_2 _ (List.mem_of_getElem? (i := 49) rfl)) rfl
theorem k_290 : (Cond.code ({ cls := "LevelTables$Memory", name := "count", desc := "()I" } : MethodName) prog_4_method_2_code (1 : Nat) (Option.some FieldType.int)) ∈ lwg := lwg_of (pt_2 _ (List.mem_of_getElem? (i := 50) rfl)) rfl
theorem k_291 : (Cond.methodLink "LevelTables" (173 : Nat) ({ cls := "LevelTables", name := "writeOut", desc := "()V" } : MethodName)) ∈ lwg := lwg_of (pt_2 _ (List.mem_of_getElem? (i := 51) rfl)) rfl
theorem k_293 : (Cond.instanceMethod ({ cls := "LevelTables", name := "writeOut", desc := "()V" } : MethodName)) ∈ lwg := lwg_of (pt_2 _ (List.mem_of_getElem? (i := 53) rfl)) rfl
theorem k_294 : (Cond.code ({ cls := "LevelTables", name := "writeOut", desc := "()V" } : MethodName) prog_1_method_20_code (4 : Nat) (Option.none : Option Jvm.ClassFile.FieldType)) ∈ lwg := lwg_of (pt_2 _ (List.mem_of_getElem? (i := 54) rfl)) rfl
theorem k_295 : (Cond.methodLink "LevelTables" (250 : Nat) ({ cls := "LevelTables$Memory", name := "load", desc := "(ILLevelTables$Version;)V" } : MethodName)) ∈ lwg := lwg_of (pt_2 _ (List.mem_of_getElem? (i := 55) rfl)) rfl
theorem k_296 : (Cond.instanceMethod ({ cls := "LevelTables$Memory", name := "load", desc := "(ILLevelTables$Version;)V" } : MethodName)) ∈ lwg := lwg_of (pt_2 _ (List.mem_of_getElem? (i := 56) rfl)) rfl
theorem k_297 : (Cond.selects "LevelTables$Memory" ({ cls := "LevelTables$Memory", name := "load", desc := "(ILLevelTables$Version;)V" } : MethodName) ({ cls := "LevelTables$Memory", name := "load", desc := "(ILLevelTables$Version;)V" } : MethodName)) ∈ lwg := lwg_of (pt_2 _ (List.mem_of_getElem? (i := 57) rfl)) rfl
theorem k_298 : (Cond.code ({ cls := "LevelTables$Memory", name := "load", desc := "(ILLevelTables$Version;)V" } : MethodName) prog_4_method_3_code (3 : Nat) (Option.none : Option Jvm.ClassFile.FieldType)) ∈ lwg := lwg_of (pt_2 _ (List.mem_of_getElem? (i := 58) rfl)) rfl
theorem k_299 : (Cond.methodLink "LevelTables$Memory" (19 : Nat) ({ cls := "LevelTables$Version", name := "words", desc := "()[J" } : MethodName)) ∈ lwg := lwg_of (pt_2 _ (List.mem_of_getElem? (i := 59) rfl)) rfl
theorem k_300 : (Cond.instanceMethod ({ cls := "LevelTables$Version", name := "words", desc := "()[J" } : MethodName)) ∈ lwg := lwg_of (pt_2 _ (List.mem_of_getElem? (i := 60) rfl)) rfl
theorem k_301 : (Cond.selects "LevelTables$Version" ({ cls := "LevelTables$Version", name := "words", desc := "()[J" } : MethodName) ({ cls := "LevelTables$Version", name := "words", desc := "()[J" } : MethodName)) ∈ lwg := lwg_of (pt_2 _ (List.mem_of_getElem? (i := 61) rfl)) rfl
theorem k_302 : (Cond.code ({ cls := "LevelTables$Version", name := "words", desc := "()[J" } : MethodName) prog_8_method_2_code (1 : Nat) (Option.some (FieldType.array FieldType.long))) ∈ lwg := lwg_of (pt_2 _ (List.mem_of_getElem? (i := 62) rfl)) rfl
theorem k_303 : (Cond.methodLink "LevelTables$Memory" (25 : Nat) ({ cls := "java/lang/System", name := "arraycopy", desc := "(Ljava/lang/Object;ILjava/lang/Object;II)V" } : MethodName)) ∈ lwg := lwg_of (pt_2 _ (List.mem_of_getElem? (i := 63) rfl)) rfl
theorem k_304 : (Cond.static ({ cls := "java/lang/System", name := "arraycopy", desc := "(Ljava/lang/Object;ILjava/lang/Object;II)V" } : MethodName)) ∈ lwg := lwg_of (pt_2 _ (List.mem_of_getElem? (i := 64) rfl)) rfl
theorem k_305 : (Cond.native ({ cls := "java/lang/System", name := "arraycopy", desc := "(Ljava/lang/Object;ILjava/lang/Object;II)V" } : MethodName)) ∈ lwg := lwg_of (pt_2 _ (List.mem_of_getElem? (i := 65) rfl)) rfl
theorem k_306 : (Cond.methodLink "LevelTables" (251 : Nat) ({ cls := "LevelTables$Level", name := "firstTableReaching", desc := "(LLevelTables$Version;)I" } : MethodName)) ∈ lwg := lwg_of (pt_2 _ (List.mem_of_getElem? (i := 66) rfl)) rfl
theorem k_307 : (Cond.instanceMethod ({ cls := "LevelTables$Level", name := "firstTableReaching", desc := "(LLevelTables$Version;)I" } : MethodName)) ∈ lwg := lwg_of (pt_2 _ (List.mem_of_getElem? (i := 67) rfl)) rfl
theorem k_308 : (Cond.selects "LevelTables$Level" ({ cls := "LevelTables$Level", name := "firstTableReaching", desc := "(LLevelTables$Version;)I" } : MethodName) ({ cls := "LevelTables$Level", name := "firstTableReaching", desc := "(LLevelTables$Version;)I" } : MethodName)) ∈ lwg := lwg_of (pt_2 _ (List.mem_of_getElem? (i := 68) rfl)) rfl
theorem k_309 : (Cond.code ({ cls := "LevelTables$Level", name := "firstTableReaching", desc := "(LLevelTables$Version;)I" } : MethodName) prog_3_method_7_code (2 : Nat) (Option.some FieldType.int)) ∈ lwg := lwg_of (pt_2 _ (List.mem_of_getElem? (i := 69) rfl)) rfl
theorem k_310 : (Cond.methodLink "LevelTables$Level" (52 : Nat) ({ cls := "LevelTables$Version", name := "setMoment", desc := "(I)V" } : MethodName)) ∈ lwg := lwg_of (pt_2 _ (List.mem_of_getElem? (i := 70) rfl)) rfl
theorem k_311 : (Cond.instanceMethod ({ cls := "LevelTables$Version", name := "setMoment", desc := "(I)V" } : MethodName)) ∈ lwg := lwg_of (pt_2 _ (List.mem_of_getElem? (i := 71) rfl)) rfl
theorem k_312 : (Cond.selects "LevelTables$Version" ({ cls := "LevelTables$Version", name := "setMoment", desc := "(I)V" } : MethodName) ({ cls := "LevelTables$Version", name := "setMoment", desc := "(I)V" } : MethodName)) ∈ lwg := lwg_of (pt_2 _ (List.mem_of_getElem? (i := 72) rfl)) rfl
theorem k_313 : (Cond.code ({ cls := "LevelTables$Version", name := "setMoment", desc := "(I)V" } : MethodName) prog_8_method_10_code (2 : Nat) (Option.none : Option Jvm.ClassFile.FieldType)) ∈ lwg := lwg_of (pt_2 _ (List.mem_of_getElem? (i := 73) rfl)) rfl
theorem k_314 : (Cond.methodLink "LevelTables$Version" (30 : Nat) ({ cls := "LevelTables$Version", name := "describe", desc := "(IZII)V" } : MethodName)) ∈ lwg := lwg_of (pt_2 _ (List.mem_of_getElem? (i := 74) rfl)) rfl
theorem k_315 : (Cond.instanceMethod ({ cls := "LevelTables$Version", name := "describe", desc := "(IZII)V" } : MethodName)) ∈ lwg := lwg_of (pt_2 _ (List.mem_of_getElem? (i := 75) rfl)) rfl
theorem k_316 : (Cond.selects "LevelTables$Version" ({ cls := "LevelTables$Version", name := "describe", desc := "(IZII)V" } : MethodName) ({ cls := "LevelTables$Version", name := "describe", desc := "(IZII)V" } : MethodName)) ∈ lwg := lwg_of (pt_2 _ (List.mem_of_getElem? (i := 76) rfl)) rfl
theorem k_317 : (Cond.code ({ cls := "LevelTables$Version", name := "describe", desc := "(IZII)V" } : MethodName) prog_8_method_11_code (5 : Nat) (Option.none : Option Jvm.ClassFile.FieldType)) ∈ lwg := lwg_of (pt_2 _ (List.mem_of_getElem? (i := 77) rfl)) rfl
theorem k_318 : (Cond.methodLink "LevelTables$Version" (34 : Nat) ({ cls := "LevelTables$Version", name := "length", desc := "()I" } : MethodName)) ∈ lwg := lwg_of (pt_2 _ (List.mem_of_getElem? (i := 78) rfl)) rfl
theorem k_319 : (Cond.instanceMethod ({ cls := "LevelTables$Version", name := "length", desc := "()I" } : MethodName)) ∈ lwg := lwg_of (pt_2 _ (List.mem_of_getElem? (i := 79) rfl)) rfl
theorem k_320 : (Cond.selects "LevelTables$Version" ({ cls := "LevelTables$Version", name := "length", desc := "()I" } : MethodName) ({ cls := "LevelTables$Version", name := "length", desc := "()I" } : MethodName)) ∈ lwg := lwg_of (pt_2 _ (List.mem_of_getElem? (i := 80) rfl)) rfl
theorem k_321 : (Cond.code ({ cls := "LevelTables$Version", name := "length", desc := "()I" } : MethodName) prog_8_method_3_code (1 : Nat) (Option.some FieldType.int)) ∈ lwg := lwg_of (pt_2 _ (List.mem_of_getElem? (i := 81) rfl)) rfl
theorem k_322 : (Cond.methodLink "LevelTables$Level" (58 : Nat) ({ cls := "LevelTables$Level", name := "firstNotBefore", desc := "(LLevelTables$Version;)I" } : MethodName)) ∈ lwg := lwg_of (pt_2 _ (List.mem_of_getElem? (i := 82) rfl)) rfl
theorem k_323 : (Cond.sameMethod "LevelTables$Level" "LevelTables$Run" "firstNotBefore" "(LLevelTables$Version;)I") ∈ lwg := lwg_of (pt_2 _ (List.mem_of_getElem? (i := 83) rfl)) rfl
theorem k_325 : (Cond.selects "LevelTables$Level" ({ cls := "LevelTables$Level", name := "firstNotBefore", desc := "(LLevelTables$Version;)I" } : MethodName) ({ cls := "LevelTables$Run", name := "firstNotBefore", desc := "(LLevelTables$Version;)I" } : MethodName)) ∈ lwg := lwg_of (pt_2 _ (List.mem_of_getElem? (i := 85) rfl)) rfl
theorem k_326 : (Cond.instanceMethod ({ cls := "LevelTables$Run", name := "firstNotBefore", desc := "(LLevelTables$Version;)I" } : MethodName)) ∈ lwg := lwg_of (pt_2 _ (List.mem_of_getElem? (i := 86) rfl)) rfl
theorem k_327 : (Cond.code ({ cls := "LevelTables$Run", name := "firstNotBefore", desc := "(LLevelTables$Version;)I" } : MethodName) prog_5_method_4_code (5 : Nat) (Option.some FieldType.int)) ∈ lwg := lwg_of (pt_2 _ (List.mem_of_getElem? (i := 87) rfl)) rfl
theorem k_328 : (Cond.methodLink "LevelTables$Run" (16 : Nat) ({ cls := "LevelTables$Run", name := "count", desc := "()I" } : MethodName)) ∈ lwg := lwg_of (pt_2 _ (List.mem_of_getElem? (i := 88) rfl)) rfl
theorem k_330 : (Cond.sameMethod "LevelTables$Run" "LevelTables$Run" "count" "()I") ∈ lwg := lwg_of (pt_2 _ (List.mem_of_getElem? (i := 90) rfl)) rfl
theorem k_331 : (Cond.selects "LevelTables$Level" ({ cls := "LevelTables$Run", name := "count", desc := "()I" } : MethodName) ({ cls := "LevelTables$Level", name := "count", desc := "()I" } : MethodName)) ∈ lwg := lwg_of (pt_2 _ (List.mem_of_getElem? (i := 91) rfl)) rfl
theorem k_332 : (Cond.instanceMethod ({ cls := "LevelTables$Level", name := "count", desc := "()I" } : MethodName)) ∈ lwg := lwg_of (pt_2 _ (List.mem_of_getElem? (i := 92) rfl)) rfl
theorem k_333 : (Cond.code ({ cls := "LevelTables$Level", name := "count", desc := "()I" } : MethodName) prog_3_method_2_code (1 : Nat) (Option.some FieldType.int)) ∈ lwg := lwg_of (pt_2 _ (List.mem_of_getElem? (i := 93) rfl)) rfl
theorem k_334 : (Cond.selects "LevelTables$Memory" ({ cls := "LevelTables$Run", name := "count", desc := "()I" } : MethodName) ({ cls := "LevelTables$Memory", name := "count", desc := "()I" } : MethodName)) ∈ lwg := lwg_of (pt_2 _ (List.mem_of_getElem? (i := 94) rfl)) rfl
theorem k_335 : (Cond.methodLink "LevelTables$Run" (20 : Nat) ({ cls := "LevelTables$Run", name := "load", desc := "(ILLevelTables$Version;)V" } : MethodName)) ∈ lwg := lwg_of (pt_2 _ (List.mem_of_getElem? (i := 95) rfl)) rfl
theorem k_337 : (Cond.sameMethod "LevelTables$Run" "LevelTables$Run" "load" "(ILLevelTables$Version;)V") ∈ lwg := lwg_of (pt_2 _ (List.mem_of_getElem? (i := 97) rfl)) rfl
theorem k_338 : (Cond.selects "LevelTables$Level" ({ cls := "LevelTables$Run", name := "load", desc := "(ILLevelTables$Version;)V" } : MethodName) ({ cls := "LevelTables$Level", name := "load", desc := "(ILLevelTables$Version;)V" } : MethodName)) ∈ lwg := lwg_of (pt_2 _ (List.mem_of_getElem? (i := 98) rfl)) rfl
theorem k_339 : (Cond.instanceMethod ({ cls := "LevelTables$Level", name := "load", desc := "(ILLevelTables$Version;)V" } : MethodName)) ∈ lwg := lwg_of (pt_2 _ (List.mem_of_getElem? (i := 99) rfl)) rfl
theorem k_340 : (Cond.code ({ cls := "LevelTables$Level", name := "load", desc := "(ILLevelTables$Version;)V" } : MethodName) prog_3_method_3_code (6 : Nat) (Option.none : Option Jvm.ClassFile.FieldType)) ∈ lwg := lwg_of (pt_2 _ (List.mem_of_getElem? (i := 100) rfl)) rfl
theorem k_341 : (Cond.methodLink "LevelTables$Level" (26 : Nat) ({ cls := "LevelTables$Level", name := "tableWith", desc := "(I)I" } : MethodName)) ∈ lwg := lwg_of (pt_2 _ (List.mem_of_getElem? (i := 101) rfl)) rfl
theorem k_343 : (Cond.instanceMethod ({ cls := "LevelTables$Level", name := "tableWith", desc := "(I)I" } : MethodName)) ∈ lwg := lwg_of (pt_2 _ (List.mem_of_getElem? (i := 103) rfl)) rfl
theorem k_344 : (Cond.code ({ cls := "LevelTables$Level", name := "tableWith", desc := "(I)I" } : MethodName) prog_3_method_6_code (5 : Nat) (Option.some FieldType.int)) ∈ lwg := lwg_of (pt_2 _ (List.mem_of_getElem? (i := 104) rfl)) rfl
theorem k_345 : (Cond.methodLink "LevelTables$Level" (30 : Nat) ({ cls := "java/util/ArrayList", name := "size", desc := "()I" } : MethodName)) ∈ lwg := lwg_of (pt_2 _ (List.mem_of_getElem? (i := 105) rfl)) rfl
theorem k_346 : (Cond.instanceMethod ({ cls := "java/util/ArrayList", name := "size", desc := "()I" } : MethodName)) ∈ lwg := lwg_of (pt_2 _ (List.mem_of_getElem? (i := 106) rfl)) rfl
theorem k_347 : (Cond.selects "java/util/ArrayList" ({ cls := "java/util/ArrayList", name := "size", desc := "()I" } : MethodName) ({ cls := "java/util/ArrayList", name := "size", desc := "()I" } : MethodName)) ∈ lwg := lwg_of (pt_2 _ (List.mem_of_getElem? (i := 107) rfl)) rfl
theorem k_348 : (Cond.code ({ cls := "java/util/ArrayList", name := "size", desc := "()I" } : MethodName) prog_33_method_8_code (1 : Nat) (Option.some FieldType.int)) ∈ lwg := lwg_of (pt_2 _ (List.mem_of_getElem? (i := 108) rfl)) rfl
theorem k_349 : (Cond.methodLink "LevelTables$Level" (34 : Nat) ({ cls := "java/util/ArrayList", name := "get", desc := "(I)Ljava/lang/Object;" } : MethodName)) ∈ lwg := lwg_of (pt_2 _ (List.mem_of_getElem? (i := 109) rfl)) rfl
theorem k_350 : (Cond.instanceMethod ({ cls := "java/util/ArrayList", name := "get", desc := "(I)Ljava/lang/Object;" } : MethodName)) ∈ lwg := lwg_of (pt_2 _ (List.mem_of_getElem? (i := 110) rfl)) rfl
theorem k_351 : (Cond.selects "java/util/ArrayList" ({ cls := "java/util/ArrayList", name := "get", desc := "(I)Ljava/lang/Object;" } : MethodName) ({ cls := "java/util/ArrayList", name := "get", desc := "(I)Ljava/lang/Object;" } : MethodName)) ∈ lwg := lwg_of (pt_2 _ (List.mem_of_getElem? (i := 111) rfl)) rfl
theorem k_352 : (Cond.code ({ cls := "java/util/ArrayList", name := "get", desc := "(I)Ljava/lang/Object;" } : MethodName) prog_33_method_20_code (2 : Nat) (Option.some (FieldType.object "java/lang/Object"))) ∈ lwg := lwg_of (pt_2 _ (List.mem_of_getElem? (i := 112) rfl)) rfl
theorem k_353 : (Cond.methodLink "java/util/ArrayList" (118 : Nat) ({ cls := "java/util/Objects", name := "checkIndex", desc := "(II)I" } : MethodName)) ∈ lwg := lwg_of (pt_2 _ (List.mem_of_getElem? (i := 113) rfl)) rfl
theorem k_354 : (Cond.static ({ cls := "java/util/Objects", name := "checkIndex", desc := "(II)I" } : MethodName)) ∈ lwg := lwg_of (pt_2 _ (List.mem_of_getElem? (i := 114) rfl)) rfl
theorem k_355 : (Cond.code ({ cls := "java/util/Objects", name := "checkIndex", desc := "(II)I" } : MethodName) prog_38_method_17_code (2 : Nat) (Option.some FieldType.int)) ∈ lwg := lwg_of (pt_2 _ (List.mem_of_getElem? (i := 115) rfl)) rfl
theorem k_356 : (Cond.methodLink "java/util/Objects" (105 : Nat) ({ cls := "jdk/internal/util/Preconditions", name := "checkIndex", desc := "(IILjava/util/function/BiFunction;)I" } : MethodName)) ∈ lwg := lwg_of (pt_2 _ (List.mem_of_getElem? (i := 116) rfl)) rfl
theorem k_357 : (Cond.static ({ cls := "jdk/internal/util/Preconditions", name := "checkIndex", desc := "(IILjava/util/function/BiFunction;)I" } : MethodName)) ∈ lwg := lwg_of (pt_2 _ (List.mem_of_getElem? (i := 117) rfl)) rfl
theorem k_358 : (Cond.code ({ cls := "jdk/internal/util/Preconditions", name := "checkIndex", desc := "(IILjava/util/function/BiFunction;)I" } : MethodName) prog_42_method_11_code (3 : Nat) (Option.some FieldType.int)) ∈ lwg := lwg_of (pt_2 _ (List.mem_of_getElem? (i := 118) rfl)) rfl
theorem k_359 : (Cond.methodLink "java/util/ArrayList" (123 : Nat) ({ cls := "java/util/ArrayList", name := "elementData", desc := "(I)Ljava/lang/Object;" } : MethodName)) ∈ lwg := lwg_of (pt_2 _ (List.mem_of_getElem? (i := 119) rfl)) rfl
theorem k_360 : (Cond.instanceMethod ({ cls := "java/util/ArrayList", name := "elementData", desc := "(I)Ljava/lang/Object;" } : MethodName)) ∈ lwg := lwg_of (pt_2 _ (List.mem_of_getElem? (i := 120) rfl)) rfl
theorem k_361 : (Cond.selects "java/util/ArrayList" ({ cls := "java/util/ArrayList", name := "elementData", desc := "(I)Ljava/lang/Object;" } : MethodName) ({ cls := "java/util/ArrayList", name := "elementData", desc := "(I)Ljava/lang/Object;" } : MethodName)) ∈ lwg := lwg_of (pt_2 _ (List.mem_of_getElem? (i := 121) rfl)) rfl
theorem k_362 : (Cond.code ({ cls := "java/util/ArrayList", name := "elementData", desc := "(I)Ljava/lang/Object;" } : MethodName) prog_33_method_18_code (2 : Nat) (Option.some (FieldType.object "java/lang/Object"))) ∈ lwg := lwg_of (pt_2 _ (List.mem_of_getElem? (i := 122) rfl)) rfl
theorem k_363 : (Cond.classLink "LevelTables$Level" (38 : Nat) "LevelTables$Table") ∈ lwg := lwg_of (pt_2 _ (List.mem_of_getElem? (i := 123) rfl)) rfl
theorem k_364 : (Cond.methodLink "LevelTables$Level" (40 : Nat) ({ cls := "LevelTables$Table", name := "start", desc := "()I" } : MethodName)) ∈ lwg := lwg_of (pt_2 _ (List.mem_of_getElem? (i := 124) rfl)) rfl
theorem k_365 : (Cond.instanceMethod ({ cls := "LevelTables$Table", name := "start", desc := "()I" } : MethodName)) ∈ lwg := lwg_of (pt_2 _ (List.mem_of_getElem? (i := 125) rfl)) rfl
theorem k_366 : (Cond.selects "LevelTables$Table" ({ cls := "LevelTables$Table", name := "start", desc := "()I" } : MethodName) ({ cls := "LevelTables$Table", name := "start", desc := "()I" } : MethodName)) ∈ lwg := lwg_of (pt_2 _ (List.mem_of_getElem? (i := 126) rfl)) rfl
theorem k_367 : (Cond.code ({ cls := "LevelTables$Table", name := "start", desc := "()I" } : MethodName) prog_6_method_4_code (1 : Nat) (Option.some FieldType.int)) ∈ lwg := lwg_of (pt_2 _ (List.mem_of_getElem? (i := 127) rfl)) rfl
theorem k_368 : (Cond.methodLink "LevelTables$Level" (43 : Nat) ({ cls := "LevelTables$Table", name := "blockOf", desc := "(I)I" } : MethodName)) ∈ lwg := lwg_of (pt_2 _ (List.mem_of_getElem? (i := 128) rfl)) rfl
theorem k_369 : (Cond.instanceMethod ({ cls := "LevelTables$Table", name := "blockOf", desc := "(I)I" } : MethodName)) ∈ lwg := lwg_of (pt_2 _ (List.mem_of_getElem? (i := 129) rfl)) rfl
theorem k_370 : (Cond.selects "LevelTables$Table" ({ cls := "LevelTables$Table", name := "blockOf", desc := "(I)I" } : MethodName) ({ cls := "LevelTables$Table", name := "blockOf", desc := "(I)I" } : MethodName)) ∈ lwg := lwg_of (pt_2 _ (List.mem_of_getElem? (i := 130) rfl)) rfl
theorem k_371 : (Cond.code ({ cls := "LevelTables$Table", name := "blockOf", desc := "(I)I" } : MethodName) prog_6_method_6_code (3 : Nat) (Option.some FieldType.int)) ∈ lwg := lwg_of (pt_2 _ (List.mem_of_getElem? (i := 131) rfl)) rfl
theorem k_372 : (Cond.methodLink "LevelTables$Level" (46 : Nat) ({ cls := "LevelTables$Chip", name := "read", desc := "(IILLevelTables$Version;)V" } : MethodName)) ∈ lwg := lwg_of (pt_2 _ (List.mem_of_getElem? (i := 132) rfl)) rfl
theorem k_373 : (Cond.instanceMethod ({ cls := "LevelTables$Chip", name := "read", desc := "(IILLevelTables$Version;)V" } : MethodName)) ∈ lwg := lwg_of (pt_2 _ (List.mem_of_getElem? (i := 133) rfl)) rfl
theorem k_374 : (Cond.selects "LevelTables$Chip" ({ cls := "LevelTables$Chip", name := "read", desc := "(IILLevelTables$Version;)V" } : MethodName) ({ cls := "LevelTables$Chip", name := "read", desc := "(IILLevelTables$Version;)V" } : MethodName)) ∈ lwg := lwg_of (pt_2 _ (List.mem_of_getElem? (i := 134) rfl)) rfl
theorem k_375 : (Cond.code ({ cls := "LevelTables$Chip", name := "read", desc := "(IILLevelTables$Version;)V" } : MethodName) prog_2_method_7_code (4 : Nat) (Option.none : Option Jvm.ClassFile.FieldType)) ∈ lwg := lwg_of (pt_2 _ (List.mem_of_getElem? (i := 135) rfl)) rfl
theorem k_376 : (Cond.methodLink "LevelTables$Chip" (43 : Nat) ({ cls := "LevelTables$Chip", name := "hasRow", desc := "(II)Z" } : MethodName)) ∈ lwg := lwg_of (pt_2 _ (List.mem_of_getElem? (i := 136) rfl)) rfl
theorem k_378 : (Cond.instanceMethod ({ cls := "LevelTables$Chip", name := "hasRow", desc := "(II)Z" } : MethodName)) ∈ lwg := lwg_of (pt_2 _ (List.mem_of_getElem? (i := 138) rfl)) rfl
theorem k_379 : (Cond.code ({ cls := "LevelTables$Chip", name := "hasRow", desc := "(II)Z" } : MethodName) prog_2_method_8_code (3 : Nat) (Option.some FieldType.boolean)) ∈ lwg := lwg_of (pt_2 _ (List.mem_of_getElem? (i := 139) rfl)) rfl
theorem k_380 : (Cond.methodLink "LevelTables$Chip" (47 : Nat) ({ cls := "LevelTables$Version", name := "words", desc := "()[J" } : MethodName)) ∈ lwg := lwg_of (pt_2 _ (List.mem_of_getElem? (i := 140) rfl)) rfl
theorem k_381 : (Cond.methodLink "LevelTables$Chip" (53 : Nat) ({ cls := "java/lang/System", name := "arraycopy", desc := "(Ljava/lang/Object;ILjava/lang/Object;II)V" } : MethodName)) ∈ lwg := lwg_of (pt_2 _ (List.mem_of_getElem? (i := 141) rfl)) rfl
theorem k_382 : (Cond.selects "LevelTables$Memory" ({ cls := "LevelTables$Run", name := "load", desc := "(ILLevelTables$Version;)V" } : MethodName) ({ cls := "LevelTables$Memory", name := "load", desc := "(ILLevelTables$Version;)V" } : MethodName)) ∈ lwg := lwg_of (pt_2 _ (List.mem_of_getElem? (i := 142) rfl)) rfl
theorem k_383 : (Cond.methodLink "LevelTables$Run" (24 : Nat) ({ cls := "LevelTables$Version", name := "isBefore", desc := "(LLevelTables$Version;)Z" } : MethodName)) ∈ lwg := lwg_of (pt_2 _ (List.mem_of_getElem? (i := 143) rfl)) rfl
theorem k_384 : (Cond.instanceMethod ({ cls := "LevelTables$Version", name := "isBefore", desc := "(LLevelTables$Version;)Z" } : MethodName)) ∈ lwg := lwg_of (pt_2 _ (List.mem_of_getElem? (i := 144) rfl)) rfl
theorem k_385 : (Cond.selects "LevelTables$Version" ({ cls := "LevelTables$Version", name := "isBefore", desc := "(LLevelTables$Version;)Z" } : MethodName) ({ cls := "LevelTables$Version", name := "isBefore", desc := "(LLevelTables$Version;)Z" } : MethodName)) ∈ lwg := lwg_of (pt_2 _ (List.mem_of_getElem? (i := 145) rfl)) rfl
theorem k_386 : (Cond.code ({ cls := "LevelTables$Version", name := "isBefore", desc := "(LLevelTables$Version;)Z" } : MethodName) prog_8_method_13_code (3 : Nat) (Option.some FieldType.boolean)) ∈ lwg := lwg_of (pt_2 _ (List.mem_of_getElem? (i := 146) rfl)) rfl
theorem k_387 : (Cond.methodLink "LevelTables$Version" (40 : Nat) ({ cls := "LevelTables$Version", name := "compareKey", desc := "(LLevelTables$Version;)I" } : MethodName)) ∈ lwg := lwg_of (pt_2 _ (List.mem_of_getElem? (i := 147) rfl)) rfl
theorem k_388 : (Cond.instanceMethod ({ cls := "LevelTables$Version", name := "compareKey", desc := "(LLevelTables$Version;)I" } : MethodName)) ∈ lwg := lwg_of (pt_2 _ (List.mem_of_getElem? (i := 148) rfl)) rfl
theorem k_389 : (Cond.selects "LevelTables$Version" ({ cls := "LevelTables$Version", name := "compareKey", desc := "(LLevelTables$Version;)I" } : MethodName) ({ cls := "LevelTables$Version", name := "compareKey", desc := "(LLevelTables$Version;)I" } : MethodName)) ∈ lwg := lwg_of (pt_2 _ (List.mem_of_getElem? (i := 149) rfl)) rfl
theorem k_390 : (Cond.code ({ cls := "LevelTables$Version", name := "compareKey", desc := "(LLevelTables$Version;)I" } : MethodName) prog_8_method_12_code (7 : Nat) (Option.some FieldType.int)) ∈ lwg := lwg_of (pt_2 _ (List.mem_of_getElem? (i := 150) rfl)) rfl
theorem k_391 : (Cond.constantLong "LevelTables$Version" (38 : Nat) (-9223372036854775808 : Int64)) ∈ lwg := lwg_of (pt_2 _ (List.mem_of_getElem? (i := 151) rfl)) rfl
theorem k_392 : (Cond.methodLink "LevelTables$Version" (44 : Nat) ({ cls := "LevelTables$Version", name := "moment", desc := "()I" } : MethodName)) ∈ lwg := lwg_of (pt_2 _ (List.mem_of_getElem? (i := 152) rfl)) rfl
theorem k_393 : (Cond.instanceMethod ({ cls := "LevelTables$Version", name := "moment", desc := "()I" } : MethodName)) ∈ lwg := lwg_of (pt_2 _ (List.mem_of_getElem? (i := 153) rfl)) rfl
theorem k_394 : (Cond.selects "LevelTables$Version" ({ cls := "LevelTables$Version", name := "moment", desc := "()I" } : MethodName) ({ cls := "LevelTables$Version", name := "moment", desc := "()I" } : MethodName)) ∈ lwg := lwg_of (pt_2 _ (List.mem_of_getElem? (i := 154) rfl)) rfl
theorem k_395 : (Cond.code ({ cls := "LevelTables$Version", name := "moment", desc := "()I" } : MethodName) prog_8_method_4_code (1 : Nat) (Option.some FieldType.int)) ∈ lwg := lwg_of (pt_2 _ (List.mem_of_getElem? (i := 155) rfl)) rfl
theorem k_396 : (Cond.methodLink "LevelTables" (254 : Nat) ({ cls := "LevelTables$Level", name := "firstTableBeyond", desc := "(LLevelTables$Version;)I" } : MethodName)) ∈ lwg := lwg_of (pt_2 _ (List.mem_of_getElem? (i := 156) rfl)) rfl
theorem k_397 : (Cond.instanceMethod ({ cls := "LevelTables$Level", name := "firstTableBeyond", desc := "(LLevelTables$Version;)I" } : MethodName)) ∈ lwg := lwg_of (pt_2 _ (List.mem_of_getElem? (i := 157) rfl)) rfl
theorem k_398 : (Cond.selects "LevelTables$Level" ({ cls := "LevelTables$Level", name := "firstTableBeyond", desc := "(LLevelTables$Version;)I" } : MethodName) ({ cls := "LevelTables$Level", name := "firstTableBeyond", desc := "(LLevelTables$Version;)I" } : MethodName)) ∈ lwg := lwg_of (pt_2 _ (List.mem_of_getElem? (i := 158) rfl)) rfl
theorem k_399 : (Cond.code ({ cls := "LevelTables$Level", name := "firstTableBeyond", desc := "(LLevelTables$Version;)I" } : MethodName) prog_3_method_8_code (3 : Nat) (Option.some FieldType.int)) ∈ lwg := lwg_of (pt_2 _ (List.mem_of_getElem? (i := 159) rfl)) rfl
theorem k_400 : (Cond.methodLink "LevelTables" (230 : Nat) ({ cls := "LevelTables$Walk", name := "clear", desc := "()V" } : MethodName)) ∈ lwg := lwg_of (pt_2 _ (List.mem_of_getElem? (i := 160) rfl)) rfl
theorem k_401 : (Cond.instanceMethod ({ cls := "LevelTables$Walk", name := "clear", desc := "()V" } : MethodName)) ∈ lwg := lwg_of (pt_2 _ (List.mem_of_getElem? (i := 161) rfl)) rfl
theorem k_402 : (Cond.selects "LevelTables$Walk" ({ cls := "LevelTables$Walk", name := "clear", desc := "()V" } : MethodName) ({ cls := "LevelTables$Walk", name := "clear", desc := "()V" } : MethodName)) ∈ lwg := lwg_of (pt_2 _ (List.mem_of_getElem? (i := 162) rfl)) rfl
theorem k_403 : (Cond.code ({ cls := "LevelTables$Walk", name := "clear", desc := "()V" } : MethodName) prog_10_method_2_code (1 : Nat) (Option.none : Option Jvm.ClassFile.FieldType)) ∈ lwg := lwg_of (pt_2 _ (List.mem_of_getElem? (i := 163) rfl)) rfl
theorem k_404 : (Cond.methodLink "LevelTables$Walk" (36 : Nat) ({ cls := "java/util/Arrays", name := "fill", desc := "([II)V" } : MethodName)) ∈ lwg := lwg_of (pt_2 _ (List.mem_of_getElem? (i := 164) rfl)) rfl
theorem k_405 : (Cond.methodLink "LevelTables" (234 : Nat) ({ cls := "LevelTables$Walk", name := "cover", desc := "(III)V" } : MethodName)) ∈ lwg := lwg_of (pt_2 _ (List.mem_of_getElem? (i := 165) rfl)) rfl
theorem k_406 : (Cond.instanceMethod ({ cls := "LevelTables$Walk", name := "cover", desc := "(III)V" } : MethodName)) ∈ lwg := lwg_of (pt_2 _ (List.mem_of_getElem? (i := 166) rfl)) rfl
theorem k_407 : (Cond.selects "LevelTables$Walk" ({ cls := "LevelTables$Walk", name := "cover", desc := "(III)V" } : MethodName) ({ cls := "LevelTables$Walk", name := "cover", desc := "(III)V" } : MethodName)) ∈ lwg := lwg_of (pt_2 _ (List.mem_of_getElem? (i := 167) rfl)) rfl
theorem k_408 : (Cond.code ({ cls := "LevelTables$Walk", name := "cover", desc := "(III)V" } : MethodName) prog_10_method_3_code (4 : Nat) (Option.none : Option Jvm.ClassFile.FieldType)) ∈ lwg := lwg_of (pt_2 _ (List.mem_of_getElem? (i := 168) rfl)) rfl
theorem k_409 : (Cond.methodLink "LevelTables$Walk" (42 : Nat) ({ cls := "LevelTables$Run", name := "load", desc := "(ILLevelTables$Version;)V" } : MethodName)) ∈ lwg := lwg_of (pt_2 _ (List.mem_of_getElem? (i := 169) rfl)) rfl
theorem k_410 : (Cond.methodLink "LevelTables" (257 : Nat) ({ cls := "LevelTables$Level", name := "startOf", desc := "(I)I" } : MethodName)) ∈ lwg := lwg_of (pt_2 _ (List.mem_of_getElem? (i := 170) rfl)) rfl
theorem k_411 : (Cond.instanceMethod ({ cls := "LevelTables$Level", name := "startOf", desc := "(I)I" } : MethodName)) ∈ lwg := lwg_of (pt_2 _ (List.mem_of_getElem? (i := 171) rfl)) rfl
theorem k_412 : (Cond.selects "LevelTables$Level" ({ cls := "LevelTables$Level", name := "startOf", desc := "(I)I" } : MethodName) ({ cls := "LevelTables$Level", name := "startOf", desc := "(I)I" } : MethodName)) ∈ lwg := lwg_of (pt_2 _ (List.mem_of_getElem? (i := 172) rfl)) rfl
theorem k_413 : (Cond.code ({ cls := "LevelTables$Level", name := "startOf", desc := "(I)I" } : MethodName) prog_3_method_5_code (2 : Nat) (Option.some FieldType.int)) ∈ lwg := lwg_of (pt_2 _ (List.mem_of_getElem? (i := 173) rfl)) rfl
theorem k_414 : (Cond.methodLink "LevelTables" (260 : Nat) ({ cls := "LevelTables", name := "writeNeeded", desc := "(I)V" } : MethodName)) ∈ lwg := lwg_of (pt_2 _ (List.mem_of_getElem? (i := 174) rfl)) rfl
theorem k_416 : (Cond.instanceMethod ({ cls := "LevelTables", name := "writeNeeded", desc := "(I)V" } : MethodName)) ∈ lwg := lwg_of (pt_2 _ (List.mem_of_getElem? (i := 176) rfl)) rfl
theorem k_417 : (Cond.code ({ cls := "LevelTables", name := "writeNeeded", desc := "(I)V" } : MethodName) prog_1_method_23_code (8 : Nat) (Option.none : Option Jvm.ClassFile.FieldType)) ∈ lwg := lwg_of (pt_2 _ (List.mem_of_getElem? (i := 177) rfl)) rfl
theorem k_418 : (Cond.methodLink "LevelTables" (277 : Nat) ({ cls := "LevelTables$Writer", name := "begin", desc := "()V" } : MethodName)) ∈ lwg := lwg_of (pt_2 _ (List.mem_of_getElem? (i := 178) rfl)) rfl
theorem k_419 : (Cond.instanceMethod ({ cls := "LevelTables$Writer", name := "begin", desc := "()V" } : MethodName)) ∈ lwg := lwg_of (pt_2 _ (List.mem_of_getElem? (i := 179) rfl)) rfl
theorem k_420 : (Cond.selects "LevelTables$Writer" ({ cls := "LevelTables$Writer", name := "begin", desc := "()V" } : MethodName) ({ cls := "LevelTables$Writer", name := "begin", desc := "()V" } : MethodName)) ∈ lwg := lwg_of (pt_2 _ (List.mem_of_getElem? (i := 180) rfl)) rfl
theorem k_421 : (Cond.code ({ cls := "LevelTables$Writer", name := "begin", desc := "()V" } : MethodName) prog_11_method_3_code (1 : Nat) (Option.none : Option Jvm.ClassFile.FieldType)) ∈ lwg := lwg_of (pt_2 _ (List.mem_of_getElem? (i := 181) rfl)) rfl
theorem k_422 : (Cond.methodLink "LevelTables$Writer" (26 : Nat) ({ cls := "java/util/ArrayList", name := "clear", desc := "()V" } : MethodName)) ∈ lwg := lwg_of (pt_2 _ (List.mem_of_getElem? (i := 182) rfl)) rfl
theorem k_423 : (Cond.instanceMethod ({ cls := "java/util/ArrayList", name := "clear", desc := "()V" } : MethodName)) ∈ lwg := lwg_of (pt_2 _ (List.mem_of_getElem? (i := 183) rfl)) rfl
theorem k_424 : (Cond.selects "java/util/ArrayList" ({ cls := "java/util/ArrayList", name := "clear", desc := "()V" } : MethodName) ({ cls := "java/util/ArrayList", name := "clear", desc := "()V" } : MethodName)) ∈ lwg := lwg_of (pt_2 _ (List.mem_of_getElem? (i := 184) rfl)) rfl
theorem k_425 : (Cond.code ({ cls := "java/util/ArrayList", name := "clear", desc := "()V" } : MethodName) prog_33_method_40_code (4 : Nat) (Option.none : Option Jvm.ClassFile.FieldType)) ∈ lwg := lwg_of (pt_2 _ (List.mem_of_getElem? (i := 185) rfl)) rfl
theorem k_426 : (Cond.methodLink "LevelTables" (238 : Nat) ({ cls := "LevelTables$Walk", name := "begin", desc := "()V" } : MethodName)) ∈ lwg := lwg_of (pt_2 _ (List.mem_of_getElem? (i := 186) rfl)) rfl
theorem k_427 : (Cond.instanceMethod ({ cls := "LevelTables$Walk", name := "begin", desc := "()V" } : MethodName)) ∈ lwg := lwg_of (pt_2 _ (List.mem_of_getElem? (i := 187) rfl)) rfl
theorem k_428 : (Cond.selects "LevelTables$Walk" ({ cls := "LevelTables$Walk", name := "begin", desc := "()V" } : MethodName) ({ cls := "LevelTables$Walk", name := "begin", desc := "()V" } : MethodName)) ∈ lwg := lwg_of (pt_2 _ (List.mem_of_getElem? (i := 188) rfl)) rfl
theorem k_429 : (Cond.code ({ cls := "LevelTables$Walk", name := "begin", desc := "()V" } : MethodName) prog_10_method_4_code (1 : Nat) (Option.none : Option Jvm.ClassFile.FieldType)) ∈ lwg := lwg_of (pt_2 _ (List.mem_of_getElem? (i := 189) rfl)) rfl
theorem k_430 : (Cond.methodLink "LevelTables$Walk" (48 : Nat) ({ cls := "LevelTables$Walk", name := "takeNext", desc := "()Z" } : MethodName)) ∈ lwg := lwg_of (pt_2 _ (List.mem_of_getElem? (i := 190) rfl)) rfl
theorem k_432 : (Cond.instanceMethod ({ cls := "LevelTables$Walk", name := "takeNext", desc := "()Z" } : MethodName)) ∈ lwg := lwg_of (pt_2 _ (List.mem_of_getElem? (i := 192) rfl)) rfl
theorem k_433 : (Cond.code ({ cls := "LevelTables$Walk", name := "takeNext", desc := "()Z" } : MethodName) prog_10_method_6_code (3 : Nat) (Option.some FieldType.boolean)) ∈ lwg := lwg_of (pt_2 _ (List.mem_of_getElem? (i := 193) rfl)) rfl
theorem k_434 : (Cond.methodLink "LevelTables$Walk" (72 : Nat) ({ cls := "LevelTables$Version", name := "isBefore", desc := "(LLevelTables$Version;)Z" } : MethodName)) ∈ lwg := lwg_of (pt_2 _ (List.mem_of_getElem? (i := 194) rfl)) rfl
theorem k_435 : (Cond.methodLink "LevelTables$Walk" (56 : Nat) ({ cls := "LevelTables$Version", name := "copy", desc := "(LLevelTables$Version;)V" } : MethodName)) ∈ lwg := lwg_of (pt_2 _ (List.mem_of_getElem? (i := 195) rfl)) rfl
theorem k_436 : (Cond.instanceMethod ({ cls := "LevelTables$Version", name := "copy", desc := "(LLevelTables$Version;)V" } : MethodName)) ∈ lwg := lwg_of (pt_2 _ (List.mem_of_getElem? (i := 196) rfl)) rfl
theorem k_437 : (Cond.selects "LevelTables$Version" ({ cls := "LevelTables$Version", name := "copy", desc := "(LLevelTables$Version;)V" } : MethodName) ({ cls := "LevelTables$Version", name := "copy", desc := "(LLevelTables$Version;)V" } : MethodName)) ∈ lwg := lwg_of (pt_2 _ (List.mem_of_getElem? (i := 197) rfl)) rfl
theorem k_438 : (Cond.code ({ cls := "LevelTables$Version", name := "copy", desc := "(LLevelTables$Version;)V" } : MethodName) prog_8_method_8_code (2 : Nat) (Option.none : Option Jvm.ClassFile.FieldType)) ∈ lwg := lwg_of (pt_2 _ (List.mem_of_getElem? (i := 198) rfl)) rfl
theorem k_439 : (Cond.methodLink "LevelTables$Version" (16 : Nat) ({ cls := "java/lang/System", name := "arraycopy", desc := "(Ljava/lang/Object;ILjava/lang/Object;II)V" } : MethodName)) ∈ lwg := lwg_of (pt_2 _ (List.mem_of_getElem? (i := 199) rfl)) rfl
theorem k_440 : (Cond.methodLink "LevelTables" (240 : Nat) ({ cls := "LevelTables$Walk", name := "advance", desc := "()Z" } : MethodName)) ∈ lwg := lwg_of (pt_2 _ (List.mem_of_getElem? (i := 200) rfl)) rfl
theorem k_441 : (Cond.instanceMethod ({ cls := "LevelTables$Walk", name := "advance", desc := "()Z" } : MethodName)) ∈ lwg := lwg_of (pt_2 _ (List.mem_of_getElem? (i := 201) rfl)) rfl
theorem k_442 : (Cond.selects "LevelTables$Walk" ({ cls := "LevelTables$Walk", name := "advance", desc := "()Z" } : MethodName) ({ cls := "LevelTables$Walk", name := "advance", desc := "()Z" } : MethodName)) ∈ lwg := lwg_of (pt_2 _ (List.mem_of_getElem? (i := 202) rfl)) rfl
theorem k_443 : (Cond.code ({ cls := "LevelTables$Walk", name := "advance", desc := "()Z" } : MethodName) prog_10_method_5_code (1 : Nat) (Option.some FieldType.boolean)) ∈ lwg := lwg_of (pt_2 _ (List.mem_of_getElem? (i := 203) rfl)) rfl
theorem k_444 : (Cond.methodLink "LevelTables$Walk" (60 : Nat) ({ cls := "LevelTables$Version", name := "compareKey", desc := "(LLevelTables$Version;)I" } : MethodName)) ∈ lwg := lwg_of (pt_2 _ (List.mem_of_getElem? (i := 204) rfl)) rfl
theorem k_445 : (Cond.methodLink "LevelTables$Walk" (64 : Nat) ({ cls := "LevelTables$Version", name := "moment", desc := "()I" } : MethodName)) ∈ lwg := lwg_of (pt_2 _ (List.mem_of_getElem? (i := 205) rfl)) rfl
theorem k_446 : (Cond.methodLink "LevelTables" (246 : Nat) ({ cls := "LevelTables$Walk", name := "version", desc := "()LLevelTables$Version;" } : MethodName)) ∈ lwg := lwg_of (pt_2 _ (List.mem_of_getElem? (i := 206) rfl)) rfl
theorem k_447 : (Cond.instanceMethod ({ cls := "LevelTables$Walk", name := "version", desc := "()LLevelTables$Version;" } : MethodName)) ∈ lwg := lwg_of (pt_2 _ (List.mem_of_getElem? (i := 207) rfl)) rfl
theorem k_448 : (Cond.selects "LevelTables$Walk" ({ cls := "LevelTables$Walk", name := "version", desc := "()LLevelTables$Version;" } : MethodName) ({ cls := "LevelTables$Walk", name := "version", desc := "()LLevelTables$Version;" } : MethodName)) ∈ lwg := lwg_of (pt_2 _ (List.mem_of_getElem? (i := 208) rfl)) rfl
theorem k_449 : (Cond.code ({ cls := "LevelTables$Walk", name := "version", desc := "()LLevelTables$Version;" } : MethodName) prog_10_method_7_code (1 : Nat) (Option.some (FieldType.object "LevelTables$Version"))) ∈ lwg := lwg_of (pt_2 _ (List.mem_of_getElem? (i := 209) rfl)) rfl
theorem k_450 : (Cond.methodLink "LevelTables" (278 : Nat) ({ cls := "LevelTables$Walk", name := "until", desc := "()I" } : MethodName)) ∈ lwg := lwg_of (pt_2 _ (List.mem_of_getElem? (i := 210) rfl)) rfl
theorem k_451 : (Cond.instanceMethod ({ cls := "LevelTables$Walk", name := "until", desc := "()I" } : MethodName)) ∈ lwg := lwg_of (pt_2 _ (List.mem_of_getElem? (i := 211) rfl)) rfl
theorem k_452 : (Cond.selects "LevelTables$Walk" ({ cls := "LevelTables$Walk", name := "until", desc := "()I" } : MethodName) ({ cls := "LevelTables$Walk", name := "until", desc := "()I" } : MethodName)) ∈ lwg := lwg_of (pt_2 _ (List.mem_of_getElem? (i := 212) rfl)) rfl
theorem k_453 : (Cond.code ({ cls := "LevelTables$Walk", name := "until", desc := "()I" } : MethodName) prog_10_method_8_code (1 : Nat) (Option.some FieldType.int)) ∈ lwg := lwg_of (pt_2 _ (List.mem_of_getElem? (i := 213) rfl)) rfl
theorem k_454 : (Cond.methodLink "LevelTables" (281 : Nat) ({ cls := "LevelTables", name := "nextMoment", desc := "(LLevelTables$Version;I)I" } : MethodName)) ∈ lwg := lwg_of (pt_2 _ (List.mem_of_getElem? (i := 214) rfl)) rfl
theorem k_456 : (Cond.instanceMethod ({ cls := "LevelTables", name := "nextMoment", desc := "(LLevelTables$Version;I)I" } : MethodName)) ∈ lwg := lwg_of (pt_2 _ (List.mem_of_getElem? (i := 216) rfl)) rfl
theorem k_457 : (Cond.code ({ cls := "LevelTables", name := "nextMoment", desc := "(LLevelTables$Version;I)I" } : MethodName) prog_1_method_24_code (5 : Nat) (Option.some FieldType.int)) ∈ lwg := lwg_of (pt_2 _ (List.mem_of_getElem? (i := 217) rfl)) rfl
theorem k_458 : (Cond.methodLink "LevelTables" (213 : Nat) ({ cls := "LevelTables$Version", name := "copy", desc := "(LLevelTables$Version;)V" } : MethodName)) ∈ lwg := lwg_of (pt_2 _ (List.mem_of_getElem? (i := 218) rfl)) rfl
theorem k_459 : (Cond.methodLink "LevelTables" (162 : Nat) ({ cls := "LevelTables$Version", name := "moment", desc := "()I" } : MethodName)) ∈ lwg := lwg_of (pt_2 _ (List.mem_of_getElem? (i := 219) rfl)) rfl
theorem k_460 : (Cond.methodLink "LevelTables" (142 : Nat) ({ cls := "LevelTables$Version", name := "setMoment", desc := "(I)V" } : MethodName)) ∈ lwg := lwg_of (pt_2 _ (List.mem_of_getElem? (i := 220) rfl)) rfl
theorem k_461 : (Cond.methodLink "LevelTables" (216 : Nat) ({ cls := "LevelTables$Run", name := "firstNotBefore", desc := "(LLevelTables$Version;)I" } : MethodName)) ∈ lwg := lwg_of (pt_2 _ (List.mem_of_getElem? (i := 221) rfl)) rfl
theorem k_462 : (Cond.methodLink "LevelTables" (233 : Nat) ({ cls := "LevelTables$Run", name := "count", desc := "()I" } : MethodName)) ∈ lwg := lwg_of (pt_2 _ (List.mem_of_getElem? (i := 222) rfl)) rfl
theorem k_463 : (Cond.methodLink "LevelTables" (220 : Nat) ({ cls := "LevelTables$Run", name := "load", desc := "(ILLevelTables$Version;)V" } : MethodName)) ∈ lwg := lwg_of (pt_2 _ (List.mem_of_getElem? (i := 223) rfl)) rfl
theorem k_464 : (Cond.methodLink "LevelTables" (224 : Nat) ({ cls := "LevelTables$Version", name := "compareKey", desc := "(LLevelTables$Version;)I" } : MethodName)) ∈ lwg := lwg_of (pt_2 _ (List.mem_of_getElem? (i := 224) rfl)) rfl
theorem k_465 : (Cond.methodLink "LevelTables" (227 : Nat) ({ cls := "LevelTables$Version", name := "isThere", desc := "()Z" } : MethodName)) ∈ lwg := lwg_of (pt_2 _ (List.mem_of_getElem? (i := 225) rfl)) rfl
theorem k_466 : (Cond.instanceMethod ({ cls := "LevelTables$Version", name := "isThere", desc := "()Z" } : MethodName)) ∈ lwg := lwg_of (pt_2 _ (List.mem_of_getElem? (i := 226) rfl)) rfl
theorem k_467 : (Cond.selects "LevelTables$Version" ({ cls := "LevelTables$Version", name := "isThere", desc := "()Z" } : MethodName) ({ cls := "LevelTables$Version", name := "isThere", desc := "()Z" } : MethodName)) ∈ lwg := lwg_of (pt_2 _ (List.mem_of_getElem? (i := 227) rfl)) rfl
theorem k_468 : (Cond.code ({ cls := "LevelTables$Version", name := "isThere", desc := "()Z" } : MethodName) prog_8_method_5_code (1 : Nat) (Option.some FieldType.boolean)) ∈ lwg := lwg_of (pt_2 _ (List.mem_of_getElem? (i := 228) rfl)) rfl
theorem k_469 : (Cond.methodLink "LevelTables" (134 : Nat) ({ cls := "LevelTables", name := "hasSomething", desc := "(LLevelTables$Version;II)Z" } : MethodName)) ∈ lwg := lwg_of (pt_2 _ (List.mem_of_getElem? (i := 229) rfl)) rfl
theorem k_471 : (Cond.instanceMethod ({ cls := "LevelTables", name := "hasSomething", desc := "(LLevelTables$Version;II)Z" } : MethodName)) ∈ lwg := lwg_of (pt_2 _ (List.mem_of_getElem? (i := 231) rfl)) rfl
theorem k_472 : (Cond.code ({ cls := "LevelTables", name := "hasSomething", desc := "(LLevelTables$Version;II)Z" } : MethodName) prog_1_method_17_code (6 : Nat) (Option.some FieldType.boolean)) ∈ lwg := lwg_of (pt_2 _ (List.mem_of_getElem? (i := 232) rfl)) rfl
theorem k_473 : (Cond.methodLink "LevelTables" (285 : Nat) ({ cls := "LevelTables$Views", name := "need", desc := "(II)Z" } : MethodName)) ∈ lwg := lwg_of (pt_2 _ (List.mem_of_getElem? (i := 233) rfl)) rfl
theorem k_474 : (Cond.instanceMethod ({ cls := "LevelTables$Views", name := "need", desc := "(II)Z" } : MethodName)) ∈ lwg := lwg_of (pt_2 _ (List.mem_of_getElem? (i := 234) rfl)) rfl
theorem k_475 : (Cond.selects "LevelTables$Views" ({ cls := "LevelTables$Views", name := "need", desc := "(II)Z" } : MethodName) ({ cls := "LevelTables$Views", name := "need", desc := "(II)Z" } : MethodName)) ∈ lwg := lwg_of (pt_2 _ (List.mem_of_getElem? (i := 235) rfl)) rfl
theorem k_476 : (Cond.code ({ cls := "LevelTables$Views", name := "need", desc := "(II)Z" } : MethodName) prog_9_method_7_code (4 : Nat) (Option.some FieldType.boolean)) ∈ lwg := lwg_of (pt_2 _ (List.mem_of_getElem? (i := 236) rfl)) rfl
theorem k_477 : (Cond.methodLink "LevelTables" (289 : Nat) ({ cls := "LevelTables$Writer", name := "add", desc := "(LLevelTables$Version;Z)V" } : MethodName)) ∈ lwg := lwg_of (pt_2 _ (List.mem_of_getElem? (i := 237) rfl)) rfl
theorem k_478 : (Cond.instanceMethod ({ cls := "LevelTables$Writer", name := "add", desc := "(LLevelTables$Version;Z)V" } : MethodName)) ∈ lwg := lwg_of (pt_2 _ (List.mem_of_getElem? (i := 238) rfl)) rfl
theorem k_479 : (Cond.selects "LevelTables$Writer" ({ cls := "LevelTables$Writer", name := "add", desc := "(LLevelTables$Version;Z)V" } : MethodName) ({ cls := "LevelTables$Writer", name := "add", desc := "(LLevelTables$Version;Z)V" } : MethodName)) ∈ lwg := lwg_of (pt_2 _ (List.mem_of_getElem? (i := 239) rfl)) rfl
theorem k_480 : (Cond.code ({ cls := "LevelTables$Writer", name := "add", desc := "(LLevelTables$Version;Z)V" } : MethodName) prog_11_method_4_code (5 : Nat) (Option.none : Option Jvm.ClassFile.FieldType)) ∈ lwg := lwg_of (pt_3 _ (List.mem_of_getElem? (i := 0) rfl)) rfl
theorem k_481 : (Cond.methodLink "LevelTables$Writer" (33 : Nat) ({ cls := "LevelTables$Writer", name := "seal", desc := "()V" } : MethodName)) ∈ lwg := lwg_of (pt_3 _ (List.mem_of_getElem? (i := 1) rfl)) rfl
theorem k_482 : (Cond.instanceMethod ({ cls := "LevelTables$Writer", name := "seal", desc := "()V" } : MethodName)) ∈ lwg := lwg_of (pt_3 _ (List.mem_of_getElem? (i := 2) rfl)) rfl
theorem k_483 : (Cond.selects "LevelTables$Writer" ({ cls := "LevelTables$Writer", name := "seal", desc := "()V" } : MethodName) ({ cls := "LevelTables$Writer", name := "seal", desc := "()V" } : MethodName)) ∈ lwg := lwg_of (pt_3 _ (List.mem_of_getElem? (i := 3) rfl)) rfl
theorem k_484 : (Cond.code ({ cls := "LevelTables$Writer", name := "seal", desc := "()V" } : MethodName) prog_11_method_5_code (2 : Nat) (Option.none : Option Jvm.ClassFile.FieldType)) ∈ lwg := lwg_of (pt_3 _ (List.mem_of_getElem? (i := 4) rfl)) rfl
theorem k_485 : (Cond.classLink "LevelTables$Writer" (56 : Nat) "LevelTables$Table") ∈ lwg := lwg_of (pt_3 _ (List.mem_of_getElem? (i := 5) rfl)) rfl
theorem k_486 : (Cond.instantiable "LevelTables$Table" (4 : Nat)) ∈ lwg := lwg_of (pt_3 _ (List.mem_of_getElem? (i := 6) rfl)) rfl
theorem k_487 : (Cond.methodLink "LevelTables$Writer" (58 : Nat) ({ cls := "java/util/Arrays", name := "copyOf", desc := "([II)[I" } : MethodName)) ∈ lwg := lwg_of (pt_3 _ (List.mem_of_getElem? (i := 7) rfl)) rfl
theorem k_488 : (Cond.static ({ cls := "java/util/Arrays", name := "copyOf", desc := "([II)[I" } : MethodName)) ∈ lwg := lwg_of (pt_3 _ (List.mem_of_getElem? (i := 8) rfl)) rfl
theorem k_489 : (Cond.code ({ cls := "java/util/Arrays", name := "copyOf", desc := "([II)[I" } : MethodName) prog_34_method_123_code (3 : Nat) (Option.some (FieldType.array FieldType.int))) ∈ lwg := lwg_of (pt_3 _ (List.mem_of_getElem? (i := 9) rfl)) rfl
theorem k_496 : (Cond.classLink "java/util/Arrays" (317 : Nat) "[I") ∈ lwg := lwg_of (pt_3 _ (List.mem_of_getElem? (i := 16) rfl)) rfl
theorem k_497 : (Cond.methodLink "java/util/Arrays" (304 : Nat) ({ cls := "java/lang/Math", name := "min", desc := "(II)I" } : MethodName)) ∈ lwg := lwg_of (pt_3 _ (List.mem_of_getElem? (i := 17) rfl)) rfl
theorem k_498 : (Cond.static ({ cls := "java/lang/Math", name := "min", desc := "(II)I" } : MethodName)) ∈ lwg := lwg_of (pt_3 _ (List.mem_of_getElem? (i := 18) rfl)) rfl
theorem k_499 : (Cond.code ({ cls := "java/lang/Math", name := "min", desc := "(II)I" } : MethodName) prog_23_method_69_code (2 : Nat) (Option.some FieldType.int)) ∈ lwg := lwg_of (pt_3 _ (List.mem_of_getElem? (i := 19) rfl)) rfl
theorem k_500 : (Cond.methodLink "java/util/Arrays" (150 : Nat) ({ cls := "java/lang/System", name := "arraycopy", desc := "(Ljava/lang/Object;ILjava/lang/Object;II)V" } : MethodName)) ∈ lwg := lwg_of (pt_3 _ (List.mem_of_getElem? (i := 20) rfl)) rfl
theorem k_501 : (Cond.methodLink "LevelTables$Writer" (64 : Nat) ({ cls := "LevelTables$Table", name := "<init>", desc := "([IIJ)V" } : MethodName)) ∈ lwg := lwg_of (pt_3 _ (List.mem_of_getElem? (i := 21) rfl)) rfl
theorem k_502 : (Cond.instanceMethod ({ cls := "LevelTables$Table", name := "<init>", desc := "([IIJ)V" } : MethodName)) ∈ lwg := lwg_of (pt_3 _ (List.mem_of_getElem? (i := 22) rfl)) rfl
theorem k_503 : (Cond.code ({ cls := "LevelTables$Table", name := "<init>", desc := "([IIJ)V" } : MethodName) prog_6_method_1_code (5 : Nat) (Option.none : Option Jvm.ClassFile.FieldType)) ∈ lwg := lwg_of (pt_3 _ (List.mem_of_getElem? (i := 23) rfl)) rfl
theorem k_504 : (Cond.methodLink "LevelTables$Table" (3 : Nat) ({ cls := "java/lang/Object", name := "<init>", desc := "()V" } : MethodName)) ∈ lwg := lwg_of (pt_3 _ (List.mem_of_getElem? (i := 24) rfl)) rfl
theorem k_505 : (Cond.fieldLink "LevelTables$Table" (9 : Nat) "LevelTables$Table" "blocks" "[I") ∈ lwg := lwg_of (pt_3 _ (List.mem_of_getElem? (i := 25) rfl)) rfl
theorem k_506 : (Cond.fieldLink "LevelTables$Table" (15 : Nat) "LevelTables$Table" "count" "I") ∈ lwg := lwg_of (pt_3 _ (List.mem_of_getElem? (i := 26) rfl)) rfl
theorem k_507 : (Cond.fieldLink "LevelTables$Table" (19 : Nat) "LevelTables$Table" "sum" "J") ∈ lwg := lwg_of (pt_3 _ (List.mem_of_getElem? (i := 27) rfl)) rfl
theorem k_508 : (Cond.fieldLink "LevelTables$Table" (23 : Nat) "LevelTables$Table" "start" "I") ∈ lwg := lwg_of (pt_3 _ (List.mem_of_getElem? (i := 28) rfl)) rfl
theorem k_509 : (Cond.laysFinal "LevelTables$Table" "LevelTables$Table" "blocks" "[I") ∈ lwg := lwg_of (pt_3 _ (List.mem_of_getElem? (i := 29) rfl)) rfl
theorem k_511 : (Cond.laysFinal "LevelTables$Table" "LevelTables$Table" "count" "I") ∈ lwg := lwg_of (pt_3 _ (List.mem_of_getElem? (i := 31) rfl)) rfl
theorem k_513 : (Cond.laysFinal "LevelTables$Table" "LevelTables$Table" "sum" "J") ∈ lwg := lwg_of (pt_3 _ (List.mem_of_getElem? (i := 33) rfl)) rfl
theorem k_515 : (Cond.lays "LevelTables$Table" "LevelTables$Table" "start" "I") ∈ lwg := lwg_of (pt_3 _ (List.mem_of_getElem? (i := 35) rfl)) rfl
theorem k_518 : (Cond.methodLink "LevelTables$Writer" (67 : Nat) ({ cls := "java/util/ArrayList", name := "add", desc := "(Ljava/lang/Object;)Z" } : MethodName)) ∈ lwg := lwg_of (pt_3 _ (List.mem_of_getElem? (i := 38) rfl)) rfl
theorem k_519 : (Cond.instanceMethod ({ cls := "java/util/ArrayList", name := "add", desc := "(Ljava/lang/Object;)Z" } : MethodName)) ∈ lwg := lwg_of (pt_3 _ (List.mem_of_getElem? (i := 39) rfl)) rfl
theorem k_520 : (Cond.selects "java/util/ArrayList" ({ cls := "java/util/ArrayList", name := "add", desc := "(Ljava/lang/Object;)Z" } : MethodName) ({ cls := "java/util/ArrayList", name := "add", desc := "(Ljava/lang/Object;)Z" } : MethodName)) ∈ lwg := lwg_of (pt_3 _ (List.mem_of_getElem? (i := 40) rfl)) rfl
theorem k_521 : (Cond.code ({ cls := "java/util/ArrayList", name := "add", desc := "(Ljava/lang/Object;)Z" } : MethodName) prog_33_method_25_code (2 : Nat) (Option.some FieldType.boolean)) ∈ lwg := lwg_of (pt_3 _ (List.mem_of_getElem? (i := 41) rfl)) rfl
theorem k_522 : (Cond.methodLink "java/util/ArrayList" (131 : Nat) ({ cls := "java/util/ArrayList", name := "add", desc := "(Ljava/lang/Object;[Ljava/lang/Object;I)V" } : MethodName)) ∈ lwg := lwg_of (pt_3 _ (List.mem_of_getElem? (i := 42) rfl)) rfl
theorem k_524 : (Cond.instanceMethod ({ cls := "java/util/ArrayList", name := "add", desc := "(Ljava/lang/Object;[Ljava/lang/Object;I)V" } : MethodName)) ∈ lwg := lwg_of (pt_3 _ (List.mem_of_getElem? (i := 44) rfl)) rfl
theorem k_525 : (Cond.code ({ cls := "java/util/ArrayList", name := "add", desc := "(Ljava/lang/Object;[Ljava/lang/Object;I)V" } : MethodName) prog_33_method_24_code (4 : Nat) (Option.none : Option Jvm.ClassFile.FieldType)) ∈ lwg := lwg_of (pt_3 _ (List.mem_of_getElem? (i := 45) rfl)) rfl
theorem k_526 : (Cond.methodLink "java/util/ArrayList" (129 : Nat) ({ cls := "java/util/ArrayList", name := "grow", desc := "()[Ljava/lang/Object;" } : MethodName)) ∈ lwg := lwg_of (pt_3 _ (List.mem_of_getElem? (i := 46) rfl)) rfl
theorem k_528 : (Cond.instanceMethod ({ cls := "java/util/ArrayList", name := "grow", desc := "()[Ljava/lang/Object;" } : MethodName)) ∈ lwg := lwg_of (pt_3 _ (List.mem_of_getElem? (i := 48) rfl)) rfl
theorem k_529 : (Cond.code ({ cls := "java/util/ArrayList", name := "grow", desc := "()[Ljava/lang/Object;" } : MethodName) prog_33_method_7_code (1 : Nat) (Option.some (FieldType.array (FieldType.object "java/lang/Object")))) ∈ lwg := lwg_of (pt_3 _ (List.mem_of_getElem? (i := 49) rfl)) rfl
theorem k_530 : (Cond.methodLink "java/util/ArrayList" (69 : Nat) ({ cls := "java/util/ArrayList", name := "grow", desc := "(I)[Ljava/lang/Object;" } : MethodName)) ∈ lwg := lwg_of (pt_3 _ (List.mem_of_getElem? (i := 50) rfl)) rfl
theorem k_532 : (Cond.instanceMethod ({ cls := "java/util/ArrayList", name := "grow", desc := "(I)[Ljava/lang/Object;" } : MethodName)) ∈ lwg := lwg_of (pt_3 _ (List.mem_of_getElem? (i := 52) rfl)) rfl
theorem k_533 : (Cond.code ({ cls := "java/util/ArrayList", name := "grow", desc := "(I)[Ljava/lang/Object;" } : MethodName) prog_33_method_6_code (4 : Nat) (Option.some (FieldType.array (FieldType.object "java/lang/Object")))) ∈ lwg := lwg_of (pt_3 _ (List.mem_of_getElem? (i := 53) rfl)) rfl
theorem k_534 : (Cond.methodLink "java/util/ArrayList" (73 : Nat) ({ cls := "jdk/internal/util/ArraysSupport", name := "newLength", desc := "(III)I" } : MethodName)) ∈ lwg := lwg_of (pt_3 _ (List.mem_of_getElem? (i := 54) rfl)) rfl
theorem k_535 : (Cond.static ({ cls := "jdk/internal/util/ArraysSupport", name := "newLength", desc := "(III)I" } : MethodName)) ∈ lwg := lwg_of (pt_3 _ (List.mem_of_getElem? (i := 55) rfl)) rfl
theorem k_536 : (Cond.code ({ cls := "jdk/internal/util/ArraysSupport", name := "newLength", desc := "(III)I" } : MethodName) prog_41_method_27_code (4 : Nat) (Option.some FieldType.int)) ∈ lwg := lwg_of (pt_3 _ (List.mem_of_getElem? (i := 56) rfl)) rfl
theorem k_537 : (Cond.methodLink "jdk/internal/util/ArraysSupport" (194 : Nat) ({ cls := "java/lang/Math", name := "max", desc := "(II)I" } : MethodName)) ∈ lwg := lwg_of (pt_3 _ (List.mem_of_getElem? (i := 57) rfl)) rfl
theorem k_538 : (Cond.static ({ cls := "java/lang/Math", name := "max", desc := "(II)I" } : MethodName)) ∈ lwg := lwg_of (pt_3 _ (List.mem_of_getElem? (i := 58) rfl)) rfl
theorem k_539 : (Cond.code ({ cls := "java/lang/Math", name := "max", desc := "(II)I" } : MethodName) prog_23_method_65_code (2 : Nat) (Option.some FieldType.int)) ∈ lwg := lwg_of (pt_3 _ (List.mem_of_getElem? (i := 59) rfl)) rfl
theorem k_540 : (Cond.constant "jdk/internal/util/ArraysSupport" (200 : Nat) (2147483639 : Int32)) ∈ lwg := lwg_of (pt_3 _ (List.mem_of_getElem? (i := 60) rfl)) rfl
theorem k_541 : (Cond.methodLink "jdk/internal/util/ArraysSupport" (201 : Nat) ({ cls := "jdk/internal/util/ArraysSupport", name := "hugeLength", desc := "(II)I" } : MethodName)) ∈ lwg := lwg_of (pt_3 _ (List.mem_of_getElem? (i := 61) rfl)) rfl
theorem k_542 : (Cond.static ({ cls := "jdk/internal/util/ArraysSupport", name := "hugeLength", desc := "(II)I" } : MethodName)) ∈ lwg := lwg_of (pt_3 _ (List.mem_of_getElem? (i := 62) rfl)) rfl
theorem k_543 : (Cond.code ({ cls := "jdk/internal/util/ArraysSupport", name := "hugeLength", desc := "(II)I" } : MethodName) prog_41_method_28_code (3 : Nat) (Option.some FieldType.int)) ∈ lwg := lwg_of (pt_3 _ (List.mem_of_getElem? (i := 63) rfl)) rfl
theorem k_544 : (Cond.methodLink "java/util/ArrayList" (66 : Nat) ({ cls := "java/util/Arrays", name := "copyOf", desc := "([Ljava/lang/Object;I)[Ljava/lang/Object;" } : MethodName)) ∈ lwg := lwg_of (pt_3 _ (List.mem_of_getElem? (i := 64) rfl)) rfl
theorem k_545 : (Cond.static ({ cls := "java/util/Arrays", name := "copyOf", desc := "([Ljava/lang/Object;I)[Ljava/lang/Object;" } : MethodName)) ∈ lwg := lwg_of (pt_3 _ (List.mem_of_getElem? (i := 65) rfl)) rfl
theorem k_546 : (Cond.code ({ cls := "java/util/Arrays", name := "copyOf", desc := "([Ljava/lang/Object;I)[Ljava/lang/Object;" } : MethodName) prog_34_method_119_code (2 : Nat) (Option.some (FieldType.array (FieldType.object "java/lang/Object")))) ∈ lwg := lwg_of (pt_3 _ (List.mem_of_getElem? (i := 66) rfl)) rfl
theorem k_547 : (Cond.methodLink "java/util/Arrays" (86 : Nat) ({ cls := "java/lang/Object", name := "getClass", desc := "()Ljava/lang/Class;" } : MethodName)) ∈ lwg := lwg_of (pt_3 _ (List.mem_of_getElem? (i := 67) rfl)) rfl
theorem k_548 : (Cond.instanceMethod ({ cls := "java/lang/Object", name := "getClass", desc := "()Ljava/lang/Class;" } : MethodName)) ∈ lwg := lwg_of (pt_3 _ (List.mem_of_getElem? (i := 68) rfl)) rfl
theorem k_568 : (Cond.native ({ cls := "java/lang/Object", name := "getClass", desc := "()Ljava/lang/Class;" } : MethodName)) ∈ lwg := lwg_of (pt_3 _ (List.mem_of_getElem? (i := 88) rfl)) rfl
theorem k_569 : (Cond.methodLink "java/util/Arrays" (300 : Nat) ({ cls := "java/util/Arrays", name := "copyOf", desc := "([Ljava/lang/Object;ILjava/lang/Class;)[Ljava/lang/Object;" } : MethodName)) ∈ lwg := lwg_of (pt_3 _ (List.mem_of_getElem? (i := 89) rfl)) rfl
theorem k_570 : (Cond.static ({ cls := "java/util/Arrays", name := "copyOf", desc := "([Ljava/lang/Object;ILjava/lang/Class;)[Ljava/lang/Object;" } : MethodName)) ∈ lwg := lwg_of (pt_3 _ (List.mem_of_getElem? (i := 90) rfl)) rfl
theorem k_571 : (Cond.code ({ cls := "java/util/Arrays", name := "copyOf", desc := "([Ljava/lang/Object;ILjava/lang/Class;)[Ljava/lang/Object;" } : MethodName) prog_34_method_120_code (4 : Nat) (Option.some (FieldType.array (FieldType.object "java/lang/Object")))) ∈ lwg := lwg_of (pt_3 _ (List.mem_of_getElem? (i := 91) rfl)) rfl
theorem k_572 : (Cond.classLink "java/util/Arrays" (110 : Nat) "[Ljava/lang/Object;") ∈ lwg := lwg_of (pt_3 _ (List.mem_of_getElem? (i := 92) rfl)) rfl
theorem k_574 : (Cond.classLink "java/util/Arrays" (2 : Nat) "java/lang/Object") ∈ lwg := lwg_of (pt_3 _ (List.mem_of_getElem? (i := 94) rfl)) rfl
theorem k_575 : (Cond.methodLink "java/util/ArrayList" (79 : Nat) ({ cls := "java/lang/Math", name := "max", desc := "(II)I" } : MethodName)) ∈ lwg := lwg_of (pt_3 _ (List.mem_of_getElem? (i := 95) rfl)) rfl
theorem k_576 : (Cond.classLink "java/util/ArrayList" (7 : Nat) "java/lang/Object") ∈ lwg := lwg_of (pt_3 _ (List.mem_of_getElem? (i := 96) rfl)) rfl
theorem k_577 : (Cond.methodLink "LevelTables$Writer" (36 : Nat) ({ cls := "LevelTables$Chip", name := "take", desc := "()I" } : MethodName)) ∈ lwg := lwg_of (pt_3 _ (List.mem_of_getElem? (i := 97) rfl)) rfl
theorem k_578 : (Cond.instanceMethod ({ cls := "LevelTables$Chip", name := "take", desc := "()I" } : MethodName)) ∈ lwg := lwg_of (pt_3 _ (List.mem_of_getElem? (i := 98) rfl)) rfl
theorem k_579 : (Cond.selects "LevelTables$Chip" ({ cls := "LevelTables$Chip", name := "take", desc := "()I" } : MethodName) ({ cls := "LevelTables$Chip", name := "take", desc := "()I" } : MethodName)) ∈ lwg := lwg_of (pt_3 _ (List.mem_of_getElem? (i := 99) rfl)) rfl
theorem k_580 : (Cond.code ({ cls := "LevelTables$Chip", name := "take", desc := "()I" } : MethodName) prog_2_method_3_code (2 : Nat) (Option.some FieldType.int)) ∈ lwg := lwg_of (pt_3 _ (List.mem_of_getElem? (i := 100) rfl)) rfl
theorem k_581 : (Cond.methodLink "LevelTables$Chip" (31 : Nat) ({ cls := "LevelTables$Chip", name := "erase", desc := "(I)V" } : MethodName)) ∈ lwg := lwg_of (pt_3 _ (List.mem_of_getElem? (i := 101) rfl)) rfl
theorem k_583 : (Cond.instanceMethod ({ cls := "LevelTables$Chip", name := "erase", desc := "(I)V" } : MethodName)) ∈ lwg := lwg_of (pt_3 _ (List.mem_of_getElem? (i := 103) rfl)) rfl
theorem k_584 : (Cond.code ({ cls := "LevelTables$Chip", name := "erase", desc := "(I)V" } : MethodName) prog_2_method_4_code (2 : Nat) (Option.none : Option Jvm.ClassFile.FieldType)) ∈ lwg := lwg_of (pt_3 _ (List.mem_of_getElem? (i := 104) rfl)) rfl
theorem k_585 : (Cond.constantLong "LevelTables$Chip" (35 : Nat) (-1 : Int64)) ∈ lwg := lwg_of (pt_3 _ (List.mem_of_getElem? (i := 105) rfl)) rfl
theorem k_586 : (Cond.methodLink "LevelTables$Chip" (37 : Nat) ({ cls := "java/util/Arrays", name := "fill", desc := "([JJ)V" } : MethodName)) ∈ lwg := lwg_of (pt_3 _ (List.mem_of_getElem? (i := 106) rfl)) rfl
theorem k_587 : (Cond.static ({ cls := "java/util/Arrays", name := "fill", desc := "([JJ)V" } : MethodName)) ∈ lwg := lwg_of (pt_3 _ (List.mem_of_getElem? (i := 107) rfl)) rfl
theorem k_588 : (Cond.code ({ cls := "java/util/Arrays", name := "fill", desc := "([JJ)V" } : MethodName) prog_34_method_101_code (5 : Nat) (Option.none : Option Jvm.ClassFile.FieldType)) ∈ lwg := lwg_of (pt_3 _ (List.mem_of_getElem? (i := 108) rfl)) rfl
theorem k_589 : (Cond.methodLink "LevelTables$Writer" (42 : Nat) ({ cls := "LevelTables$Chip", name := "write", desc := "(IILLevelTables$Version;)V" } : MethodName)) ∈ lwg := lwg_of (pt_3 _ (List.mem_of_getElem? (i := 109) rfl)) rfl
theorem k_590 : (Cond.instanceMethod ({ cls := "LevelTables$Chip", name := "write", desc := "(IILLevelTables$Version;)V" } : MethodName)) ∈ lwg := lwg_of (pt_3 _ (List.mem_of_getElem? (i := 110) rfl)) rfl
theorem k_591 : (Cond.selects "LevelTables$Chip" ({ cls := "LevelTables$Chip", name := "write", desc := "(IILLevelTables$Version;)V" } : MethodName) ({ cls := "LevelTables$Chip", name := "write", desc := "(IILLevelTables$Version;)V" } : MethodName)) ∈ lwg := lwg_of (pt_3 _ (List.mem_of_getElem? (i := 111) rfl)) rfl
theorem k_592 : (Cond.code ({ cls := "LevelTables$Chip", name := "write", desc := "(IILLevelTables$Version;)V" } : MethodName) prog_2_method_6_code (4 : Nat) (Option.none : Option Jvm.ClassFile.FieldType)) ∈ lwg := lwg_of (pt_3 _ (List.mem_of_getElem? (i := 112) rfl)) rfl
theorem k_593 : (Cond.methodLink "LevelTables$Writer" (50 : Nat) ({ cls := "LevelTables$Version", name := "addTo", desc := "(J)J" } : MethodName)) ∈ lwg := lwg_of (pt_3 _ (List.mem_of_getElem? (i := 113) rfl)) rfl
theorem k_594 : (Cond.instanceMethod ({ cls := "LevelTables$Version", name := "addTo", desc := "(J)J" } : MethodName)) ∈ lwg := lwg_of (pt_3 _ (List.mem_of_getElem? (i := 114) rfl)) rfl
theorem k_595 : (Cond.selects "LevelTables$Version" ({ cls := "LevelTables$Version", name := "addTo", desc := "(J)J" } : MethodName) ({ cls := "LevelTables$Version", name := "addTo", desc := "(J)J" } : MethodName)) ∈ lwg := lwg_of (pt_3 _ (List.mem_of_getElem? (i := 115) rfl)) rfl
theorem k_596 : (Cond.code ({ cls := "LevelTables$Version", name := "addTo", desc := "(J)J" } : MethodName) prog_8_method_16_code (6 : Nat) (Option.some FieldType.long)) ∈ lwg := lwg_of (pt_3 _ (List.mem_of_getElem? (i := 116) rfl)) rfl
theorem k_597 : (Cond.constantLong "LevelTables$Version" (51 : Nat) (31 : Int64)) ∈ lwg := lwg_of (pt_3 _ (List.mem_of_getElem? (i := 117) rfl)) rfl
theorem k_598 : (Cond.methodLink "LevelTables" (293 : Nat) ({ cls := "LevelTables$Writer", name := "seal", desc := "()V" } : MethodName)) ∈ lwg := lwg_of (pt_3 _ (List.mem_of_getElem? (i := 118) rfl)) rfl
theorem k_599 : (Cond.methodLink "LevelTables" (263 : Nat) ({ cls := "LevelTables$Level", name := "remove", desc := "(II)V" } : MethodName)) ∈ lwg := lwg_of (pt_3 _ (List.mem_of_getElem? (i := 119) rfl)) rfl
theorem k_600 : (Cond.instanceMethod ({ cls := "LevelTables$Level", name := "remove", desc := "(II)V" } : MethodName)) ∈ lwg := lwg_of (pt_3 _ (List.mem_of_getElem? (i := 120) rfl)) rfl
theorem k_601 : (Cond.selects "LevelTables$Level" ({ cls := "LevelTables$Level", name := "remove", desc := "(II)V" } : MethodName) ({ cls := "LevelTables$Level", name := "remove", desc := "(II)V" } : MethodName)) ∈ lwg := lwg_of (pt_3 _ (List.mem_of_getElem? (i := 121) rfl)) rfl
theorem k_602 : (Cond.code ({ cls := "LevelTables$Level", name := "remove", desc := "(II)V" } : MethodName) prog_3_method_9_code (4 : Nat) (Option.none : Option Jvm.ClassFile.FieldType)) ∈ lwg := lwg_of (pt_3 _ (List.mem_of_getElem? (i := 122) rfl)) rfl
theorem k_603 : (Cond.methodLink "LevelTables$Level" (62 : Nat) ({ cls := "java/lang/Math", name := "min", desc := "(II)I" } : MethodName)) ∈ lwg := lwg_of (pt_3 _ (List.mem_of_getElem? (i := 123) rfl)) rfl
theorem k_604 : (Cond.methodLink "LevelTables$Level" (68 : Nat) ({ cls := "LevelTables$Table", name := "release", desc := "(LLevelTables$Chip;)V" } : MethodName)) ∈ lwg := lwg_of (pt_3 _ (List.mem_of_getElem? (i := 124) rfl)) rfl
theorem k_605 : (Cond.instanceMethod ({ cls := "LevelTables$Table", name := "release", desc := "(LLevelTables$Chip;)V" } : MethodName)) ∈ lwg := lwg_of (pt_3 _ (List.mem_of_getElem? (i := 125) rfl)) rfl
theorem k_606 : (Cond.selects "LevelTables$Table" ({ cls := "LevelTables$Table", name := "release", desc := "(LLevelTables$Chip;)V" } : MethodName) ({ cls := "LevelTables$Table", name := "release", desc := "(LLevelTables$Chip;)V" } : MethodName)) ∈ lwg := lwg_of (pt_3 _ (List.mem_of_getElem? (i := 126) rfl)) rfl
theorem k_607 : (Cond.code ({ cls := "LevelTables$Table", name := "release", desc := "(LLevelTables$Chip;)V" } : MethodName) prog_6_method_7_code (6 : Nat) (Option.none : Option Jvm.ClassFile.FieldType)) ∈ lwg := lwg_of (pt_3 _ (List.mem_of_getElem? (i := 127) rfl)) rfl
theorem k_608 : (Cond.methodLink "LevelTables$Table" (26 : Nat) ({ cls := "LevelTables$Chip", name := "release", desc := "(I)V" } : MethodName)) ∈ lwg := lwg_of (pt_3 _ (List.mem_of_getElem? (i := 128) rfl)) rfl
theorem k_609 : (Cond.instanceMethod ({ cls := "LevelTables$Chip", name := "release", desc := "(I)V" } : MethodName)) ∈ lwg := lwg_of (pt_3 _ (List.mem_of_getElem? (i := 129) rfl)) rfl
theorem k_610 : (Cond.selects "LevelTables$Chip" ({ cls := "LevelTables$Chip", name := "release", desc := "(I)V" } : MethodName) ({ cls := "LevelTables$Chip", name := "release", desc := "(I)V" } : MethodName)) ∈ lwg := lwg_of (pt_3 _ (List.mem_of_getElem? (i := 130) rfl)) rfl
theorem k_611 : (Cond.code ({ cls := "LevelTables$Chip", name := "release", desc := "(I)V" } : MethodName) prog_2_method_5_code (2 : Nat) (Option.none : Option Jvm.ClassFile.FieldType)) ∈ lwg := lwg_of (pt_3 _ (List.mem_of_getElem? (i := 131) rfl)) rfl
theorem k_612 : (Cond.methodLink "LevelTables$Level" (72 : Nat) ({ cls := "java/util/ArrayList", name := "remove", desc := "(I)Ljava/lang/Object;" } : MethodName)) ∈ lwg := lwg_of (pt_3 _ (List.mem_of_getElem? (i := 132) rfl)) rfl
theorem k_613 : (Cond.instanceMethod ({ cls := "java/util/ArrayList", name := "remove", desc := "(I)Ljava/lang/Object;" } : MethodName)) ∈ lwg := lwg_of (pt_3 _ (List.mem_of_getElem? (i := 133) rfl)) rfl
theorem k_614 : (Cond.selects "java/util/ArrayList" ({ cls := "java/util/ArrayList", name := "remove", desc := "(I)Ljava/lang/Object;" } : MethodName) ({ cls := "java/util/ArrayList", name := "remove", desc := "(I)Ljava/lang/Object;" } : MethodName)) ∈ lwg := lwg_of (pt_3 _ (List.mem_of_getElem? (i := 134) rfl)) rfl
theorem k_615 : (Cond.code ({ cls := "java/util/ArrayList", name := "remove", desc := "(I)Ljava/lang/Object;" } : MethodName) prog_33_method_29_code (4 : Nat) (Option.some (FieldType.object "java/lang/Object"))) ∈ lwg := lwg_of (pt_3 _ (List.mem_of_getElem? (i := 135) rfl)) rfl
theorem k_616 : (Cond.methodLink "java/util/ArrayList" (144 : Nat) ({ cls := "java/util/ArrayList", name := "fastRemove", desc := "([Ljava/lang/Object;I)V" } : MethodName)) ∈ lwg := lwg_of (pt_3 _ (List.mem_of_getElem? (i := 136) rfl)) rfl
theorem k_618 : (Cond.instanceMethod ({ cls := "java/util/ArrayList", name := "fastRemove", desc := "([Ljava/lang/Object;I)V" } : MethodName)) ∈ lwg := lwg_of (pt_3 _ (List.mem_of_getElem? (i := 138) rfl)) rfl
theorem k_619 : (Cond.code ({ cls := "java/util/ArrayList", name := "fastRemove", desc := "([Ljava/lang/Object;I)V" } : MethodName) prog_33_method_39_code (4 : Nat) (Option.none : Option Jvm.ClassFile.FieldType)) ∈ lwg := lwg_of (pt_3 _ (List.mem_of_getElem? (i := 139) rfl)) rfl
theorem k_620 : (Cond.methodLink "java/util/ArrayList" (112 : Nat) ({ cls := "java/lang/System", name := "arraycopy", desc := "(Ljava/lang/Object;ILjava/lang/Object;II)V" } : MethodName)) ∈ lwg := lwg_of (pt_3 _ (List.mem_of_getElem? (i := 140) rfl)) rfl
theorem k_621 : (Cond.methodLink "LevelTables$Level" (75 : Nat) ({ cls := "LevelTables$Level", name := "renumber", desc := "()V" } : MethodName)) ∈ lwg := lwg_of (pt_3 _ (List.mem_of_getElem? (i := 141) rfl)) rfl
theorem k_623 : (Cond.instanceMethod ({ cls := "LevelTables$Level", name := "renumber", desc := "()V" } : MethodName)) ∈ lwg := lwg_of (pt_3 _ (List.mem_of_getElem? (i := 143) rfl)) rfl
theorem k_624 : (Cond.code ({ cls := "LevelTables$Level", name := "renumber", desc := "()V" } : MethodName) prog_3_method_11_code (2 : Nat) (Option.none : Option Jvm.ClassFile.FieldType)) ∈ lwg := lwg_of (pt_3 _ (List.mem_of_getElem? (i := 144) rfl)) rfl
theorem k_625 : (Cond.methodLink "LevelTables$Level" (82 : Nat) ({ cls := "LevelTables$Table", name := "setStart", desc := "(I)V" } : MethodName)) ∈ lwg := lwg_of (pt_3 _ (List.mem_of_getElem? (i := 145) rfl)) rfl
theorem k_626 : (Cond.instanceMethod ({ cls := "LevelTables$Table", name := "setStart", desc := "(I)V" } : MethodName)) ∈ lwg := lwg_of (pt_3 _ (List.mem_of_getElem? (i := 146) rfl)) rfl
theorem k_627 : (Cond.selects "LevelTables$Table" ({ cls := "LevelTables$Table", name := "setStart", desc := "(I)V" } : MethodName) ({ cls := "LevelTables$Table", name := "setStart", desc := "(I)V" } : MethodName)) ∈ lwg := lwg_of (pt_3 _ (List.mem_of_getElem? (i := 147) rfl)) rfl
theorem k_628 : (Cond.code ({ cls := "LevelTables$Table", name := "setStart", desc := "(I)V" } : MethodName) prog_6_method_5_code (2 : Nat) (Option.none : Option Jvm.ClassFile.FieldType)) ∈ lwg := lwg_of (pt_3 _ (List.mem_of_getElem? (i := 148) rfl)) rfl
theorem k_629 : (Cond.methodLink "LevelTables$Level" (85 : Nat) ({ cls := "LevelTables$Table", name := "count", desc := "()I" } : MethodName)) ∈ lwg := lwg_of (pt_3 _ (List.mem_of_getElem? (i := 149) rfl)) rfl
theorem k_630 : (Cond.instanceMethod ({ cls := "LevelTables$Table", name := "count", desc := "()I" } : MethodName)) ∈ lwg := lwg_of (pt_3 _ (List.mem_of_getElem? (i := 150) rfl)) rfl
theorem k_631 : (Cond.selects "LevelTables$Table" ({ cls := "LevelTables$Table", name := "count", desc := "()I" } : MethodName) ({ cls := "LevelTables$Table", name := "count", desc := "()I" } : MethodName)) ∈ lwg := lwg_of (pt_3 _ (List.mem_of_getElem? (i := 151) rfl)) rfl
theorem k_632 : (Cond.code ({ cls := "LevelTables$Table", name := "count", desc := "()I" } : MethodName) prog_6_method_2_code (1 : Nat) (Option.some FieldType.int)) ∈ lwg := lwg_of (pt_3 _ (List.mem_of_getElem? (i := 152) rfl)) rfl
theorem k_633 : (Cond.methodLink "LevelTables" (267 : Nat) ({ cls := "LevelTables$Writer", name := "tables", desc := "()Ljava/util/ArrayList;" } : MethodName)) ∈ lwg := lwg_of (pt_3 _ (List.mem_of_getElem? (i := 153) rfl)) rfl
theorem k_634 : (Cond.instanceMethod ({ cls := "LevelTables$Writer", name := "tables", desc := "()Ljava/util/ArrayList;" } : MethodName)) ∈ lwg := lwg_of (pt_3 _ (List.mem_of_getElem? (i := 154) rfl)) rfl
theorem k_635 : (Cond.selects "LevelTables$Writer" ({ cls := "LevelTables$Writer", name := "tables", desc := "()Ljava/util/ArrayList;" } : MethodName) ({ cls := "LevelTables$Writer", name := "tables", desc := "()Ljava/util/ArrayList;" } : MethodName)) ∈ lwg := lwg_of (pt_3 _ (List.mem_of_getElem? (i := 155) rfl)) rfl
theorem k_636 : (Cond.code ({ cls := "LevelTables$Writer", name := "tables", desc := "()Ljava/util/ArrayList;" } : MethodName) prog_11_method_2_code (1 : Nat) (Option.some (FieldType.object "java/util/ArrayList"))) ∈ lwg := lwg_of (pt_3 _ (List.mem_of_getElem? (i := 156) rfl)) rfl
theorem k_637 : (Cond.methodLink "LevelTables" (271 : Nat) ({ cls := "LevelTables$Level", name := "insert", desc := "(ILjava/util/ArrayList;)V" } : MethodName)) ∈ lwg := lwg_of (pt_3 _ (List.mem_of_getElem? (i := 157) rfl)) rfl
theorem k_638 : (Cond.instanceMethod ({ cls := "LevelTables$Level", name := "insert", desc := "(ILjava/util/ArrayList;)V" } : MethodName)) ∈ lwg := lwg_of (pt_3 _ (List.mem_of_getElem? (i := 158) rfl)) rfl
theorem k_639 : (Cond.selects "LevelTables$Level" ({ cls := "LevelTables$Level", name := "insert", desc := "(ILjava/util/ArrayList;)V" } : MethodName) ({ cls := "LevelTables$Level", name := "insert", desc := "(ILjava/util/ArrayList;)V" } : MethodName)) ∈ lwg := lwg_of (pt_3 _ (List.mem_of_getElem? (i := 159) rfl)) rfl
theorem k_640 : (Cond.code ({ cls := "LevelTables$Level", name := "insert", desc := "(ILjava/util/ArrayList;)V" } : MethodName) prog_3_method_10_code (4 : Nat) (Option.none : Option Jvm.ClassFile.FieldType)) ∈ lwg := lwg_of (pt_3 _ (List.mem_of_getElem? (i := 160) rfl)) rfl
theorem k_641 : (Cond.methodLink "LevelTables$Level" (78 : Nat) ({ cls := "java/util/ArrayList", name := "add", desc := "(ILjava/lang/Object;)V" } : MethodName)) ∈ lwg := lwg_of (pt_3 _ (List.mem_of_getElem? (i := 161) rfl)) rfl
theorem k_642 : (Cond.instanceMethod ({ cls := "java/util/ArrayList", name := "add", desc := "(ILjava/lang/Object;)V" } : MethodName)) ∈ lwg := lwg_of (pt_3 _ (List.mem_of_getElem? (i := 162) rfl)) rfl
theorem k_643 : (Cond.selects "java/util/ArrayList" ({ cls := "java/util/ArrayList", name := "add", desc := "(ILjava/lang/Object;)V" } : MethodName) ({ cls := "java/util/ArrayList", name := "add", desc := "(ILjava/lang/Object;)V" } : MethodName)) ∈ lwg := lwg_of (pt_3 _ (List.mem_of_getElem? (i := 163) rfl)) rfl
theorem k_644 : (Cond.code ({ cls := "java/util/ArrayList", name := "add", desc := "(ILjava/lang/Object;)V" } : MethodName) prog_33_method_26_code (5 : Nat) (Option.none : Option Jvm.ClassFile.FieldType)) ∈ lwg := lwg_of (pt_3 _ (List.mem_of_getElem? (i := 164) rfl)) rfl
theorem k_645 : (Cond.methodLink "java/util/ArrayList" (135 : Nat) ({ cls := "java/util/ArrayList", name := "rangeCheckForAdd", desc := "(I)V" } : MethodName)) ∈ lwg := lwg_of (pt_3 _ (List.mem_of_getElem? (i := 165) rfl)) rfl
theorem k_647 : (Cond.instanceMethod ({ cls := "java/util/ArrayList", name := "rangeCheckForAdd", desc := "(I)V" } : MethodName)) ∈ lwg := lwg_of (pt_3 _ (List.mem_of_getElem? (i := 167) rfl)) rfl
theorem k_648 : (Cond.code ({ cls := "java/util/ArrayList", name := "rangeCheckForAdd", desc := "(I)V" } : MethodName) prog_33_method_45_code (2 : Nat) (Option.none : Option Jvm.ClassFile.FieldType)) ∈ lwg := lwg_of (pt_3 _ (List.mem_of_getElem? (i := 168) rfl)) rfl
theorem k_650 : (Cond.instantiable "java/lang/IndexOutOfBoundsException" (6 : Nat)) ∈ lwg := lwg_of (pt_3 _ (List.mem_of_getElem? (i := 170) rfl)) rfl
theorem k_750 : (Cond.code ({ cls := "java/util/Arrays", name := "copyOf", desc := "([BI)[B" } : MethodName) prog_34_method_121_code (3 : Nat) (Option.some (FieldType.array FieldType.byte))) ∈ lwg := lwg_of (pt_4 _ (List.mem_of_getElem? (i := 30) rfl)) rfl
theorem k_755 : (Cond.classLink "java/util/Arrays" (311 : Nat) "[B") ∈ lwg := lwg_of (pt_4 _ (List.mem_of_getElem? (i := 35) rfl)) rfl
theorem k_893 : (Cond.instantiable "java/lang/IllegalArgumentException" (6 : Nat)) ∈ lwg := lwg_of (pt_4 _ (List.mem_of_getElem? (i := 173) rfl)) rfl
theorem k_962 : (Cond.methodLink "LevelTables" (274 : Nat) ({ cls := "LevelTables$Memory", name := "clear", desc := "()V" } : MethodName)) ∈ lwg := lwg_of (pt_5 _ (List.mem_of_getElem? (i := 2) rfl)) rfl
theorem k_963 : (Cond.instanceMethod ({ cls := "LevelTables$Memory", name := "clear", desc := "()V" } : MethodName)) ∈ lwg := lwg_of (pt_5 _ (List.mem_of_getElem? (i := 3) rfl)) rfl
theorem k_964 : (Cond.selects "LevelTables$Memory" ({ cls := "LevelTables$Memory", name := "clear", desc := "()V" } : MethodName) ({ cls := "LevelTables$Memory", name := "clear", desc := "()V" } : MethodName)) ∈ lwg := lwg_of (pt_5 _ (List.mem_of_getElem? (i := 4) rfl)) rfl
theorem k_965 : (Cond.code ({ cls := "LevelTables$Memory", name := "clear", desc := "()V" } : MethodName) prog_4_method_5_code (1 : Nat) (Option.none : Option Jvm.ClassFile.FieldType)) ∈ lwg := lwg_of (pt_5 _ (List.mem_of_getElem? (i := 5) rfl)) rfl
theorem k_966 : (Cond.methodLink "LevelTables" (176 : Nat) ({ cls := "LevelTables$Level", name := "tableCount", desc := "()I" } : MethodName)) ∈ lwg := lwg_of (pt_5 _ (List.mem_of_getElem? (i := 6) rfl)) rfl
theorem k_967 : (Cond.instanceMethod ({ cls := "LevelTables$Level", name := "tableCount", desc := "()I" } : MethodName)) ∈ lwg := lwg_of (pt_5 _ (List.mem_of_getElem? (i := 7) rfl)) rfl
theorem k_968 : (Cond.selects "LevelTables$Level" ({ cls := "LevelTables$Level", name := "tableCount", desc := "()I" } : MethodName) ({ cls := "LevelTables$Level", name := "tableCount", desc := "()I" } : MethodName)) ∈ lwg := lwg_of (pt_5 _ (List.mem_of_getElem? (i := 8) rfl)) rfl
theorem k_969 : (Cond.code ({ cls := "LevelTables$Level", name := "tableCount", desc := "()I" } : MethodName) prog_3_method_4_code (1 : Nat) (Option.some FieldType.int)) ∈ lwg := lwg_of (pt_5 _ (List.mem_of_getElem? (i := 9) rfl)) rfl
theorem k_970 : (Cond.fieldLink "LevelTables" (179 : Nat) "LevelTables" "ALLOWED" "[I") ∈ lwg := lwg_of (pt_5 _ (List.mem_of_getElem? (i := 10) rfl)) rfl
theorem k_972 : (Cond.methodLink "LevelTables" (183 : Nat) ({ cls := "LevelTables", name := "pushDown", desc := "(I)V" } : MethodName)) ∈ lwg := lwg_of (pt_5 _ (List.mem_of_getElem? (i := 12) rfl)) rfl
theorem k_974 : (Cond.instanceMethod ({ cls := "LevelTables", name := "pushDown", desc := "(I)V" } : MethodName)) ∈ lwg := lwg_of (pt_5 _ (List.mem_of_getElem? (i := 14) rfl)) rfl
theorem k_975 : (Cond.code ({ cls := "LevelTables", name := "pushDown", desc := "(I)V" } : MethodName) prog_1_method_21_code (7 : Nat) (Option.none : Option Jvm.ClassFile.FieldType)) ∈ lwg := lwg_of (pt_5 _ (List.mem_of_getElem? (i := 15) rfl)) rfl
theorem k_976 : (Cond.methodLink "LevelTables" (275 : Nat) ({ cls := "LevelTables$Level", name := "load", desc := "(ILLevelTables$Version;)V" } : MethodName)) ∈ lwg := lwg_of (pt_5 _ (List.mem_of_getElem? (i := 16) rfl)) rfl
theorem k_977 : (Cond.methodLink "LevelTablesLaw" (101 : Nat) ({ cls := "LevelTables", name := "merge", desc := "(Z)I" } : MethodName)) ∈ lwg := lwg_of (pt_5 _ (List.mem_of_getElem? (i := 17) rfl)) rfl
theorem k_978 : (Cond.instanceMethod ({ cls := "LevelTables", name := "merge", desc := "(Z)I" } : MethodName)) ∈ lwg := lwg_of (pt_5 _ (List.mem_of_getElem? (i := 18) rfl)) rfl
theorem k_979 : (Cond.selects "LevelTables" ({ cls := "LevelTables", name := "merge", desc := "(Z)I" } : MethodName) ({ cls := "LevelTables", name := "merge", desc := "(Z)I" } : MethodName)) ∈ lwg := lwg_of (pt_5 _ (List.mem_of_getElem? (i := 19) rfl)) rfl
theorem k_980 : (Cond.code ({ cls := "LevelTables", name := "merge", desc := "(Z)I" } : MethodName) prog_1_method_13_code (3 : Nat) (Option.some FieldType.int)) ∈ lwg := lwg_of (pt_5 _ (List.mem_of_getElem? (i := 20) rfl)) rfl
theorem k_981 : (Cond.methodLink "LevelTables" (190 : Nat) ({ cls := "LevelTables", name := "mergeAll", desc := "()V" } : MethodName)) ∈ lwg := lwg_of (pt_5 _ (List.mem_of_getElem? (i := 21) rfl)) rfl
theorem k_983 : (Cond.instanceMethod ({ cls := "LevelTables", name := "mergeAll", desc := "()V" } : MethodName)) ∈ lwg := lwg_of (pt_5 _ (List.mem_of_getElem? (i := 23) rfl)) rfl
theorem k_984 : (Cond.code ({ cls := "LevelTables", name := "mergeAll", desc := "()V" } : MethodName) prog_1_method_22_code (2 : Nat) (Option.none : Option Jvm.ClassFile.FieldType)) ∈ lwg := lwg_of (pt_5 _ (List.mem_of_getElem? (i := 24) rfl)) rfl
theorem k_985 : (Cond.methodLink "LevelTables" (276 : Nat) ({ cls := "LevelTables$Level", name := "count", desc := "()I" } : MethodName)) ∈ lwg := lwg_of (pt_5 _ (List.mem_of_getElem? (i := 25) rfl)) rfl
theorem k_986 : (Cond.methodLink "LevelTablesLaw" (106 : Nat) ({ cls := "LevelTables", name := "check", desc := "()I" } : MethodName)) ∈ lwg := lwg_of (pt_5 _ (List.mem_of_getElem? (i := 26) rfl)) rfl
theorem k_987 : (Cond.instanceMethod ({ cls := "LevelTables", name := "check", desc := "()I" } : MethodName)) ∈ lwg := lwg_of (pt_5 _ (List.mem_of_getElem? (i := 27) rfl)) rfl
theorem k_988 : (Cond.selects "LevelTables" ({ cls := "LevelTables", name := "check", desc := "()I" } : MethodName) ({ cls := "LevelTables", name := "check", desc := "()I" } : MethodName)) ∈ lwg := lwg_of (pt_5 _ (List.mem_of_getElem? (i := 28) rfl)) rfl
theorem k_989 : (Cond.code ({ cls := "LevelTables", name := "check", desc := "()I" } : MethodName) prog_1_method_14_code (1 : Nat) (Option.some FieldType.int)) ∈ lwg := lwg_of (pt_5 _ (List.mem_of_getElem? (i := 29) rfl)) rfl
theorem k_990 : (Cond.methodLink "LevelTables" (193 : Nat) ({ cls := "LevelTables", name := "isSound", desc := "()Z" } : MethodName)) ∈ lwg := lwg_of (pt_5 _ (List.mem_of_getElem? (i := 30) rfl)) rfl
theorem k_992 : (Cond.instanceMethod ({ cls := "LevelTables", name := "isSound", desc := "()Z" } : MethodName)) ∈ lwg := lwg_of (pt_5 _ (List.mem_of_getElem? (i := 32) rfl)) rfl
theorem k_993 : (Cond.code ({ cls := "LevelTables", name := "isSound", desc := "()Z" } : MethodName) prog_1_method_25_code (2 : Nat) (Option.some FieldType.boolean)) ∈ lwg := lwg_of (pt_5 _ (List.mem_of_getElem? (i := 33) rfl)) rfl
theorem k_994 : (Cond.methodLink "LevelTables" (296 : Nat) ({ cls := "LevelTables$Chip", name := "forgetUses", desc := "()V" } : MethodName)) ∈ lwg := lwg_of (pt_5 _ (List.mem_of_getElem? (i := 34) rfl)) rfl
theorem k_995 : (Cond.instanceMethod ({ cls := "LevelTables$Chip", name := "forgetUses", desc := "()V" } : MethodName)) ∈ lwg := lwg_of (pt_5 _ (List.mem_of_getElem? (i := 35) rfl)) rfl
theorem k_996 : (Cond.selects "LevelTables$Chip" ({ cls := "LevelTables$Chip", name := "forgetUses", desc := "()V" } : MethodName) ({ cls := "LevelTables$Chip", name := "forgetUses", desc := "()V" } : MethodName)) ∈ lwg := lwg_of (pt_5 _ (List.mem_of_getElem? (i := 36) rfl)) rfl
theorem k_997 : (Cond.code ({ cls := "LevelTables$Chip", name := "forgetUses", desc := "()V" } : MethodName) prog_2_method_9_code (1 : Nat) (Option.none : Option Jvm.ClassFile.FieldType)) ∈ lwg := lwg_of (pt_5 _ (List.mem_of_getElem? (i := 37) rfl)) rfl
theorem k_998 : (Cond.methodLink "LevelTables$Chip" (59 : Nat) ({ cls := "java/util/Arrays", name := "fill", desc := "([II)V" } : MethodName)) ∈ lwg := lwg_of (pt_5 _ (List.mem_of_getElem? (i := 38) rfl)) rfl
theorem k_999 : (Cond.methodLink "LevelTables" (299 : Nat) ({ cls := "LevelTables$Level", name := "isSound", desc := "(LLevelTables$Version;LLevelTables$Version;)Z" } : MethodName)) ∈ lwg := lwg_of (pt_5 _ (List.mem_of_getElem? (i := 39) rfl)) rfl
theorem k_1000 : (Cond.instanceMethod ({ cls := "LevelTables$Level", name := "isSound", desc := "(LLevelTables$Version;LLevelTables$Version;)Z" } : MethodName)) ∈ lwg := lwg_of (pt_5 _ (List.mem_of_getElem? (i := 40) rfl)) rfl
theorem k_1001 : (Cond.selects "LevelTables$Level" ({ cls := "LevelTables$Level", name := "isSound", desc := "(LLevelTables$Version;LLevelTables$Version;)Z" } : MethodName) ({ cls := "LevelTables$Level", name := "isSound", desc := "(LLevelTables$Version;LLevelTables$Version;)Z" } : MethodName)) ∈ lwg := lwg_of (pt_5 _ (List.mem_of_getElem? (i := 41) rfl)) rfl
theorem k_1002 : (Cond.code ({ cls := "LevelTables$Level", name := "isSound", desc := "(LLevelTables$Version;LLevelTables$Version;)Z" } : MethodName) prog_3_method_12_code (5 : Nat) (Option.some FieldType.boolean)) ∈ lwg := lwg_of (pt_5 _ (List.mem_of_getElem? (i := 42) rfl)) rfl
theorem k_1003 : (Cond.methodLink "LevelTables$Level" (87 : Nat) ({ cls := "LevelTables$Table", name := "usesItsBlocks", desc := "(LLevelTables$Chip;)Z" } : MethodName)) ∈ lwg := lwg_of (pt_5 _ (List.mem_of_getElem? (i := 43) rfl)) rfl
theorem k_1004 : (Cond.instanceMethod ({ cls := "LevelTables$Table", name := "usesItsBlocks", desc := "(LLevelTables$Chip;)Z" } : MethodName)) ∈ lwg := lwg_of (pt_5 _ (List.mem_of_getElem? (i := 44) rfl)) rfl
theorem k_1005 : (Cond.selects "LevelTables$Table" ({ cls := "LevelTables$Table", name := "usesItsBlocks", desc := "(LLevelTables$Chip;)Z" } : MethodName) ({ cls := "LevelTables$Table", name := "usesItsBlocks", desc := "(LLevelTables$Chip;)Z" } : MethodName)) ∈ lwg := lwg_of (pt_5 _ (List.mem_of_getElem? (i := 45) rfl)) rfl
theorem k_1006 : (Cond.code ({ cls := "LevelTables$Table", name := "usesItsBlocks", desc := "(LLevelTables$Chip;)Z" } : MethodName) prog_6_method_8_code (6 : Nat) (Option.some FieldType.boolean)) ∈ lwg := lwg_of (pt_5 _ (List.mem_of_getElem? (i := 46) rfl)) rfl
theorem k_1007 : (Cond.methodLink "LevelTables$Table" (32 : Nat) ({ cls := "LevelTables$Chip", name := "use", desc := "(I)Z" } : MethodName)) ∈ lwg := lwg_of (pt_5 _ (List.mem_of_getElem? (i := 47) rfl)) rfl
theorem k_1008 : (Cond.instanceMethod ({ cls := "LevelTables$Chip", name := "use", desc := "(I)Z" } : MethodName)) ∈ lwg := lwg_of (pt_5 _ (List.mem_of_getElem? (i := 48) rfl)) rfl
theorem k_1009 : (Cond.selects "LevelTables$Chip" ({ cls := "LevelTables$Chip", name := "use", desc := "(I)Z" } : MethodName) ({ cls := "LevelTables$Chip", name := "use", desc := "(I)Z" } : MethodName)) ∈ lwg := lwg_of (pt_5 _ (List.mem_of_getElem? (i := 49) rfl)) rfl
theorem k_1010 : (Cond.code ({ cls := "LevelTables$Chip", name := "use", desc := "(I)Z" } : MethodName) prog_2_method_10_code (2 : Nat) (Option.some FieldType.boolean)) ∈ lwg := lwg_of (pt_5 _ (List.mem_of_getElem? (i := 50) rfl)) rfl
theorem k_1011 : (Cond.methodLink "LevelTables$Level" (91 : Nat) ({ cls := "LevelTables$Level", name := "load", desc := "(ILLevelTables$Version;)V" } : MethodName)) ∈ lwg := lwg_of (pt_5 _ (List.mem_of_getElem? (i := 51) rfl)) rfl
theorem k_1012 : (Cond.methodLink "LevelTables$Level" (95 : Nat) ({ cls := "LevelTables$Version", name := "compareKey", desc := "(LLevelTables$Version;)I" } : MethodName)) ∈ lwg := lwg_of (pt_5 _ (List.mem_of_getElem? (i := 52) rfl)) rfl
theorem k_1013 : (Cond.methodLink "LevelTables$Level" (98 : Nat) ({ cls := "LevelTables$Level", name := "isWhole", desc := "(LLevelTables$Table;LLevelTables$Version;LLevelTables$Version;)Z" } : MethodName)) ∈ lwg := lwg_of (pt_5 _ (List.mem_of_getElem? (i := 53) rfl)) rfl
theorem k_1015 : (Cond.instanceMethod ({ cls := "LevelTables$Level", name := "isWhole", desc := "(LLevelTables$Table;LLevelTables$Version;LLevelTables$Version;)Z" } : MethodName)) ∈ lwg := lwg_of (pt_5 _ (List.mem_of_getElem? (i := 55) rfl)) rfl
theorem k_1016 : (Cond.code ({ cls := "LevelTables$Level", name := "isWhole", desc := "(LLevelTables$Table;LLevelTables$Version;LLevelTables$Version;)Z" } : MethodName) prog_3_method_13_code (7 : Nat) (Option.some FieldType.boolean)) ∈ lwg := lwg_of (pt_5 _ (List.mem_of_getElem? (i := 56) rfl)) rfl
theorem k_1017 : (Cond.methodLink "LevelTables$Level" (102 : Nat) ({ cls := "LevelTables$Version", name := "isBefore", desc := "(LLevelTables$Version;)Z" } : MethodName)) ∈ lwg := lwg_of (pt_5 _ (List.mem_of_getElem? (i := 57) rfl)) rfl
theorem k_1018 : (Cond.methodLink "LevelTables$Level" (106 : Nat) ({ cls := "LevelTables$Version", name := "addTo", desc := "(J)J" } : MethodName)) ∈ lwg := lwg_of (pt_5 _ (List.mem_of_getElem? (i := 58) rfl)) rfl
theorem k_1019 : (Cond.methodLink "LevelTables$Level" (110 : Nat) ({ cls := "LevelTables$Version", name := "copy", desc := "(LLevelTables$Version;)V" } : MethodName)) ∈ lwg := lwg_of (pt_5 _ (List.mem_of_getElem? (i := 59) rfl)) rfl
theorem k_1020 : (Cond.methodLink "LevelTables$Level" (114 : Nat) ({ cls := "LevelTables$Table", name := "sum", desc := "()J" } : MethodName)) ∈ lwg := lwg_of (pt_5 _ (List.mem_of_getElem? (i := 60) rfl)) rfl
theorem k_1021 : (Cond.instanceMethod ({ cls := "LevelTables$Table", name := "sum", desc := "()J" } : MethodName)) ∈ lwg := lwg_of (pt_5 _ (List.mem_of_getElem? (i := 61) rfl)) rfl
theorem k_1022 : (Cond.selects "LevelTables$Table" ({ cls := "LevelTables$Table", name := "sum", desc := "()J" } : MethodName) ({ cls := "LevelTables$Table", name := "sum", desc := "()J" } : MethodName)) ∈ lwg := lwg_of (pt_5 _ (List.mem_of_getElem? (i := 62) rfl)) rfl
theorem k_1023 : (Cond.code ({ cls := "LevelTables$Table", name := "sum", desc := "()J" } : MethodName) prog_6_method_3_code (1 : Nat) (Option.some FieldType.long)) ∈ lwg := lwg_of (pt_5 _ (List.mem_of_getElem? (i := 63) rfl)) rfl
theorem k_1024 : (Cond.methodLink "LevelTables" (302 : Nat) ({ cls := "LevelTables$Chip", name := "isMisused", desc := "()Z" } : MethodName)) ∈ lwg := lwg_of (pt_5 _ (List.mem_of_getElem? (i := 64) rfl)) rfl
theorem k_1025 : (Cond.instanceMethod ({ cls := "LevelTables$Chip", name := "isMisused", desc := "()Z" } : MethodName)) ∈ lwg := lwg_of (pt_5 _ (List.mem_of_getElem? (i := 65) rfl)) rfl
theorem k_1026 : (Cond.selects "LevelTables$Chip" ({ cls := "LevelTables$Chip", name := "isMisused", desc := "()Z" } : MethodName) ({ cls := "LevelTables$Chip", name := "isMisused", desc := "()Z" } : MethodName)) ∈ lwg := lwg_of (pt_5 _ (List.mem_of_getElem? (i := 66) rfl)) rfl
theorem k_1027 : (Cond.code ({ cls := "LevelTables$Chip", name := "isMisused", desc := "()Z" } : MethodName) prog_2_method_2_code (1 : Nat) (Option.some FieldType.boolean)) ∈ lwg := lwg_of (pt_5 _ (List.mem_of_getElem? (i := 67) rfl)) rfl
theorem k_1028 : (Cond.methodLink "LevelTables" (196 : Nat) ({ cls := "LevelTables", name := "countLiving", desc := "()I" } : MethodName)) ∈ lwg := lwg_of (pt_5 _ (List.mem_of_getElem? (i := 68) rfl)) rfl
theorem k_1030 : (Cond.instanceMethod ({ cls := "LevelTables", name := "countLiving", desc := "()I" } : MethodName)) ∈ lwg := lwg_of (pt_5 _ (List.mem_of_getElem? (i := 70) rfl)) rfl
theorem k_1031 : (Cond.code ({ cls := "LevelTables", name := "countLiving", desc := "()I" } : MethodName) prog_1_method_26_code (3 : Nat) (Option.some FieldType.int)) ∈ lwg := lwg_of (pt_5 _ (List.mem_of_getElem? (i := 71) rfl)) rfl
theorem k_1032 : (Cond.methodLink "LevelTables" (125 : Nat) ({ cls := "LevelTables$Views", name := "present", desc := "()I" } : MethodName)) ∈ lwg := lwg_of (pt_5 _ (List.mem_of_getElem? (i := 72) rfl)) rfl
theorem k_1033 : (Cond.instanceMethod ({ cls := "LevelTables$Views", name := "present", desc := "()I" } : MethodName)) ∈ lwg := lwg_of (pt_5 _ (List.mem_of_getElem? (i := 73) rfl)) rfl
theorem k_1034 : (Cond.selects "LevelTables$Views" ({ cls := "LevelTables$Views", name := "present", desc := "()I" } : MethodName) ({ cls := "LevelTables$Views", name := "present", desc := "()I" } : MethodName)) ∈ lwg := lwg_of (pt_5 _ (List.mem_of_getElem? (i := 74) rfl)) rfl
theorem k_1035 : (Cond.code ({ cls := "LevelTables$Views", name := "present", desc := "()I" } : MethodName) prog_9_method_2_code (1 : Nat) (Option.some FieldType.int)) ∈ lwg := lwg_of (pt_5 _ (List.mem_of_getElem? (i := 75) rfl)) rfl
theorem k_1036 : (Cond.methodLink "LevelTables" (243 : Nat) ({ cls := "LevelTables$Walk", name := "isSomethingAt", desc := "(I)Z" } : MethodName)) ∈ lwg := lwg_of (pt_5 _ (List.mem_of_getElem? (i := 76) rfl)) rfl
theorem k_1037 : (Cond.instanceMethod ({ cls := "LevelTables$Walk", name := "isSomethingAt", desc := "(I)Z" } : MethodName)) ∈ lwg := lwg_of (pt_5 _ (List.mem_of_getElem? (i := 77) rfl)) rfl
theorem k_1038 : (Cond.selects "LevelTables$Walk" ({ cls := "LevelTables$Walk", name := "isSomethingAt", desc := "(I)Z" } : MethodName) ({ cls := "LevelTables$Walk", name := "isSomethingAt", desc := "(I)Z" } : MethodName)) ∈ lwg := lwg_of (pt_5 _ (List.mem_of_getElem? (i := 78) rfl)) rfl
theorem k_1039 : (Cond.code ({ cls := "LevelTables$Walk", name := "isSomethingAt", desc := "(I)Z" } : MethodName) prog_10_method_9_code (2 : Nat) (Option.some FieldType.boolean)) ∈ lwg := lwg_of (pt_5 _ (List.mem_of_getElem? (i := 79) rfl)) rfl
theorem k_1040 : (Cond.methodLink "LevelTables$Walk" (76 : Nat) ({ cls := "LevelTables$Version", name := "isThere", desc := "()Z" } : MethodName)) ∈ lwg := lwg_of (pt_5 _ (List.mem_of_getElem? (i := 80) rfl)) rfl
theorem k_1041 : (Cond.methodLink "LevelTablesLaw" (57 : Nat) ({ cls := "LevelTablesLaw", name := "feed", desc := "(LLevelTables;IIIII[J)I" } : MethodName)) ∈ lwg := lwg_of (pt_5 _ (List.mem_of_getElem? (i := 81) rfl)) rfl
theorem k_1042 : (Cond.static ({ cls := "LevelTablesLaw", name := "feed", desc := "(LLevelTables;IIIII[J)I" } : MethodName)) ∈ lwg := lwg_of (pt_5 _ (List.mem_of_getElem? (i := 82) rfl)) rfl
theorem k_1043 : (Cond.codeWith ({ cls := "LevelTablesLaw", name := "feed", desc := "(LLevelTables;IIIII[J)I" } : MethodName) method_3_code (8 : Nat) (Option.some FieldType.int) [((0 : Nat), (16 : Nat), (19 : Nat), (13 : Nat))]) ∈ lwg := lwg_of (pt_5 _ (List.mem_of_getElem? (i := 83) rfl)) rfl
theorem k_1044 : (Cond.classLink "LevelTablesLaw" (13 : Nat) "java/lang/IndexOutOfBoundsException") ∈ lwg := lwg_of (pt_5 _ (List.mem_of_getElem? (i := 84) rfl)) rfl
theorem k_1045 : (Cond.methodLink "LevelTablesLaw" (7 : Nat) ({ cls := "LevelTables", name := "feed", desc := "(IIIII)I" } : MethodName)) ∈ lwg := lwg_of (pt_5 _ (List.mem_of_getElem? (i := 85) rfl)) rfl
theorem k_1046 : (Cond.instanceMethod ({ cls := "LevelTables", name := "feed", desc := "(IIIII)I" } : MethodName)) ∈ lwg := lwg_of (pt_5 _ (List.mem_of_getElem? (i := 86) rfl)) rfl
theorem k_1047 : (Cond.selects "LevelTables" ({ cls := "LevelTables", name := "feed", desc := "(IIIII)I" } : MethodName) ({ cls := "LevelTables", name := "feed", desc := "(IIIII)I" } : MethodName)) ∈ lwg := lwg_of (pt_5 _ (List.mem_of_getElem? (i := 87) rfl)) rfl
theorem k_1048 : (Cond.code ({ cls := "LevelTables", name := "feed", desc := "(IIIII)I" } : MethodName) prog_1_method_2_code (6 : Nat) (Option.some FieldType.int)) ∈ lwg := lwg_of (pt_5 _ (List.mem_of_getElem? (i := 88) rfl)) rfl
theorem k_1049 : (Cond.methodLink "LevelTables" (90 : Nat) ({ cls := "LevelTables$Tape", name := "length", desc := "()I" } : MethodName)) ∈ lwg := lwg_of (pt_5 _ (List.mem_of_getElem? (i := 89) rfl)) rfl
theorem k_1050 : (Cond.instanceMethod ({ cls := "LevelTables$Tape", name := "length", desc := "()I" } : MethodName)) ∈ lwg := lwg_of (pt_5 _ (List.mem_of_getElem? (i := 90) rfl)) rfl
theorem k_1051 : (Cond.selects "LevelTables$Tape" ({ cls := "LevelTables$Tape", name := "length", desc := "()I" } : MethodName) ({ cls := "LevelTables$Tape", name := "length", desc := "()I" } : MethodName)) ∈ lwg := lwg_of (pt_5 _ (List.mem_of_getElem? (i := 91) rfl)) rfl
theorem k_1052 : (Cond.code ({ cls := "LevelTables$Tape", name := "length", desc := "()I" } : MethodName) prog_7_method_2_code (1 : Nat) (Option.some FieldType.int)) ∈ lwg := lwg_of (pt_5 _ (List.mem_of_getElem? (i := 92) rfl)) rfl
theorem k_1053 : (Cond.classLink "LevelTables" (94 : Nat) "java/lang/IndexOutOfBoundsException") ∈ lwg := lwg_of (pt_5 _ (List.mem_of_getElem? (i := 93) rfl)) rfl
theorem k_1054 : (Cond.methodLink "LevelTables" (96 : Nat) ({ cls := "java/lang/IndexOutOfBoundsException", name := "<init>", desc := "()V" } : MethodName)) ∈ lwg := lwg_of (pt_5 _ (List.mem_of_getElem? (i := 94) rfl)) rfl
theorem k_1064 : (Cond.methodLink "LevelTables" (97 : Nat) ({ cls := "LevelTables$Tape", name := "append", desc := "(I)V" } : MethodName)) ∈ lwg := lwg_of (pt_5 _ (List.mem_of_getElem? (i := 104) rfl)) rfl
theorem k_1065 : (Cond.instanceMethod ({ cls := "LevelTables$Tape", name := "append", desc := "(I)V" } : MethodName)) ∈ lwg := lwg_of (pt_5 _ (List.mem_of_getElem? (i := 105) rfl)) rfl
theorem k_1066 : (Cond.selects "LevelTables$Tape" ({ cls := "LevelTables$Tape", name := "append", desc := "(I)V" } : MethodName) ({ cls := "LevelTables$Tape", name := "append", desc := "(I)V" } : MethodName)) ∈ lwg := lwg_of (pt_5 _ (List.mem_of_getElem? (i := 106) rfl)) rfl
theorem k_1067 : (Cond.code ({ cls := "LevelTables$Tape", name := "append", desc := "(I)V" } : MethodName) prog_7_method_5_code (3 : Nat) (Option.none : Option Jvm.ClassFile.FieldType)) ∈ lwg := lwg_of (pt_5 _ (List.mem_of_getElem? (i := 107) rfl)) rfl
theorem k_1068 : (Cond.methodLink "LevelTablesLaw" (66 : Nat) ({ cls := "LevelTablesLaw", name := "end", desc := "(LLevelTables;I[J)I" } : MethodName)) ∈ lwg := lwg_of (pt_5 _ (List.mem_of_getElem? (i := 108) rfl)) rfl
theorem k_1069 : (Cond.static ({ cls := "LevelTablesLaw", name := "end", desc := "(LLevelTables;I[J)I" } : MethodName)) ∈ lwg := lwg_of (pt_5 _ (List.mem_of_getElem? (i := 109) rfl)) rfl
theorem k_1070 : (Cond.codeWith ({ cls := "LevelTablesLaw", name := "end", desc := "(LLevelTables;I[J)I" } : MethodName) method_4_code (4 : Nat) (Option.some FieldType.int) [((0 : Nat), (9 : Nat), (12 : Nat), (19 : Nat))]) ∈ lwg := lwg_of (pt_5 _ (List.mem_of_getElem? (i := 110) rfl)) rfl
theorem k_1071 : (Cond.classLink "LevelTablesLaw" (19 : Nat) "java/lang/IllegalArgumentException") ∈ lwg := lwg_of (pt_5 _ (List.mem_of_getElem? (i := 111) rfl)) rfl
theorem k_1072 : (Cond.methodLink "LevelTablesLaw" (15 : Nat) ({ cls := "LevelTables", name := "end", desc := "(I)I" } : MethodName)) ∈ lwg := lwg_of (pt_5 _ (List.mem_of_getElem? (i := 112) rfl)) rfl
theorem k_1073 : (Cond.instanceMethod ({ cls := "LevelTables", name := "end", desc := "(I)I" } : MethodName)) ∈ lwg := lwg_of (pt_5 _ (List.mem_of_getElem? (i := 113) rfl)) rfl
theorem k_1074 : (Cond.selects "LevelTables" ({ cls := "LevelTables", name := "end", desc := "(I)I" } : MethodName) ({ cls := "LevelTables", name := "end", desc := "(I)I" } : MethodName)) ∈ lwg := lwg_of (pt_5 _ (List.mem_of_getElem? (i := 114) rfl)) rfl
theorem k_1075 : (Cond.code ({ cls := "LevelTables", name := "end", desc := "(I)I" } : MethodName) prog_1_method_3_code (2 : Nat) (Option.some FieldType.int)) ∈ lwg := lwg_of (pt_5 _ (List.mem_of_getElem? (i := 115) rfl)) rfl
theorem k_1076 : (Cond.classLink "LevelTables" (101 : Nat) "java/lang/IllegalArgumentException") ∈ lwg := lwg_of (pt_5 _ (List.mem_of_getElem? (i := 116) rfl)) rfl
theorem k_1077 : (Cond.methodLink "LevelTables" (103 : Nat) ({ cls := "java/lang/IllegalArgumentException", name := "<init>", desc := "()V" } : MethodName)) ∈ lwg := lwg_of (pt_5 _ (List.mem_of_getElem? (i := 117) rfl)) rfl
theorem k_1081 : (Cond.methodLink "LevelTables" (104 : Nat) ({ cls := "LevelTables$Tape", name := "cut", desc := "(I)V" } : MethodName)) ∈ lwg := lwg_of (pt_5 _ (List.mem_of_getElem? (i := 121) rfl)) rfl
theorem k_1082 : (Cond.instanceMethod ({ cls := "LevelTables$Tape", name := "cut", desc := "(I)V" } : MethodName)) ∈ lwg := lwg_of (pt_5 _ (List.mem_of_getElem? (i := 122) rfl)) rfl
theorem k_1083 : (Cond.selects "LevelTables$Tape" ({ cls := "LevelTables$Tape", name := "cut", desc := "(I)V" } : MethodName) ({ cls := "LevelTables$Tape", name := "cut", desc := "(I)V" } : MethodName)) ∈ lwg := lwg_of (pt_5 _ (List.mem_of_getElem? (i := 123) rfl)) rfl
theorem k_1084 : (Cond.code ({ cls := "LevelTables$Tape", name := "cut", desc := "(I)V" } : MethodName) prog_7_method_4_code (2 : Nat) (Option.none : Option Jvm.ClassFile.FieldType)) ∈ lwg := lwg_of (pt_5 _ (List.mem_of_getElem? (i := 124) rfl)) rfl
theorem k_1085 : (Cond.methodLink "LevelTablesLaw" (70 : Nat) ({ cls := "LevelTablesLaw", name := "put", desc := "(LLevelTables;II[J)I" } : MethodName)) ∈ lwg := lwg_of (pt_5 _ (List.mem_of_getElem? (i := 125) rfl)) rfl
theorem k_1086 : (Cond.static ({ cls := "LevelTablesLaw", name := "put", desc := "(LLevelTables;II[J)I" } : MethodName)) ∈ lwg := lwg_of (pt_5 _ (List.mem_of_getElem? (i := 126) rfl)) rfl
theorem k_1087 : (Cond.codeWith ({ cls := "LevelTablesLaw", name := "put", desc := "(LLevelTables;II[J)I" } : MethodName) method_5_code (5 : Nat) (Option.some FieldType.int) [((0 : Nat), (10 : Nat), (13 : Nat), (19 : Nat)), ((0 : Nat), (10 : Nat), (17 : Nat), (25 : Nat))]) ∈ lwg := lwg_of (pt_5 _ (List.mem_of_getElem? (i := 127) rfl)) rfl
theorem k_1088 : (Cond.classLink "LevelTablesLaw" (25 : Nat) "java/lang/IllegalStateException") ∈ lwg := lwg_of (pt_5 _ (List.mem_of_getElem? (i := 128) rfl)) rfl
theorem k_1089 : (Cond.methodLink "LevelTablesLaw" (21 : Nat) ({ cls := "LevelTables", name := "put", desc := "(II)I" } : MethodName)) ∈ lwg := lwg_of (pt_5 _ (List.mem_of_getElem? (i := 129) rfl)) rfl
theorem k_1090 : (Cond.instanceMethod ({ cls := "LevelTables", name := "put", desc := "(II)I" } : MethodName)) ∈ lwg := lwg_of (pt_5 _ (List.mem_of_getElem? (i := 130) rfl)) rfl
theorem k_1091 : (Cond.selects "LevelTables" ({ cls := "LevelTables", name := "put", desc := "(II)I" } : MethodName) ({ cls := "LevelTables", name := "put", desc := "(II)I" } : MethodName)) ∈ lwg := lwg_of (pt_5 _ (List.mem_of_getElem? (i := 131) rfl)) rfl
theorem k_1092 : (Cond.code ({ cls := "LevelTables", name := "put", desc := "(II)I" } : MethodName) prog_1_method_4_code (3 : Nat) (Option.some FieldType.int)) ∈ lwg := lwg_of (pt_5 _ (List.mem_of_getElem? (i := 132) rfl)) rfl
theorem k_1093 : (Cond.methodLink "LevelTables" (107 : Nat) ({ cls := "LevelTables$Tape", name := "hasKey", desc := "()Z" } : MethodName)) ∈ lwg := lwg_of (pt_5 _ (List.mem_of_getElem? (i := 133) rfl)) rfl
theorem k_1094 : (Cond.instanceMethod ({ cls := "LevelTables$Tape", name := "hasKey", desc := "()Z" } : MethodName)) ∈ lwg := lwg_of (pt_5 _ (List.mem_of_getElem? (i := 134) rfl)) rfl
theorem k_1095 : (Cond.selects "LevelTables$Tape" ({ cls := "LevelTables$Tape", name := "hasKey", desc := "()Z" } : MethodName) ({ cls := "LevelTables$Tape", name := "hasKey", desc := "()Z" } : MethodName)) ∈ lwg := lwg_of (pt_5 _ (List.mem_of_getElem? (i := 135) rfl)) rfl
theorem k_1096 : (Cond.code ({ cls := "LevelTables$Tape", name := "hasKey", desc := "()Z" } : MethodName) prog_7_method_3_code (1 : Nat) (Option.some FieldType.boolean)) ∈ lwg := lwg_of (pt_5 _ (List.mem_of_getElem? (i := 136) rfl)) rfl
theorem k_1097 : (Cond.methodLink "LevelTables" (111 : Nat) ({ cls := "LevelTables", name := "addVersion", desc := "(ZII)I" } : MethodName)) ∈ lwg := lwg_of (pt_5 _ (List.mem_of_getElem? (i := 137) rfl)) rfl
theorem k_1099 : (Cond.instanceMethod ({ cls := "LevelTables", name := "addVersion", desc := "(ZII)I" } : MethodName)) ∈ lwg := lwg_of (pt_5 _ (List.mem_of_getElem? (i := 139) rfl)) rfl
theorem k_1100 : (Cond.code ({ cls := "LevelTables", name := "addVersion", desc := "(ZII)I" } : MethodName) prog_1_method_16_code (5 : Nat) (Option.some FieldType.int)) ∈ lwg := lwg_of (pt_5 _ (List.mem_of_getElem? (i := 140) rfl)) rfl
theorem k_1101 : (Cond.methodLink "LevelTables" (199 : Nat) ({ cls := "LevelTables$Tape", name := "moveTo", desc := "(LLevelTables$Version;)V" } : MethodName)) ∈ lwg := lwg_of (pt_5 _ (List.mem_of_getElem? (i := 141) rfl)) rfl
theorem k_1102 : (Cond.instanceMethod ({ cls := "LevelTables$Tape", name := "moveTo", desc := "(LLevelTables$Version;)V" } : MethodName)) ∈ lwg := lwg_of (pt_5 _ (List.mem_of_getElem? (i := 142) rfl)) rfl
theorem k_1103 : (Cond.selects "LevelTables$Tape" ({ cls := "LevelTables$Tape", name := "moveTo", desc := "(LLevelTables$Version;)V" } : MethodName) ({ cls := "LevelTables$Tape", name := "moveTo", desc := "(LLevelTables$Version;)V" } : MethodName)) ∈ lwg := lwg_of (pt_5 _ (List.mem_of_getElem? (i := 143) rfl)) rfl
theorem k_1104 : (Cond.code ({ cls := "LevelTables$Tape", name := "moveTo", desc := "(LLevelTables$Version;)V" } : MethodName) prog_7_method_6_code (2 : Nat) (Option.none : Option Jvm.ClassFile.FieldType)) ∈ lwg := lwg_of (pt_5 _ (List.mem_of_getElem? (i := 144) rfl)) rfl
theorem k_1105 : (Cond.methodLink "LevelTables$Tape" (19 : Nat) ({ cls := "LevelTables$Version", name := "setKey", desc := "([BI)V" } : MethodName)) ∈ lwg := lwg_of (pt_5 _ (List.mem_of_getElem? (i := 145) rfl)) rfl
theorem k_1106 : (Cond.instanceMethod ({ cls := "LevelTables$Version", name := "setKey", desc := "([BI)V" } : MethodName)) ∈ lwg := lwg_of (pt_5 _ (List.mem_of_getElem? (i := 146) rfl)) rfl
theorem k_1107 : (Cond.selects "LevelTables$Version" ({ cls := "LevelTables$Version", name := "setKey", desc := "([BI)V" } : MethodName) ({ cls := "LevelTables$Version", name := "setKey", desc := "([BI)V" } : MethodName)) ∈ lwg := lwg_of (pt_5 _ (List.mem_of_getElem? (i := 147) rfl)) rfl
theorem k_1108 : (Cond.code ({ cls := "LevelTables$Version", name := "setKey", desc := "([BI)V" } : MethodName) prog_8_method_9_code (4 : Nat) (Option.none : Option Jvm.ClassFile.FieldType)) ∈ lwg := lwg_of (pt_5 _ (List.mem_of_getElem? (i := 148) rfl)) rfl
theorem k_1109 : (Cond.methodLink "LevelTables$Version" (22 : Nat) ({ cls := "java/util/Arrays", name := "fill", desc := "([JJ)V" } : MethodName)) ∈ lwg := lwg_of (pt_5 _ (List.mem_of_getElem? (i := 149) rfl)) rfl
theorem k_1110 : (Cond.constantLong "LevelTables$Version" (28 : Nat) (255 : Int64)) ∈ lwg := lwg_of (pt_5 _ (List.mem_of_getElem? (i := 150) rfl)) rfl
theorem k_1111 : (Cond.classLink "LevelTables" (119 : Nat) "java/lang/IllegalStateException") ∈ lwg := lwg_of (pt_5 _ (List.mem_of_getElem? (i := 151) rfl)) rfl
theorem k_1112 : (Cond.instantiable "java/lang/IllegalStateException" (6 : Nat)) ∈ lwg := lwg_of (pt_5 _ (List.mem_of_getElem? (i := 152) rfl)) rfl
theorem k_1120 : (Cond.methodLink "LevelTables" (121 : Nat) ({ cls := "java/lang/IllegalStateException", name := "<init>", desc := "()V" } : MethodName)) ∈ lwg := lwg_of (pt_5 _ (List.mem_of_getElem? (i := 160) rfl)) rfl
theorem k_1126 : (Cond.methodLink "LevelTables" (203 : Nat) ({ cls := "LevelTables$Views", name := "step", desc := "()V" } : MethodName)) ∈ lwg := lwg_of (pt_5 _ (List.mem_of_getElem? (i := 166) rfl)) rfl
theorem k_1127 : (Cond.instanceMethod ({ cls := "LevelTables$Views", name := "step", desc := "()V" } : MethodName)) ∈ lwg := lwg_of (pt_5 _ (List.mem_of_getElem? (i := 167) rfl)) rfl
theorem k_1128 : (Cond.selects "LevelTables$Views" ({ cls := "LevelTables$Views", name := "step", desc := "()V" } : MethodName) ({ cls := "LevelTables$Views", name := "step", desc := "()V" } : MethodName)) ∈ lwg := lwg_of (pt_5 _ (List.mem_of_getElem? (i := 168) rfl)) rfl
theorem k_1129 : (Cond.code ({ cls := "LevelTables$Views", name := "step", desc := "()V" } : MethodName) prog_9_method_3_code (1 : Nat) (Option.none : Option Jvm.ClassFile.FieldType)) ∈ lwg := lwg_of (pt_5 _ (List.mem_of_getElem? (i := 169) rfl)) rfl
theorem k_1130 : (Cond.methodLink "LevelTables" (206 : Nat) ({ cls := "LevelTables$Version", name := "describe", desc := "(IZII)V" } : MethodName)) ∈ lwg := lwg_of (pt_5 _ (List.mem_of_getElem? (i := 170) rfl)) rfl
theorem k_1131 : (Cond.methodLink "LevelTables" (210 : Nat) ({ cls := "LevelTables$Memory", name := "insert", desc := "(LLevelTables$Version;)V" } : MethodName)) ∈ lwg := lwg_of (pt_5 _ (List.mem_of_getElem? (i := 171) rfl)) rfl
theorem k_1132 : (Cond.instanceMethod ({ cls := "LevelTables$Memory", name := "insert", desc := "(LLevelTables$Version;)V" } : MethodName)) ∈ lwg := lwg_of (pt_5 _ (List.mem_of_getElem? (i := 172) rfl)) rfl
theorem k_1133 : (Cond.selects "LevelTables$Memory" ({ cls := "LevelTables$Memory", name := "insert", desc := "(LLevelTables$Version;)V" } : MethodName) ({ cls := "LevelTables$Memory", name := "insert", desc := "(LLevelTables$Version;)V" } : MethodName)) ∈ lwg := lwg_of (pt_5 _ (List.mem_of_getElem? (i := 173) rfl)) rfl
theorem k_1134 : (Cond.code ({ cls := "LevelTables$Memory", name := "insert", desc := "(LLevelTables$Version;)V" } : MethodName) prog_4_method_4_code (3 : Nat) (Option.none : Option Jvm.ClassFile.FieldType)) ∈ lwg := lwg_of (pt_5 _ (List.mem_of_getElem? (i := 174) rfl)) rfl
theorem k_1135 : (Cond.methodLink "LevelTables$Memory" (31 : Nat) ({ cls := "LevelTables$Memory", name := "firstNotBefore", desc := "(LLevelTables$Version;)I" } : MethodName)) ∈ lwg := lwg_of (pt_5 _ (List.mem_of_getElem? (i := 175) rfl)) rfl
theorem k_1136 : (Cond.sameMethod "LevelTables$Memory" "LevelTables$Run" "firstNotBefore" "(LLevelTables$Version;)I") ∈ lwg := lwg_of (pt_5 _ (List.mem_of_getElem? (i := 176) rfl)) rfl
theorem k_1137 : (Cond.selects "LevelTables$Memory" ({ cls := "LevelTables$Memory", name := "firstNotBefore", desc := "(LLevelTables$Version;)I" } : MethodName) ({ cls := "LevelTables$Run", name := "firstNotBefore", desc := "(LLevelTables$Version;)I" } : MethodName)) ∈ lwg := lwg_of (pt_5 _ (List.mem_of_getElem? (i := 177) rfl)) rfl
theorem k_1138 : (Cond.methodLink "LevelTablesLaw" (74 : Nat) ({ cls := "LevelTablesLaw", name := "out", desc := "(LLevelTables;[J)I" } : MethodName)) ∈ lwg := lwg_of (pt_5 _ (List.mem_of_getElem? (i := 178) rfl)) rfl
theorem k_1139 : (Cond.static ({ cls := "LevelTablesLaw", name := "out", desc := "(LLevelTables;[J)I" } : MethodName)) ∈ lwg := lwg_of (pt_5 _ (List.mem_of_getElem? (i := 179) rfl)) rfl
theorem k_1140 : (Cond.codeWith ({ cls := "LevelTablesLaw", name := "out", desc := "(LLevelTables;[J)I" } : MethodName) method_6_code (3 : Nat) (Option.some FieldType.int) [((0 : Nat), (8 : Nat), (11 : Nat), (19 : Nat)), ((0 : Nat), (8 : Nat), (14 : Nat), (25 : Nat))]) ∈ lwg := lwg_of (pt_5 _ (List.mem_of_getElem? (i := 180) rfl)) rfl
theorem k_1141 : (Cond.methodLink "LevelTablesLaw" (27 : Nat) ({ cls := "LevelTables", name := "out", desc := "()I" } : MethodName)) ∈ lwg := lwg_of (pt_5 _ (List.mem_of_getElem? (i := 181) rfl)) rfl
theorem k_1142 : (Cond.instanceMethod ({ cls := "LevelTables", name := "out", desc := "()I" } : MethodName)) ∈ lwg := lwg_of (pt_5 _ (List.mem_of_getElem? (i := 182) rfl)) rfl
theorem k_1143 : (Cond.selects "LevelTables" ({ cls := "LevelTables", name := "out", desc := "()I" } : MethodName) ({ cls := "LevelTables", name := "out", desc := "()I" } : MethodName)) ∈ lwg := lwg_of (pt_5 _ (List.mem_of_getElem? (i := 183) rfl)) rfl
theorem k_1144 : (Cond.code ({ cls := "LevelTables", name := "out", desc := "()I" } : MethodName) prog_1_method_5_code (1 : Nat) (Option.some FieldType.int)) ∈ lwg := lwg_of (pt_5 _ (List.mem_of_getElem? (i := 184) rfl)) rfl
theorem k_1145 : (Cond.methodLink "LevelTablesLaw" (78 : Nat) ({ cls := "LevelTablesLaw", name := "open", desc := "(LLevelTables;I[J)I" } : MethodName)) ∈ lwg := lwg_of (pt_5 _ (List.mem_of_getElem? (i := 185) rfl)) rfl
theorem k_1146 : (Cond.static ({ cls := "LevelTablesLaw", name := "open", desc := "(LLevelTables;I[J)I" } : MethodName)) ∈ lwg := lwg_of (pt_5 _ (List.mem_of_getElem? (i := 186) rfl)) rfl
theorem k_1147 : (Cond.codeWith ({ cls := "LevelTablesLaw", name := "open", desc := "(LLevelTables;I[J)I" } : MethodName) method_7_code (4 : Nat) (Option.some FieldType.int) [((0 : Nat), (9 : Nat), (12 : Nat), (19 : Nat)), ((0 : Nat), (9 : Nat), (15 : Nat), (25 : Nat))]) ∈ lwg := lwg_of (pt_5 _ (List.mem_of_getElem? (i := 187) rfl)) rfl
theorem k_1148 : (Cond.methodLink "LevelTablesLaw" (31 : Nat) ({ cls := "LevelTables", name := "open", desc := "(I)I" } : MethodName)) ∈ lwg := lwg_of (pt_5 _ (List.mem_of_getElem? (i := 188) rfl)) rfl
theorem k_1149 : (Cond.instanceMethod ({ cls := "LevelTables", name := "open", desc := "(I)I" } : MethodName)) ∈ lwg := lwg_of (pt_5 _ (List.mem_of_getElem? (i := 189) rfl)) rfl
theorem k_1150 : (Cond.selects "LevelTables" ({ cls := "LevelTables", name := "open", desc := "(I)I" } : MethodName) ({ cls := "LevelTables", name := "open", desc := "(I)I" } : MethodName)) ∈ lwg := lwg_of (pt_5 _ (List.mem_of_getElem? (i := 190) rfl)) rfl
theorem k_1151 : (Cond.code ({ cls := "LevelTables", name := "open", desc := "(I)I" } : MethodName) prog_1_method_6_code (2 : Nat) (Option.some FieldType.int)) ∈ lwg := lwg_of (pt_5 _ (List.mem_of_getElem? (i := 191) rfl)) rfl
theorem k_1152 : (Cond.methodLink "LevelTables" (115 : Nat) ({ cls := "LevelTables$Views", name := "momentOf", desc := "(I)I" } : MethodName)) ∈ lwg := lwg_of (pt_5 _ (List.mem_of_getElem? (i := 192) rfl)) rfl
theorem k_1153 : (Cond.instanceMethod ({ cls := "LevelTables$Views", name := "momentOf", desc := "(I)I" } : MethodName)) ∈ lwg := lwg_of (pt_5 _ (List.mem_of_getElem? (i := 193) rfl)) rfl
theorem k_1154 : (Cond.selects "LevelTables$Views" ({ cls := "LevelTables$Views", name := "momentOf", desc := "(I)I" } : MethodName) ({ cls := "LevelTables$Views", name := "momentOf", desc := "(I)I" } : MethodName)) ∈ lwg := lwg_of (pt_5 _ (List.mem_of_getElem? (i := 194) rfl)) rfl
theorem k_1155 : (Cond.code ({ cls := "LevelTables$Views", name := "momentOf", desc := "(I)I" } : MethodName) prog_9_method_4_code (2 : Nat) (Option.some FieldType.int)) ∈ lwg := lwg_of (pt_5 _ (List.mem_of_getElem? (i := 195) rfl)) rfl
theorem k_1156 : (Cond.methodLink "LevelTables" (122 : Nat) ({ cls := "LevelTables$Views", name := "begin", desc := "(I)V" } : MethodName)) ∈ lwg := lwg_of (pt_5 _ (List.mem_of_getElem? (i := 196) rfl)) rfl
theorem k_1157 : (Cond.instanceMethod ({ cls := "LevelTables$Views", name := "begin", desc := "(I)V" } : MethodName)) ∈ lwg := lwg_of (pt_5 _ (List.mem_of_getElem? (i := 197) rfl)) rfl
theorem k_1158 : (Cond.selects "LevelTables$Views" ({ cls := "LevelTables$Views", name := "begin", desc := "(I)V" } : MethodName) ({ cls := "LevelTables$Views", name := "begin", desc := "(I)V" } : MethodName)) ∈ lwg := lwg_of (pt_5 _ (List.mem_of_getElem? (i := 198) rfl)) rfl
theorem k_1159 : (Cond.code ({ cls := "LevelTables$Views", name := "begin", desc := "(I)V" } : MethodName) prog_9_method_5_code (2 : Nat) (Option.none : Option Jvm.ClassFile.FieldType)) ∈ lwg := lwg_of (pt_5 _ (List.mem_of_getElem? (i := 199) rfl)) rfl
theorem k_1160 : (Cond.methodLink "LevelTablesLaw" (81 : Nat) ({ cls := "LevelTablesLaw", name := "close", desc := "(LLevelTables;I[J)I" } : MethodName)) ∈ lwg := lwg_of (pt_5 _ (List.mem_of_getElem? (i := 200) rfl)) rfl
theorem k_1161 : (Cond.static ({ cls := "LevelTablesLaw", name := "close", desc := "(LLevelTables;I[J)I" } : MethodName)) ∈ lwg := lwg_of (pt_5 _ (List.mem_of_getElem? (i := 201) rfl)) rfl
theorem k_1162 : (Cond.codeWith ({ cls := "LevelTablesLaw", name := "close", desc := "(LLevelTables;I[J)I" } : MethodName) method_8_code (4 : Nat) (Option.some FieldType.int) [((0 : Nat), (9 : Nat), (12 : Nat), (19 : Nat)), ((0 : Nat), (9 : Nat), (15 : Nat), (25 : Nat))]) ∈ lwg := lwg_of (pt_5 _ (List.mem_of_getElem? (i := 202) rfl)) rfl
theorem k_1163 : (Cond.methodLink "LevelTablesLaw" (34 : Nat) ({ cls := "LevelTables", name := "close", desc := "(I)I" } : MethodName)) ∈ lwg := lwg_of (pt_5 _ (List.mem_of_getElem? (i := 203) rfl)) rfl
theorem k_1164 : (Cond.instanceMethod ({ cls := "LevelTables", name := "close", desc := "(I)I" } : MethodName)) ∈ lwg := lwg_of (pt_5 _ (List.mem_of_getElem? (i := 204) rfl)) rfl
theorem k_1165 : (Cond.selects "LevelTables" ({ cls := "LevelTables", name := "close", desc := "(I)I" } : MethodName) ({ cls := "LevelTables", name := "close", desc := "(I)I" } : MethodName)) ∈ lwg := lwg_of (pt_5 _ (List.mem_of_getElem? (i := 205) rfl)) rfl
theorem k_1166 : (Cond.code ({ cls := "LevelTables", name := "close", desc := "(I)I" } : MethodName) prog_1_method_7_code (3 : Nat) (Option.some FieldType.int)) ∈ lwg := lwg_of (pt_5 _ (List.mem_of_getElem? (i := 206) rfl)) rfl
theorem k_1167 : (Cond.methodLink "LevelTables" (128 : Nat) ({ cls := "LevelTables$Views", name := "finish", desc := "(I)V" } : MethodName)) ∈ lwg := lwg_of (pt_5 _ (List.mem_of_getElem? (i := 207) rfl)) rfl
theorem k_1168 : (Cond.instanceMethod ({ cls := "LevelTables$Views", name := "finish", desc := "(I)V" } : MethodName)) ∈ lwg := lwg_of (pt_5 _ (List.mem_of_getElem? (i := 208) rfl)) rfl
theorem k_1169 : (Cond.selects "LevelTables$Views" ({ cls := "LevelTables$Views", name := "finish", desc := "(I)V" } : MethodName) ({ cls := "LevelTables$Views", name := "finish", desc := "(I)V" } : MethodName)) ∈ lwg := lwg_of (pt_5 _ (List.mem_of_getElem? (i := 209) rfl)) rfl
theorem k_1170 : (Cond.code ({ cls := "LevelTables$Views", name := "finish", desc := "(I)V" } : MethodName) prog_9_method_6_code (2 : Nat) (Option.none : Option Jvm.ClassFile.FieldType)) ∈ lwg := lwg_of (pt_5 _ (List.mem_of_getElem? (i := 210) rfl)) rfl
theorem k_1171 : (Cond.methodLink "LevelTablesLaw" (84 : Nat) ({ cls := "LevelTablesLaw", name := "find", desc := "(LLevelTables;I[J)I" } : MethodName)) ∈ lwg := lwg_of (pt_5 _ (List.mem_of_getElem? (i := 211) rfl)) rfl
theorem k_1172 : (Cond.static ({ cls := "LevelTablesLaw", name := "find", desc := "(LLevelTables;I[J)I" } : MethodName)) ∈ lwg := lwg_of (pt_5 _ (List.mem_of_getElem? (i := 212) rfl)) rfl
theorem k_1173 : (Cond.codeWith ({ cls := "LevelTablesLaw", name := "find", desc := "(LLevelTables;I[J)I" } : MethodName) method_9_code (4 : Nat) (Option.some FieldType.int) [((0 : Nat), (9 : Nat), (12 : Nat), (19 : Nat)), ((0 : Nat), (9 : Nat), (15 : Nat), (25 : Nat)), ((0 : Nat), (9 : Nat), (18 : Nat), (40 : Nat))]) ∈ lwg := lwg_of (pt_5 _ (List.mem_of_getElem? (i := 213) rfl)) rfl
theorem k_1174 : (Cond.classLink "LevelTablesLaw" (40 : Nat) "java/util/NoSuchElementException") ∈ lwg := lwg_of (pt_5 _ (List.mem_of_getElem? (i := 214) rfl)) rfl
theorem k_1175 : (Cond.methodLink "LevelTablesLaw" (37 : Nat) ({ cls := "LevelTables", name := "find", desc := "(I)I" } : MethodName)) ∈ lwg := lwg_of (pt_5 _ (List.mem_of_getElem? (i := 215) rfl)) rfl
theorem k_1176 : (Cond.instanceMethod ({ cls := "LevelTables", name := "find", desc := "(I)I" } : MethodName)) ∈ lwg := lwg_of (pt_5 _ (List.mem_of_getElem? (i := 216) rfl)) rfl
theorem k_1177 : (Cond.selects "LevelTables" ({ cls := "LevelTables", name := "find", desc := "(I)I" } : MethodName) ({ cls := "LevelTables", name := "find", desc := "(I)I" } : MethodName)) ∈ lwg := lwg_of (pt_5 _ (List.mem_of_getElem? (i := 217) rfl)) rfl
theorem k_1178 : (Cond.code ({ cls := "LevelTables", name := "find", desc := "(I)I" } : MethodName) prog_1_method_8_code (3 : Nat) (Option.some FieldType.int)) ∈ lwg := lwg_of (pt_5 _ (List.mem_of_getElem? (i := 218) rfl)) rfl
theorem k_1179 : (Cond.methodLink "LevelTables" (131 : Nat) ({ cls := "LevelTables", name := "readTapeFor", desc := "(I)I" } : MethodName)) ∈ lwg := lwg_of (pt_5 _ (List.mem_of_getElem? (i := 219) rfl)) rfl
theorem k_1181 : (Cond.instanceMethod ({ cls := "LevelTables", name := "readTapeFor", desc := "(I)I" } : MethodName)) ∈ lwg := lwg_of (pt_5 _ (List.mem_of_getElem? (i := 221) rfl)) rfl
theorem k_1182 : (Cond.code ({ cls := "LevelTables", name := "readTapeFor", desc := "(I)I" } : MethodName) prog_1_method_15_code (3 : Nat) (Option.some FieldType.int)) ∈ lwg := lwg_of (pt_5 _ (List.mem_of_getElem? (i := 222) rfl)) rfl
theorem k_1183 : (Cond.methodLink "LevelTables" (138 : Nat) ({ cls := "LevelTables", name := "show", desc := "(Z)I" } : MethodName)) ∈ lwg := lwg_of (pt_5 _ (List.mem_of_getElem? (i := 223) rfl)) rfl
theorem k_1185 : (Cond.instanceMethod ({ cls := "LevelTables", name := "show", desc := "(Z)I" } : MethodName)) ∈ lwg := lwg_of (pt_5 _ (List.mem_of_getElem? (i := 225) rfl)) rfl
theorem k_1186 : (Cond.code ({ cls := "LevelTables", name := "show", desc := "(Z)I" } : MethodName) prog_1_method_19_code (2 : Nat) (Option.some FieldType.int)) ∈ lwg := lwg_of (pt_5 _ (List.mem_of_getElem? (i := 226) rfl)) rfl
theorem k_1187 : (Cond.classLink "LevelTables" (153 : Nat) "java/util/NoSuchElementException") ∈ lwg := lwg_of (pt_5 _ (List.mem_of_getElem? (i := 227) rfl)) rfl
theorem k_1188 : (Cond.instantiable "java/util/NoSuchElementException" (6 : Nat)) ∈ lwg := lwg_of (pt_5 _ (List.mem_of_getElem? (i := 228) rfl)) rfl
theorem k_1196 : (Cond.methodLink "LevelTables" (155 : Nat) ({ cls := "java/util/NoSuchElementException", name := "<init>", desc := "()V" } : MethodName)) ∈ lwg := lwg_of (pt_5 _ (List.mem_of_getElem? (i := 236) rfl)) rfl
theorem k_1202 : (Cond.methodLink "LevelTables" (156 : Nat) ({ cls := "LevelTables$Version", name := "place", desc := "()I" } : MethodName)) ∈ lwg := lwg_of (pt_6 _ (List.mem_of_getElem? (i := 2) rfl)) rfl
theorem k_1203 : (Cond.instanceMethod ({ cls := "LevelTables$Version", name := "place", desc := "()I" } : MethodName)) ∈ lwg := lwg_of (pt_6 _ (List.mem_of_getElem? (i := 3) rfl)) rfl
theorem k_1204 : (Cond.selects "LevelTables$Version" ({ cls := "LevelTables$Version", name := "place", desc := "()I" } : MethodName) ({ cls := "LevelTables$Version", name := "place", desc := "()I" } : MethodName)) ∈ lwg := lwg_of (pt_6 _ (List.mem_of_getElem? (i := 4) rfl)) rfl
theorem k_1205 : (Cond.code ({ cls := "LevelTables$Version", name := "place", desc := "()I" } : MethodName) prog_8_method_7_code (1 : Nat) (Option.some FieldType.int)) ∈ lwg := lwg_of (pt_6 _ (List.mem_of_getElem? (i := 5) rfl)) rfl
theorem k_1206 : (Cond.constant "LevelTables$Version" (15 : Nat) (2147483647 : Int32)) ∈ lwg := lwg_of (pt_6 _ (List.mem_of_getElem? (i := 6) rfl)) rfl
theorem k_1207 : (Cond.methodLink "LevelTablesLaw" (87 : Nat) ({ cls := "LevelTablesLaw", name := "seek", desc := "(LLevelTables;IZ[J)I" } : MethodName)) ∈ lwg := lwg_of (pt_6 _ (List.mem_of_getElem? (i := 7) rfl)) rfl
theorem k_1208 : (Cond.static ({ cls := "LevelTablesLaw", name := "seek", desc := "(LLevelTables;IZ[J)I" } : MethodName)) ∈ lwg := lwg_of (pt_6 _ (List.mem_of_getElem? (i := 8) rfl)) rfl
theorem k_1209 : (Cond.codeWith ({ cls := "LevelTablesLaw", name := "seek", desc := "(LLevelTables;IZ[J)I" } : MethodName) method_10_code (5 : Nat) (Option.some FieldType.int) [((0 : Nat), (10 : Nat), (13 : Nat), (19 : Nat)), ((0 : Nat), (10 : Nat), (17 : Nat), (25 : Nat)), ((0 : Nat), (10 : Nat), (21 : Nat), (40 : Nat))]) ∈ lwg := lwg_of (pt_6 _ (List.mem_of_getElem? (i := 9) rfl)) rfl
theorem k_1210 : (Cond.methodLink "LevelTablesLaw" (42 : Nat) ({ cls := "LevelTables", name := "seek", desc := "(IZ)I" } : MethodName)) ∈ lwg := lwg_of (pt_6 _ (List.mem_of_getElem? (i := 10) rfl)) rfl
theorem k_1211 : (Cond.instanceMethod ({ cls := "LevelTables", name := "seek", desc := "(IZ)I" } : MethodName)) ∈ lwg := lwg_of (pt_6 _ (List.mem_of_getElem? (i := 11) rfl)) rfl
theorem k_1212 : (Cond.selects "LevelTables" ({ cls := "LevelTables", name := "seek", desc := "(IZ)I" } : MethodName) ({ cls := "LevelTables", name := "seek", desc := "(IZ)I" } : MethodName)) ∈ lwg := lwg_of (pt_6 _ (List.mem_of_getElem? (i := 12) rfl)) rfl
theorem k_1213 : (Cond.code ({ cls := "LevelTables", name := "seek", desc := "(IZ)I" } : MethodName) prog_1_method_9_code (4 : Nat) (Option.some FieldType.int)) ∈ lwg := lwg_of (pt_6 _ (List.mem_of_getElem? (i := 13) rfl)) rfl
theorem k_1214 : (Cond.methodLink "LevelTables" (145 : Nat) ({ cls := "LevelTables", name := "reachSomething", desc := "(I)Z" } : MethodName)) ∈ lwg := lwg_of (pt_6 _ (List.mem_of_getElem? (i := 14) rfl)) rfl
theorem k_1216 : (Cond.instanceMethod ({ cls := "LevelTables", name := "reachSomething", desc := "(I)Z" } : MethodName)) ∈ lwg := lwg_of (pt_6 _ (List.mem_of_getElem? (i := 16) rfl)) rfl
theorem k_1217 : (Cond.code ({ cls := "LevelTables", name := "reachSomething", desc := "(I)Z" } : MethodName) prog_1_method_18_code (3 : Nat) (Option.some FieldType.boolean)) ∈ lwg := lwg_of (pt_6 _ (List.mem_of_getElem? (i := 17) rfl)) rfl
theorem k_1218 : (Cond.methodLink "LevelTablesLaw" (91 : Nat) ({ cls := "LevelTablesLaw", name := "current", desc := "(LLevelTables;I[J)I" } : MethodName)) ∈ lwg := lwg_of (pt_6 _ (List.mem_of_getElem? (i := 18) rfl)) rfl
theorem k_1219 : (Cond.static ({ cls := "LevelTablesLaw", name := "current", desc := "(LLevelTables;I[J)I" } : MethodName)) ∈ lwg := lwg_of (pt_6 _ (List.mem_of_getElem? (i := 19) rfl)) rfl
theorem k_1220 : (Cond.codeWith ({ cls := "LevelTablesLaw", name := "current", desc := "(LLevelTables;I[J)I" } : MethodName) method_11_code (4 : Nat) (Option.some FieldType.int) [((0 : Nat), (9 : Nat), (12 : Nat), (19 : Nat)), ((0 : Nat), (9 : Nat), (15 : Nat), (40 : Nat))]) ∈ lwg := lwg_of (pt_6 _ (List.mem_of_getElem? (i := 20) rfl)) rfl
theorem k_1221 : (Cond.methodLink "LevelTablesLaw" (46 : Nat) ({ cls := "LevelTables", name := "current", desc := "(I)I" } : MethodName)) ∈ lwg := lwg_of (pt_6 _ (List.mem_of_getElem? (i := 21) rfl)) rfl
theorem k_1222 : (Cond.instanceMethod ({ cls := "LevelTables", name := "current", desc := "(I)I" } : MethodName)) ∈ lwg := lwg_of (pt_6 _ (List.mem_of_getElem? (i := 22) rfl)) rfl
theorem k_1223 : (Cond.selects "LevelTables" ({ cls := "LevelTables", name := "current", desc := "(I)I" } : MethodName) ({ cls := "LevelTables", name := "current", desc := "(I)I" } : MethodName)) ∈ lwg := lwg_of (pt_6 _ (List.mem_of_getElem? (i := 23) rfl)) rfl
theorem k_1224 : (Cond.code ({ cls := "LevelTables", name := "current", desc := "(I)I" } : MethodName) prog_1_method_10_code (2 : Nat) (Option.some FieldType.int)) ∈ lwg := lwg_of (pt_6 _ (List.mem_of_getElem? (i := 24) rfl)) rfl
theorem k_1225 : (Cond.methodLink "LevelTables" (159 : Nat) ({ cls := "LevelTables$Version", name := "size", desc := "()I" } : MethodName)) ∈ lwg := lwg_of (pt_6 _ (List.mem_of_getElem? (i := 25) rfl)) rfl
theorem k_1226 : (Cond.instanceMethod ({ cls := "LevelTables$Version", name := "size", desc := "()I" } : MethodName)) ∈ lwg := lwg_of (pt_6 _ (List.mem_of_getElem? (i := 26) rfl)) rfl
theorem k_1227 : (Cond.selects "LevelTables$Version" ({ cls := "LevelTables$Version", name := "size", desc := "()I" } : MethodName) ({ cls := "LevelTables$Version", name := "size", desc := "()I" } : MethodName)) ∈ lwg := lwg_of (pt_6 _ (List.mem_of_getElem? (i := 27) rfl)) rfl
theorem k_1228 : (Cond.code ({ cls := "LevelTables$Version", name := "size", desc := "()I" } : MethodName) prog_8_method_6_code (1 : Nat) (Option.some FieldType.int)) ∈ lwg := lwg_of (pt_6 _ (List.mem_of_getElem? (i := 28) rfl)) rfl
theorem k_1229 : (Cond.methodLink "LevelTables" (165 : Nat) ({ cls := "LevelTables$Version", name := "length", desc := "()I" } : MethodName)) ∈ lwg := lwg_of (pt_6 _ (List.mem_of_getElem? (i := 29) rfl)) rfl
theorem k_1230 : (Cond.methodLink "LevelTablesLaw" (94 : Nat) ({ cls := "LevelTablesLaw", name := "word", desc := "(LLevelTables;I[J)I" } : MethodName)) ∈ lwg := lwg_of (pt_6 _ (List.mem_of_getElem? (i := 30) rfl)) rfl
theorem k_1231 : (Cond.static ({ cls := "LevelTablesLaw", name := "word", desc := "(LLevelTables;I[J)I" } : MethodName)) ∈ lwg := lwg_of (pt_6 _ (List.mem_of_getElem? (i := 31) rfl)) rfl
theorem k_1232 : (Cond.codeWith ({ cls := "LevelTablesLaw", name := "word", desc := "(LLevelTables;I[J)I" } : MethodName) method_12_code (4 : Nat) (Option.some FieldType.int) [((0 : Nat), (8 : Nat), (11 : Nat), (40 : Nat)), ((0 : Nat), (8 : Nat), (14 : Nat), (13 : Nat))]) ∈ lwg := lwg_of (pt_6 _ (List.mem_of_getElem? (i := 32) rfl)) rfl
theorem k_1233 : (Cond.methodLink "LevelTablesLaw" (49 : Nat) ({ cls := "LevelTables", name := "word", desc := "(I)J" } : MethodName)) ∈ lwg := lwg_of (pt_6 _ (List.mem_of_getElem? (i := 33) rfl)) rfl
theorem k_1234 : (Cond.instanceMethod ({ cls := "LevelTables", name := "word", desc := "(I)J" } : MethodName)) ∈ lwg := lwg_of (pt_6 _ (List.mem_of_getElem? (i := 34) rfl)) rfl
theorem k_1235 : (Cond.selects "LevelTables" ({ cls := "LevelTables", name := "word", desc := "(I)J" } : MethodName) ({ cls := "LevelTables", name := "word", desc := "(I)J" } : MethodName)) ∈ lwg := lwg_of (pt_6 _ (List.mem_of_getElem? (i := 35) rfl)) rfl
theorem k_1236 : (Cond.code ({ cls := "LevelTables", name := "word", desc := "(I)J" } : MethodName) prog_1_method_11_code (2 : Nat) (Option.some FieldType.long)) ∈ lwg := lwg_of (pt_6 _ (List.mem_of_getElem? (i := 36) rfl)) rfl
theorem k_1237 : (Cond.methodLink "LevelTables" (166 : Nat) ({ cls := "LevelTables$Version", name := "eightBytes", desc := "(I)J" } : MethodName)) ∈ lwg := lwg_of (pt_6 _ (List.mem_of_getElem? (i := 37) rfl)) rfl
theorem k_1238 : (Cond.instanceMethod ({ cls := "LevelTables$Version", name := "eightBytes", desc := "(I)J" } : MethodName)) ∈ lwg := lwg_of (pt_6 _ (List.mem_of_getElem? (i := 38) rfl)) rfl
theorem k_1239 : (Cond.selects "LevelTables$Version" ({ cls := "LevelTables$Version", name := "eightBytes", desc := "(I)J" } : MethodName) ({ cls := "LevelTables$Version", name := "eightBytes", desc := "(I)J" } : MethodName)) ∈ lwg := lwg_of (pt_6 _ (List.mem_of_getElem? (i := 39) rfl)) rfl
theorem k_1240 : (Cond.code ({ cls := "LevelTables$Version", name := "eightBytes", desc := "(I)J" } : MethodName) prog_8_method_14_code (5 : Nat) (Option.some FieldType.long)) ∈ lwg := lwg_of (pt_6 _ (List.mem_of_getElem? (i := 40) rfl)) rfl
theorem k_1241 : (Cond.methodLink "LevelTables$Version" (47 : Nat) ({ cls := "LevelTables$Version", name := "byteAt", desc := "(I)J" } : MethodName)) ∈ lwg := lwg_of (pt_6 _ (List.mem_of_getElem? (i := 41) rfl)) rfl
theorem k_1243 : (Cond.instanceMethod ({ cls := "LevelTables$Version", name := "byteAt", desc := "(I)J" } : MethodName)) ∈ lwg := lwg_of (pt_6 _ (List.mem_of_getElem? (i := 43) rfl)) rfl
theorem k_1244 : (Cond.code ({ cls := "LevelTables$Version", name := "byteAt", desc := "(I)J" } : MethodName) prog_8_method_15_code (2 : Nat) (Option.some FieldType.long)) ∈ lwg := lwg_of (pt_6 _ (List.mem_of_getElem? (i := 44) rfl)) rfl
theorem k_1245 : (Cond.classLink "LevelTablesLaw" (54 : Nat) "LevelTablesModel") ∈ lwg := lwg_of (pt_6 _ (List.mem_of_getElem? (i := 45) rfl)) rfl
theorem k_1246 : (Cond.instantiable "LevelTablesModel" (12 : Nat)) ∈ lwg := lwg_of (pt_6 _ (List.mem_of_getElem? (i := 46) rfl)) rfl
theorem k_1247 : (Cond.methodLink "LevelTablesLaw" (56 : Nat) ({ cls := "LevelTablesModel", name := "<init>", desc := "()V" } : MethodName)) ∈ lwg := lwg_of (pt_6 _ (List.mem_of_getElem? (i := 47) rfl)) rfl
theorem k_1248 : (Cond.instanceMethod ({ cls := "LevelTablesModel", name := "<init>", desc := "()V" } : MethodName)) ∈ lwg := lwg_of (pt_6 _ (List.mem_of_getElem? (i := 48) rfl)) rfl
theorem k_1249 : (Cond.code ({ cls := "LevelTablesModel", name := "<init>", desc := "()V" } : MethodName) prog_13_method_1_code (1 : Nat) (Option.none : Option Jvm.ClassFile.FieldType)) ∈ lwg := lwg_of (pt_6 _ (List.mem_of_getElem? (i := 49) rfl)) rfl
theorem k_1250 : (Cond.methodLink "LevelTablesModel" (1 : Nat) ({ cls := "java/lang/Object", name := "<init>", desc := "()V" } : MethodName)) ∈ lwg := lwg_of (pt_6 _ (List.mem_of_getElem? (i := 50) rfl)) rfl
theorem k_1251 : (Cond.fieldLink "LevelTablesModel" (37 : Nat) "LevelTablesModel" "failed" "I") ∈ lwg := lwg_of (pt_6 _ (List.mem_of_getElem? (i := 51) rfl)) rfl
theorem k_1252 : (Cond.fieldLink "LevelTablesModel" (7 : Nat) "LevelTablesModel" "tape" "[B") ∈ lwg := lwg_of (pt_6 _ (List.mem_of_getElem? (i := 52) rfl)) rfl
theorem k_1253 : (Cond.fieldLink "LevelTablesModel" (40 : Nat) "LevelTablesModel" "taped" "I") ∈ lwg := lwg_of (pt_6 _ (List.mem_of_getElem? (i := 53) rfl)) rfl
theorem k_1254 : (Cond.fieldLink "LevelTablesModel" (13 : Nat) "LevelTablesModel" "keys" "[B") ∈ lwg := lwg_of (pt_6 _ (List.mem_of_getElem? (i := 54) rfl)) rfl
theorem k_1255 : (Cond.fieldLink "LevelTablesModel" (16 : Nat) "LevelTablesModel" "lengths" "[I") ∈ lwg := lwg_of (pt_6 _ (List.mem_of_getElem? (i := 55) rfl)) rfl
theorem k_1256 : (Cond.fieldLink "LevelTablesModel" (20 : Nat) "LevelTablesModel" "places" "[I") ∈ lwg := lwg_of (pt_6 _ (List.mem_of_getElem? (i := 56) rfl)) rfl
theorem k_1257 : (Cond.fieldLink "LevelTablesModel" (23 : Nat) "LevelTablesModel" "sizes" "[I") ∈ lwg := lwg_of (pt_6 _ (List.mem_of_getElem? (i := 57) rfl)) rfl
theorem k_1258 : (Cond.fieldLink "LevelTablesModel" (47 : Nat) "LevelTablesModel" "made" "I") ∈ lwg := lwg_of (pt_6 _ (List.mem_of_getElem? (i := 58) rfl)) rfl
theorem k_1259 : (Cond.fieldLink "LevelTablesModel" (54 : Nat) "LevelTablesModel" "standing" "I") ∈ lwg := lwg_of (pt_6 _ (List.mem_of_getElem? (i := 59) rfl)) rfl
theorem k_1260 : (Cond.fieldLink "LevelTablesModel" (26 : Nat) "LevelTablesModel" "open" "[Z") ∈ lwg := lwg_of (pt_6 _ (List.mem_of_getElem? (i := 60) rfl)) rfl
theorem k_1261 : (Cond.fieldLink "LevelTablesModel" (30 : Nat) "LevelTablesModel" "sees" "[I") ∈ lwg := lwg_of (pt_6 _ (List.mem_of_getElem? (i := 61) rfl)) rfl
theorem k_1262 : (Cond.fieldLink "LevelTablesModel" (33 : Nat) "LevelTablesModel" "at" "I") ∈ lwg := lwg_of (pt_6 _ (List.mem_of_getElem? (i := 62) rfl)) rfl
theorem k_1263 : (Cond.lays "LevelTablesModel" "LevelTablesModel" "failed" "I") ∈ lwg := lwg_of (pt_6 _ (List.mem_of_getElem? (i := 63) rfl)) rfl
theorem k_1265 : (Cond.laysFinal "LevelTablesModel" "LevelTablesModel" "tape" "[B") ∈ lwg := lwg_of (pt_6 _ (List.mem_of_getElem? (i := 65) rfl)) rfl
theorem k_1267 : (Cond.lays "LevelTablesModel" "LevelTablesModel" "taped" "I") ∈ lwg := lwg_of (pt_6 _ (List.mem_of_getElem? (i := 67) rfl)) rfl
theorem k_1269 : (Cond.laysFinal "LevelTablesModel" "LevelTablesModel" "keys" "[B") ∈ lwg := lwg_of (pt_6 _ (List.mem_of_getElem? (i := 69) rfl)) rfl
theorem k_1271 : (Cond.laysFinal "LevelTablesModel" "LevelTablesModel" "lengths" "[I") ∈ lwg := lwg_of (pt_6 _ (List.mem_of_getElem? (i := 71) rfl)) rfl
theorem k_1273 : (Cond.laysFinal "LevelTablesModel" "LevelTablesModel" "places" "[I") ∈ lwg := lwg_of (pt_6 _ (List.mem_of_getElem? (i := 73) rfl)) rfl
theorem k_1275 : (Cond.laysFinal "LevelTablesModel" "LevelTablesModel" "sizes" "[I") ∈ lwg := lwg_of (pt_6 _ (List.mem_of_getElem? (i := 75) rfl)) rfl
theorem k_1277 : (Cond.lays "LevelTablesModel" "LevelTablesModel" "made" "I") ∈ lwg := lwg_of (pt_6 _ (List.mem_of_getElem? (i := 77) rfl)) rfl
theorem k_1279 : (Cond.lays "LevelTablesModel" "LevelTablesModel" "standing" "I") ∈ lwg := lwg_of (pt_6 _ (List.mem_of_getElem? (i := 79) rfl)) rfl
theorem k_1281 : (Cond.laysFinal "LevelTablesModel" "LevelTablesModel" "open" "[Z") ∈ lwg := lwg_of (pt_6 _ (List.mem_of_getElem? (i := 81) rfl)) rfl
theorem k_1283 : (Cond.laysFinal "LevelTablesModel" "LevelTablesModel" "sees" "[I") ∈ lwg := lwg_of (pt_6 _ (List.mem_of_getElem? (i := 83) rfl)) rfl
theorem k_1285 : (Cond.lays "LevelTablesModel" "LevelTablesModel" "at" "I") ∈ lwg := lwg_of (pt_6 _ (List.mem_of_getElem? (i := 85) rfl)) rfl
theorem k_1288 : (Cond.arrayClass FieldType.boolean) ∈ lwg := lwg_of (pt_6 _ (List.mem_of_getElem? (i := 88) rfl)) rfl
theorem k_1289 : (Cond.methodLink "LevelTablesLaw" (63 : Nat) ({ cls := "LevelTablesModel", name := "thrown", desc := "()I" } : MethodName)) ∈ lwg := lwg_of (pt_6 _ (List.mem_of_getElem? (i := 89) rfl)) rfl
theorem k_1290 : (Cond.instanceMethod ({ cls := "LevelTablesModel", name := "thrown", desc := "()I" } : MethodName)) ∈ lwg := lwg_of (pt_6 _ (List.mem_of_getElem? (i := 90) rfl)) rfl
theorem k_1291 : (Cond.selects "LevelTablesModel" ({ cls := "LevelTablesModel", name := "thrown", desc := "()I" } : MethodName) ({ cls := "LevelTablesModel", name := "thrown", desc := "()I" } : MethodName)) ∈ lwg := lwg_of (pt_6 _ (List.mem_of_getElem? (i := 91) rfl)) rfl
theorem k_1292 : (Cond.code ({ cls := "LevelTablesModel", name := "thrown", desc := "()I" } : MethodName) prog_13_method_2_code (1 : Nat) (Option.some FieldType.int)) ∈ lwg := lwg_of (pt_6 _ (List.mem_of_getElem? (i := 92) rfl)) rfl
theorem k_1293 : (Cond.methodLink "LevelTablesLaw" (62 : Nat) ({ cls := "LevelTablesModel", name := "feed", desc := "(IIIII)I" } : MethodName)) ∈ lwg := lwg_of (pt_6 _ (List.mem_of_getElem? (i := 93) rfl)) rfl
theorem k_1294 : (Cond.instanceMethod ({ cls := "LevelTablesModel", name := "feed", desc := "(IIIII)I" } : MethodName)) ∈ lwg := lwg_of (pt_6 _ (List.mem_of_getElem? (i := 94) rfl)) rfl
theorem k_1295 : (Cond.selects "LevelTablesModel" ({ cls := "LevelTablesModel", name := "feed", desc := "(IIIII)I" } : MethodName) ({ cls := "LevelTablesModel", name := "feed", desc := "(IIIII)I" } : MethodName)) ∈ lwg := lwg_of (pt_6 _ (List.mem_of_getElem? (i := 95) rfl)) rfl
theorem k_1296 : (Cond.code ({ cls := "LevelTablesModel", name := "feed", desc := "(IIIII)I" } : MethodName) prog_13_method_4_code (8 : Nat) (Option.some FieldType.int)) ∈ lwg := lwg_of (pt_6 _ (List.mem_of_getElem? (i := 96) rfl)) rfl
theorem k_1297 : (Cond.methodLink "LevelTablesModel" (43 : Nat) ({ cls := "LevelTablesModel", name := "fail", desc := "(I)I" } : MethodName)) ∈ lwg := lwg_of (pt_6 _ (List.mem_of_getElem? (i := 97) rfl)) rfl
theorem k_1299 : (Cond.instanceMethod ({ cls := "LevelTablesModel", name := "fail", desc := "(I)I" } : MethodName)) ∈ lwg := lwg_of (pt_6 _ (List.mem_of_getElem? (i := 99) rfl)) rfl
theorem k_1300 : (Cond.code ({ cls := "LevelTablesModel", name := "fail", desc := "(I)I" } : MethodName) prog_13_method_3_code (2 : Nat) (Option.some FieldType.int)) ∈ lwg := lwg_of (pt_6 _ (List.mem_of_getElem? (i := 100) rfl)) rfl
theorem k_1301 : (Cond.methodLink "LevelTablesLaw" (69 : Nat) ({ cls := "LevelTablesModel", name := "end", desc := "(I)I" } : MethodName)) ∈ lwg := lwg_of (pt_6 _ (List.mem_of_getElem? (i := 101) rfl)) rfl
theorem k_1302 : (Cond.instanceMethod ({ cls := "LevelTablesModel", name := "end", desc := "(I)I" } : MethodName)) ∈ lwg := lwg_of (pt_6 _ (List.mem_of_getElem? (i := 102) rfl)) rfl
theorem k_1303 : (Cond.selects "LevelTablesModel" ({ cls := "LevelTablesModel", name := "end", desc := "(I)I" } : MethodName) ({ cls := "LevelTablesModel", name := "end", desc := "(I)I" } : MethodName)) ∈ lwg := lwg_of (pt_6 _ (List.mem_of_getElem? (i := 103) rfl)) rfl
theorem k_1304 : (Cond.code ({ cls := "LevelTablesModel", name := "end", desc := "(I)I" } : MethodName) prog_13_method_5_code (2 : Nat) (Option.some FieldType.int)) ∈ lwg := lwg_of (pt_6 _ (List.mem_of_getElem? (i := 104) rfl)) rfl
theorem k_1305 : (Cond.methodLink "LevelTablesLaw" (73 : Nat) ({ cls := "LevelTablesModel", name := "put", desc := "(II)I" } : MethodName)) ∈ lwg := lwg_of (pt_6 _ (List.mem_of_getElem? (i := 105) rfl)) rfl
theorem k_1306 : (Cond.instanceMethod ({ cls := "LevelTablesModel", name := "put", desc := "(II)I" } : MethodName)) ∈ lwg := lwg_of (pt_6 _ (List.mem_of_getElem? (i := 106) rfl)) rfl
theorem k_1307 : (Cond.selects "LevelTablesModel" ({ cls := "LevelTablesModel", name := "put", desc := "(II)I" } : MethodName) ({ cls := "LevelTablesModel", name := "put", desc := "(II)I" } : MethodName)) ∈ lwg := lwg_of (pt_6 _ (List.mem_of_getElem? (i := 107) rfl)) rfl
theorem k_1308 : (Cond.code ({ cls := "LevelTablesModel", name := "put", desc := "(II)I" } : MethodName) prog_13_method_8_code (3 : Nat) (Option.some FieldType.int)) ∈ lwg := lwg_of (pt_6 _ (List.mem_of_getElem? (i := 108) rfl)) rfl
theorem k_1309 : (Cond.methodLink "LevelTablesModel" (57 : Nat) ({ cls := "LevelTablesModel", name := "keyed", desc := "()Z" } : MethodName)) ∈ lwg := lwg_of (pt_6 _ (List.mem_of_getElem? (i := 109) rfl)) rfl
theorem k_1311 : (Cond.instanceMethod ({ cls := "LevelTablesModel", name := "keyed", desc := "()Z" } : MethodName)) ∈ lwg := lwg_of (pt_6 _ (List.mem_of_getElem? (i := 111) rfl)) rfl
theorem k_1312 : (Cond.code ({ cls := "LevelTablesModel", name := "keyed", desc := "()Z" } : MethodName) prog_13_method_6_code (1 : Nat) (Option.some FieldType.boolean)) ∈ lwg := lwg_of (pt_6 _ (List.mem_of_getElem? (i := 112) rfl)) rfl
theorem k_1313 : (Cond.methodLink "LevelTablesModel" (61 : Nat) ({ cls := "LevelTablesModel", name := "enter", desc := "(II)I" } : MethodName)) ∈ lwg := lwg_of (pt_6 _ (List.mem_of_getElem? (i := 113) rfl)) rfl
theorem k_1315 : (Cond.instanceMethod ({ cls := "LevelTablesModel", name := "enter", desc := "(II)I" } : MethodName)) ∈ lwg := lwg_of (pt_6 _ (List.mem_of_getElem? (i := 115) rfl)) rfl
theorem k_1316 : (Cond.code ({ cls := "LevelTablesModel", name := "enter", desc := "(II)I" } : MethodName) prog_13_method_7_code (6 : Nat) (Option.some FieldType.int)) ∈ lwg := lwg_of (pt_6 _ (List.mem_of_getElem? (i := 116) rfl)) rfl
theorem k_1317 : (Cond.methodLink "LevelTablesModel" (50 : Nat) ({ cls := "LevelTablesModel", name := "compareTape", desc := "(II)I" } : MethodName)) ∈ lwg := lwg_of (pt_6 _ (List.mem_of_getElem? (i := 117) rfl)) rfl
theorem k_1319 : (Cond.instanceMethod ({ cls := "LevelTablesModel", name := "compareTape", desc := "(II)I" } : MethodName)) ∈ lwg := lwg_of (pt_6 _ (List.mem_of_getElem? (i := 119) rfl)) rfl
theorem k_1320 : (Cond.code ({ cls := "LevelTablesModel", name := "compareTape", desc := "(II)I" } : MethodName) prog_13_method_13_code (5 : Nat) (Option.some FieldType.int)) ∈ lwg := lwg_of (pt_6 _ (List.mem_of_getElem? (i := 120) rfl)) rfl
theorem k_1321 : (Cond.methodLink "LevelTablesLaw" (77 : Nat) ({ cls := "LevelTablesModel", name := "out", desc := "()I" } : MethodName)) ∈ lwg := lwg_of (pt_6 _ (List.mem_of_getElem? (i := 121) rfl)) rfl
theorem k_1322 : (Cond.instanceMethod ({ cls := "LevelTablesModel", name := "out", desc := "()I" } : MethodName)) ∈ lwg := lwg_of (pt_6 _ (List.mem_of_getElem? (i := 122) rfl)) rfl
theorem k_1323 : (Cond.selects "LevelTablesModel" ({ cls := "LevelTablesModel", name := "out", desc := "()I" } : MethodName) ({ cls := "LevelTablesModel", name := "out", desc := "()I" } : MethodName)) ∈ lwg := lwg_of (pt_6 _ (List.mem_of_getElem? (i := 123) rfl)) rfl
theorem k_1324 : (Cond.code ({ cls := "LevelTablesModel", name := "out", desc := "()I" } : MethodName) prog_13_method_9_code (1 : Nat) (Option.some FieldType.int)) ∈ lwg := lwg_of (pt_6 _ (List.mem_of_getElem? (i := 124) rfl)) rfl
theorem k_1325 : (Cond.methodLink "LevelTablesLaw" (80 : Nat) ({ cls := "LevelTablesModel", name := "open", desc := "(I)I" } : MethodName)) ∈ lwg := lwg_of (pt_6 _ (List.mem_of_getElem? (i := 125) rfl)) rfl
theorem k_1326 : (Cond.instanceMethod ({ cls := "LevelTablesModel", name := "open", desc := "(I)I" } : MethodName)) ∈ lwg := lwg_of (pt_6 _ (List.mem_of_getElem? (i := 126) rfl)) rfl
theorem k_1327 : (Cond.selects "LevelTablesModel" ({ cls := "LevelTablesModel", name := "open", desc := "(I)I" } : MethodName) ({ cls := "LevelTablesModel", name := "open", desc := "(I)I" } : MethodName)) ∈ lwg := lwg_of (pt_6 _ (List.mem_of_getElem? (i := 127) rfl)) rfl
theorem k_1328 : (Cond.code ({ cls := "LevelTablesModel", name := "open", desc := "(I)I" } : MethodName) prog_13_method_10_code (2 : Nat) (Option.some FieldType.int)) ∈ lwg := lwg_of (pt_6 _ (List.mem_of_getElem? (i := 128) rfl)) rfl
theorem k_1329 : (Cond.methodLink "LevelTablesLaw" (83 : Nat) ({ cls := "LevelTablesModel", name := "close", desc := "(I)I" } : MethodName)) ∈ lwg := lwg_of (pt_6 _ (List.mem_of_getElem? (i := 129) rfl)) rfl
theorem k_1330 : (Cond.instanceMethod ({ cls := "LevelTablesModel", name := "close", desc := "(I)I" } : MethodName)) ∈ lwg := lwg_of (pt_6 _ (List.mem_of_getElem? (i := 130) rfl)) rfl
theorem k_1331 : (Cond.selects "LevelTablesModel" ({ cls := "LevelTablesModel", name := "close", desc := "(I)I" } : MethodName) ({ cls := "LevelTablesModel", name := "close", desc := "(I)I" } : MethodName)) ∈ lwg := lwg_of (pt_6 _ (List.mem_of_getElem? (i := 131) rfl)) rfl
theorem k_1332 : (Cond.code ({ cls := "LevelTablesModel", name := "close", desc := "(I)I" } : MethodName) prog_13_method_11_code (2 : Nat) (Option.some FieldType.int)) ∈ lwg := lwg_of (pt_6 _ (List.mem_of_getElem? (i := 132) rfl)) rfl
theorem k_1333 : (Cond.methodLink "LevelTablesLaw" (86 : Nat) ({ cls := "LevelTablesModel", name := "find", desc := "(I)I" } : MethodName)) ∈ lwg := lwg_of (pt_6 _ (List.mem_of_getElem? (i := 133) rfl)) rfl
theorem k_1334 : (Cond.instanceMethod ({ cls := "LevelTablesModel", name := "find", desc := "(I)I" } : MethodName)) ∈ lwg := lwg_of (pt_6 _ (List.mem_of_getElem? (i := 134) rfl)) rfl
theorem k_1335 : (Cond.selects "LevelTablesModel" ({ cls := "LevelTablesModel", name := "find", desc := "(I)I" } : MethodName) ({ cls := "LevelTablesModel", name := "find", desc := "(I)I" } : MethodName)) ∈ lwg := lwg_of (pt_6 _ (List.mem_of_getElem? (i := 135) rfl)) rfl
theorem k_1336 : (Cond.code ({ cls := "LevelTablesModel", name := "find", desc := "(I)I" } : MethodName) prog_13_method_15_code (5 : Nat) (Option.some FieldType.int)) ∈ lwg := lwg_of (pt_6 _ (List.mem_of_getElem? (i := 136) rfl)) rfl
theorem k_1337 : (Cond.methodLink "LevelTablesLaw" (90 : Nat) ({ cls := "LevelTablesModel", name := "seek", desc := "(IZ)I" } : MethodName)) ∈ lwg := lwg_of (pt_6 _ (List.mem_of_getElem? (i := 137) rfl)) rfl
theorem k_1338 : (Cond.instanceMethod ({ cls := "LevelTablesModel", name := "seek", desc := "(IZ)I" } : MethodName)) ∈ lwg := lwg_of (pt_6 _ (List.mem_of_getElem? (i := 138) rfl)) rfl
theorem k_1339 : (Cond.selects "LevelTablesModel" ({ cls := "LevelTablesModel", name := "seek", desc := "(IZ)I" } : MethodName) ({ cls := "LevelTablesModel", name := "seek", desc := "(IZ)I" } : MethodName)) ∈ lwg := lwg_of (pt_6 _ (List.mem_of_getElem? (i := 139) rfl)) rfl
theorem k_1340 : (Cond.code ({ cls := "LevelTablesModel", name := "seek", desc := "(IZ)I" } : MethodName) prog_13_method_16_code (7 : Nat) (Option.some FieldType.int)) ∈ lwg := lwg_of (pt_6 _ (List.mem_of_getElem? (i := 140) rfl)) rfl
theorem k_1341 : (Cond.methodLink "LevelTablesModel" (64 : Nat) ({ cls := "LevelTablesModel", name := "compare", desc := "(II)I" } : MethodName)) ∈ lwg := lwg_of (pt_6 _ (List.mem_of_getElem? (i := 141) rfl)) rfl
theorem k_1343 : (Cond.instanceMethod ({ cls := "LevelTablesModel", name := "compare", desc := "(II)I" } : MethodName)) ∈ lwg := lwg_of (pt_6 _ (List.mem_of_getElem? (i := 143) rfl)) rfl
theorem k_1344 : (Cond.code ({ cls := "LevelTablesModel", name := "compare", desc := "(II)I" } : MethodName) prog_13_method_12_code (5 : Nat) (Option.some FieldType.int)) ∈ lwg := lwg_of (pt_6 _ (List.mem_of_getElem? (i := 144) rfl)) rfl
theorem k_1345 : (Cond.methodLink "LevelTablesModel" (67 : Nat) ({ cls := "LevelTablesModel", name := "stands", desc := "(II)Z" } : MethodName)) ∈ lwg := lwg_of (pt_6 _ (List.mem_of_getElem? (i := 145) rfl)) rfl
theorem k_1347 : (Cond.instanceMethod ({ cls := "LevelTablesModel", name := "stands", desc := "(II)Z" } : MethodName)) ∈ lwg := lwg_of (pt_6 _ (List.mem_of_getElem? (i := 147) rfl)) rfl
theorem k_1348 : (Cond.code ({ cls := "LevelTablesModel", name := "stands", desc := "(II)Z" } : MethodName) prog_13_method_14_code (4 : Nat) (Option.some FieldType.boolean)) ∈ lwg := lwg_of (pt_6 _ (List.mem_of_getElem? (i := 148) rfl)) rfl
theorem k_1349 : (Cond.methodLink "LevelTablesLaw" (93 : Nat) ({ cls := "LevelTablesModel", name := "current", desc := "(I)I" } : MethodName)) ∈ lwg := lwg_of (pt_6 _ (List.mem_of_getElem? (i := 149) rfl)) rfl
theorem k_1350 : (Cond.instanceMethod ({ cls := "LevelTablesModel", name := "current", desc := "(I)I" } : MethodName)) ∈ lwg := lwg_of (pt_6 _ (List.mem_of_getElem? (i := 150) rfl)) rfl
theorem k_1351 : (Cond.selects "LevelTablesModel" ({ cls := "LevelTablesModel", name := "current", desc := "(I)I" } : MethodName) ({ cls := "LevelTablesModel", name := "current", desc := "(I)I" } : MethodName)) ∈ lwg := lwg_of (pt_6 _ (List.mem_of_getElem? (i := 151) rfl)) rfl
theorem k_1352 : (Cond.code ({ cls := "LevelTablesModel", name := "current", desc := "(I)I" } : MethodName) prog_13_method_17_code (2 : Nat) (Option.some FieldType.int)) ∈ lwg := lwg_of (pt_6 _ (List.mem_of_getElem? (i := 152) rfl)) rfl
theorem k_1353 : (Cond.methodLink "LevelTablesLaw" (96 : Nat) ({ cls := "LevelTablesModel", name := "word", desc := "(I)J" } : MethodName)) ∈ lwg := lwg_of (pt_6 _ (List.mem_of_getElem? (i := 153) rfl)) rfl
theorem k_1354 : (Cond.instanceMethod ({ cls := "LevelTablesModel", name := "word", desc := "(I)J" } : MethodName)) ∈ lwg := lwg_of (pt_6 _ (List.mem_of_getElem? (i := 154) rfl)) rfl
theorem k_1355 : (Cond.selects "LevelTablesModel" ({ cls := "LevelTablesModel", name := "word", desc := "(I)J" } : MethodName) ({ cls := "LevelTablesModel", name := "word", desc := "(I)J" } : MethodName)) ∈ lwg := lwg_of (pt_6 _ (List.mem_of_getElem? (i := 155) rfl)) rfl
theorem k_1356 : (Cond.code ({ cls := "LevelTablesModel", name := "word", desc := "(I)J" } : MethodName) prog_13_method_18_code (5 : Nat) (Option.some FieldType.long)) ∈ lwg := lwg_of (pt_6 _ (List.mem_of_getElem? (i := 156) rfl)) rfl
theorem k_1357 : (Cond.constantLong "LevelTablesModel" (71 : Nat) (256 : Int64)) ∈ lwg := lwg_of (pt_6 _ (List.mem_of_getElem? (i := 157) rfl)) rfl
theorem k_1358 : (Cond.methodLink "LevelTablesLaw" (100 : Nat) ({ cls := "LevelTablesModel", name := "flush", desc := "()I" } : MethodName)) ∈ lwg := lwg_of (pt_6 _ (List.mem_of_getElem? (i := 158) rfl)) rfl
theorem k_1359 : (Cond.instanceMethod ({ cls := "LevelTablesModel", name := "flush", desc := "()I" } : MethodName)) ∈ lwg := lwg_of (pt_6 _ (List.mem_of_getElem? (i := 159) rfl)) rfl
theorem k_1360 : (Cond.selects "LevelTablesModel" ({ cls := "LevelTablesModel", name := "flush", desc := "()I" } : MethodName) ({ cls := "LevelTablesModel", name := "flush", desc := "()I" } : MethodName)) ∈ lwg := lwg_of (pt_6 _ (List.mem_of_getElem? (i := 160) rfl)) rfl
theorem k_1361 : (Cond.code ({ cls := "LevelTablesModel", name := "flush", desc := "()I" } : MethodName) prog_13_method_20_code (1 : Nat) (Option.some FieldType.int)) ∈ lwg := lwg_of (pt_6 _ (List.mem_of_getElem? (i := 161) rfl)) rfl
theorem k_1362 : (Cond.methodLink "LevelTablesModel" (73 : Nat) ({ cls := "LevelTablesModel", name := "present", desc := "()I" } : MethodName)) ∈ lwg := lwg_of (pt_6 _ (List.mem_of_getElem? (i := 162) rfl)) rfl
theorem k_1364 : (Cond.instanceMethod ({ cls := "LevelTablesModel", name := "present", desc := "()I" } : MethodName)) ∈ lwg := lwg_of (pt_6 _ (List.mem_of_getElem? (i := 164) rfl)) rfl
theorem k_1365 : (Cond.code ({ cls := "LevelTablesModel", name := "present", desc := "()I" } : MethodName) prog_13_method_19_code (1 : Nat) (Option.some FieldType.int)) ∈ lwg := lwg_of (pt_6 _ (List.mem_of_getElem? (i := 165) rfl)) rfl
theorem k_1366 : (Cond.methodLink "LevelTablesLaw" (105 : Nat) ({ cls := "LevelTablesModel", name := "merge", desc := "(Z)I" } : MethodName)) ∈ lwg := lwg_of (pt_6 _ (List.mem_of_getElem? (i := 166) rfl)) rfl
theorem k_1367 : (Cond.instanceMethod ({ cls := "LevelTablesModel", name := "merge", desc := "(Z)I" } : MethodName)) ∈ lwg := lwg_of (pt_6 _ (List.mem_of_getElem? (i := 167) rfl)) rfl
theorem k_1368 : (Cond.selects "LevelTablesModel" ({ cls := "LevelTablesModel", name := "merge", desc := "(Z)I" } : MethodName) ({ cls := "LevelTablesModel", name := "merge", desc := "(Z)I" } : MethodName)) ∈ lwg := lwg_of (pt_6 _ (List.mem_of_getElem? (i := 168) rfl)) rfl
theorem k_1369 : (Cond.code ({ cls := "LevelTablesModel", name := "merge", desc := "(Z)I" } : MethodName) prog_13_method_21_code (2 : Nat) (Option.some FieldType.int)) ∈ lwg := lwg_of (pt_6 _ (List.mem_of_getElem? (i := 169) rfl)) rfl
theorem k_1370 : (Cond.methodLink "LevelTablesLaw" (109 : Nat) ({ cls := "LevelTablesModel", name := "check", desc := "()I" } : MethodName)) ∈ lwg := lwg_of (pt_6 _ (List.mem_of_getElem? (i := 170) rfl)) rfl
theorem k_1371 : (Cond.instanceMethod ({ cls := "LevelTablesModel", name := "check", desc := "()I" } : MethodName)) ∈ lwg := lwg_of (pt_6 _ (List.mem_of_getElem? (i := 171) rfl)) rfl
theorem k_1372 : (Cond.selects "LevelTablesModel" ({ cls := "LevelTablesModel", name := "check", desc := "()I" } : MethodName) ({ cls := "LevelTablesModel", name := "check", desc := "()I" } : MethodName)) ∈ lwg := lwg_of (pt_6 _ (List.mem_of_getElem? (i := 172) rfl)) rfl
theorem k_1373 : (Cond.code ({ cls := "LevelTablesModel", name := "check", desc := "()I" } : MethodName) prog_13_method_22_code (1 : Nat) (Option.some FieldType.int)) ∈ lwg := lwg_of (pt_6 _ (List.mem_of_getElem? (i := 173) rfl)) rfl
theorem k_1375 : (Cond.selects "LevelTables$Level" ({ cls := "LevelTables$Run", name := "firstNotBefore", desc := "(LLevelTables$Version;)I" } : MethodName) ({ cls := "LevelTables$Run", name := "firstNotBefore", desc := "(LLevelTables$Version;)I" } : MethodName)) ∈ lwg := lwg_of (pt_6 _ (List.mem_of_getElem? (i := 175) rfl)) rfl
theorem k_1376 : (Cond.selects "LevelTables$Memory" ({ cls := "LevelTables$Run", name := "firstNotBefore", desc := "(LLevelTables$Version;)I" } : MethodName) ({ cls := "LevelTables$Run", name := "firstNotBefore", desc := "(LLevelTables$Version;)I" } : MethodName)) ∈ lwg := lwg_of (pt_6 _ (List.mem_of_getElem? (i := 176) rfl)) rfl
theorem k_1386 : (Cond.selects "LevelTables$Level" ({ cls := "LevelTables$Level", name := "load", desc := "(ILLevelTables$Version;)V" } : MethodName) ({ cls := "LevelTables$Level", name := "load", desc := "(ILLevelTables$Version;)V" } : MethodName)) ∈ lwg := lwg_of (pt_6 _ (List.mem_of_getElem? (i := 186) rfl)) rfl
theorem k_1387 : (Cond.selects "LevelTables$Level" ({ cls := "LevelTables$Level", name := "count", desc := "()I" } : MethodName) ({ cls := "LevelTables$Level", name := "count", desc := "()I" } : MethodName)) ∈ lwg := lwg_of (pt_6 _ (List.mem_of_getElem? (i := 187) rfl)) rfl
theorem k_1390 : (Cond.selects "[Ljava/lang/Object;" ({ cls := "java/lang/Object", name := "getClass", desc := "()Ljava/lang/Class;" } : MethodName) ({ cls := "java/lang/Object", name := "getClass", desc := "()Ljava/lang/Class;" } : MethodName)) ∈ lwg := lwg_of (pt_6 _ (List.mem_of_getElem? (i := 190) rfl)) rfl
theorem k_c4 : Cond.castable "LevelTables$Memory" "LevelTables$Run" ∈ lwn := k_1405
theorem k_c5 : Cond.castable "LevelTables$Level" "LevelTables$Run" ∈ lwn := k_1404
theorem k_c9 : Cond.castable "LevelTables$Table" "java/lang/Object" ∈ lwn := k_1402
theorem k_xi0 : Cond.initialized (x_nm 0) ∈ lwg := k_20
theorem k_xn0 : Cond.instantiable (x_nm 0) 6 ∈ lwg := k_893
theorem k_xc0 : Cond.castable (x_nm 0) (x_nm 0) ∈ lwn := k_894
theorem k_xi1 : Cond.initialized (x_nm 1) ∈ lwg := k_21
theorem k_xn1 : Cond.instantiable (x_nm 1) 6 ∈ lwg := k_1112
theorem k_xc1 : Cond.castable (x_nm 1) (x_nm 1) ∈ lwn := k_1113
theorem k_xi2 : Cond.initialized (x_nm 2) ∈ lwg := k_19
theorem k_xn2 : Cond.instantiable (x_nm 2) 6 ∈ lwg := k_650
theorem k_xc2 : Cond.castable (x_nm 2) (x_nm 2) ∈ lwn := k_651
theorem k_xi3 : Cond.initialized (x_nm 3) ∈ lwg := k_25
theorem k_xn3 : Cond.instantiable (x_nm 3) 6 ∈ lwg := k_1188
theorem k_xc3 : Cond.castable (x_nm 3) (x_nm 3) ∈ lwn := k_1189
theorem k_oi : Cond.instanceMethod Lib.objectInit ∈ lwg := k_41
theorem k_oc : Cond.code Lib.objectInit ⟨#[0xb1]⟩ 1 none ∈ lwg := k_42
theorem w_LT : ∀ w ∈ u_ws R_LT F_LT 16, w ∈ lwg := j_all_mem ⟨k_278, k_280, k_250, k_252, k_254, k_256, k_258, k_260, k_262, k_264, k_266, k_268, k_270, k_272, k_274, k_276, trivial⟩
theorem w_Tp : ∀ w ∈ u_ws R_Tp F_Tp 2, w ∈ lwg := j_all_mem ⟨k_53, k_51, trivial⟩
theorem w_Vi : ∀ w ∈ u_ws R_Vi F_Vi 2, w ∈ lwg := j_all_mem ⟨k_70, k_68, trivial⟩
theorem w_Ch : ∀ w ∈ u_ws R_Ch F_Ch 5, w ∈ lwg := j_all_mem ⟨k_95, k_87, k_89, k_91, k_93, trivial⟩
theorem w_Me : ∀ w ∈ u_ws R_Me F_Me 3, w ∈ lwg := j_all_mem ⟨k_125, k_123, k_121, trivial⟩
theorem w_Lv : ∀ w ∈ u_ws R_Lv F_Lv 4, w ∈ lwg := j_all_mem ⟨k_174, k_172, k_168, k_170, trivial⟩
theorem w_Wk : ∀ w ∈ u_ws R_Wk F_Wk 8, w ∈ lwg := j_all_mem ⟨k_205, k_207, k_193, k_195, k_197, k_199, k_201, k_203, trivial⟩
theorem w_Wr : ∀ w ∈ u_ws R_Wr F_Wr 5, w ∈ lwg := j_all_mem ⟨k_229, k_231, k_223, k_225, k_227, trivial⟩
theorem w_Ve : ∀ w ∈ u_ws R_Ve F_Ve 1, w ∈ lwg := j_all_mem ⟨k_114, trivial⟩
theorem w_Tb : ∀ w ∈ u_ws R_Tb F_Tb 4, w ∈ lwg := j_all_mem ⟨k_515, k_509, k_511, k_513, trivial⟩
theorem w_AL : ∀ w ∈ u_ws R_AL F_AL 3, w ∈ lwg := j_all_mem ⟨k_162, k_158, k_160, trivial⟩
theorem w_Mo : ∀ w ∈ u_ws R_Mo F_Mo 12, w ∈ lwg := j_all_mem ⟨k_1263, k_1267, k_1277, k_1279, k_1285, k_1265, k_1269, k_1271, k_1273, k_1275, k_1281, k_1283, trivial⟩
theorem kp_LT_writeOut : Cond.selects R_LT y_LT_writeOut y_LT_writeOut ∈ lwg := lwg_sel (q := (⟨"LevelTables", "writeOut", "()V"⟩, 16)) (by decide +kernel) rfl
theorem kp_Lv_tableWith : Cond.selects R_Lv y_Lv_tableWith y_Lv_tableWith ∈ lwg := lwg_sel (q := (⟨"LevelTables$Level", "tableWith", "(I)I"⟩, 4)) (by decide +kernel) rfl
theorem kp_Ch_hasRow : Cond.selects R_Ch y_Ch_hasRow y_Ch_hasRow ∈ lwg := lwg_sel (q := (⟨"LevelTables$Chip", "hasRow", "(II)Z"⟩, 5)) (by decide +kernel) rfl
theorem kp_LT_writeNeeded : Cond.selects R_LT y_LT_writeNeeded y_LT_writeNeeded ∈ lwg := lwg_sel (q := (⟨"LevelTables", "writeNeeded", "(I)V"⟩, 16)) (by decide +kernel) rfl
theorem kp_Wk_takeNext : Cond.selects R_Wk y_Wk_takeNext y_Wk_takeNext ∈ lwg := lwg_sel (q := (⟨"LevelTables$Walk", "takeNext", "()Z"⟩, 8)) (by decide +kernel) rfl
theorem kp_LT_nextMoment : Cond.selects R_LT y_LT_nextMoment y_LT_nextMoment ∈ lwg := lwg_sel (q := (⟨"LevelTables", "nextMoment", "(LLevelTables$Version;I)I"⟩, 16)) (by decide +kernel) rfl
theorem kp_LT_hasSomething : Cond.selects R_LT y_LT_hasSomething y_LT_hasSomething ∈ lwg := lwg_sel (q := (⟨"LevelTables", "hasSomething", "(LLevelTables$Version;II)Z"⟩, 16)) (by decide +kernel) rfl
theorem kp_AL_add_3 : Cond.selects R_AL y_AL_add_3 y_AL_add_3 ∈ lwg := lwg_sel (q := (⟨"java/util/ArrayList", "add", "(Ljava/lang/Object;[Ljava/lang/Object;I)V"⟩, 3)) (by decide +kernel) rfl
theorem kp_AL_grow_0 : Cond.selects R_AL y_AL_grow_0 y_AL_grow_0 ∈ lwg := lwg_sel (q := (⟨"java/util/ArrayList", "grow", "()[Ljava/lang/Object;"⟩, 3)) (by decide +kernel) rfl
theorem kp_AL_grow_1 : Cond.selects R_AL y_AL_grow_1 y_AL_grow_1 ∈ lwg := lwg_sel (q := (⟨"java/util/ArrayList", "grow", "(I)[Ljava/lang/Object;"⟩, 3)) (by decide +kernel) rfl
theorem kp_Ch_erase : Cond.selects R_Ch y_Ch_erase y_Ch_erase ∈ lwg := lwg_sel (q := (⟨"LevelTables$Chip", "erase", "(I)V"⟩, 5)) (by decide +kernel) rfl
theorem kp_AL_fastRemove : Cond.selects R_AL y_AL_fastRemove y_AL_fastRemove ∈ lwg := lwg_sel (q := (⟨"java/util/ArrayList", "fastRemove", "([Ljava/lang/Object;I)V"⟩, 3)) (by decide +kernel) rfl
theorem kp_Lv_renumber : Cond.selects R_Lv y_Lv_renumber y_Lv_renumber ∈ lwg := lwg_sel (q := (⟨"LevelTables$Level", "renumber", "()V"⟩, 4)) (by decide +kernel) rfl
theorem kp_AL_rangeCheckForAdd : Cond.selects R_AL y_AL_rangeCheckForAdd y_AL_rangeCheckForAdd ∈ lwg := lwg_sel (q := (⟨"java/util/ArrayList", "rangeCheckForAdd", "(I)V"⟩, 3)) (by decide +kernel) rfl
theorem kp_LT_pushDown : Cond.selects R_LT y_LT_pushDown y_LT_pushDown ∈ lwg := lwg_sel (q := (⟨"LevelTables", "pushDown", "(I)V"⟩, 16)) (by decide +kernel) rfl
theorem kp_LT_mergeAll : Cond.selects R_LT y_LT_mergeAll y_LT_mergeAll ∈ lwg := lwg_sel (q := (⟨"LevelTables", "mergeAll", "()V"⟩, 16)) (by decide +kernel) rfl
theorem kp_LT_isSound : Cond.selects R_LT y_LT_isSound y_LT_isSound ∈ lwg := lwg_sel (q := (⟨"LevelTables", "isSound", "()Z"⟩, 16)) (by decide +kernel) rfl
theorem kp_Lv_isWhole : Cond.selects R_Lv y_Lv_isWhole y_Lv_isWhole ∈ lwg := lwg_sel (q := (⟨"LevelTables$Level", "isWhole", "(LLevelTables$Table;LLevelTables$Version;LLevelTables$Version;)Z"⟩, 4)) (by decide +kernel) rfl
theorem kp_LT_countLiving : Cond.selects R_LT y_LT_countLiving y_LT_countLiving ∈ lwg := lwg_sel (q := (⟨"LevelTables", "countLiving", "()I"⟩, 16)) (by decide +kernel) rfl
theorem kp_LT_addVersion : Cond.selects R_LT y_LT_addVersion y_LT_addVersion ∈ lwg := lwg_sel (q := (⟨"LevelTables", "addVersion", "(ZII)I"⟩, 16)) (by decide +kernel) rfl
theorem kp_LT_readTapeFor : Cond.selects R_LT y_LT_readTapeFor y_LT_readTapeFor ∈ lwg := lwg_sel (q := (⟨"LevelTables", "readTapeFor", "(I)I"⟩, 16)) (by decide +kernel) rfl
theorem kp_LT_show : Cond.selects R_LT y_LT_show y_LT_show ∈ lwg := lwg_sel (q := (⟨"LevelTables", "show", "(Z)I"⟩, 16)) (by decide +kernel) rfl
theorem kp_LT_reachSomething : Cond.selects R_LT y_LT_reachSomething y_LT_reachSomething ∈ lwg := lwg_sel (q := (⟨"LevelTables", "reachSomething", "(I)Z"⟩, 16)) (by decide +kernel) rfl
theorem kp_Ve_byteAt : Cond.selects R_Ve y_Ve_byteAt y_Ve_byteAt ∈ lwg := lwg_sel (q := (⟨"LevelTables$Version", "byteAt", "(I)J"⟩, 1)) (by decide +kernel) rfl
theorem kp_Mo_fail : Cond.selects R_Mo y_Mo_fail y_Mo_fail ∈ lwg := lwg_sel (q := (⟨"LevelTablesModel", "fail", "(I)I"⟩, 12)) (by decide +kernel) rfl
theorem kp_Mo_keyed : Cond.selects R_Mo y_Mo_keyed y_Mo_keyed ∈ lwg := lwg_sel (q := (⟨"LevelTablesModel", "keyed", "()Z"⟩, 12)) (by decide +kernel) rfl
theorem kp_Mo_enter : Cond.selects R_Mo y_Mo_enter y_Mo_enter ∈ lwg := lwg_sel (q := (⟨"LevelTablesModel", "enter", "(II)I"⟩, 12)) (by decide +kernel) rfl
theorem kp_Mo_compareTape : Cond.selects R_Mo y_Mo_compareTape y_Mo_compareTape ∈ lwg := lwg_sel (q := (⟨"LevelTablesModel", "compareTape", "(II)I"⟩, 12)) (by decide +kernel) rfl
theorem kp_Mo_compare : Cond.selects R_Mo y_Mo_compare y_Mo_compare ∈ lwg := lwg_sel (q := (⟨"LevelTablesModel", "compare", "(II)I"⟩, 12)) (by decide +kernel) rfl
theorem kp_Mo_stands : Cond.selects R_Mo y_Mo_stands y_Mo_stands ∈ lwg := lwg_sel (q := (⟨"LevelTablesModel", "stands", "(II)Z"⟩, 12)) (by decide +kernel) rfl
theorem kp_Mo_present : Cond.selects R_Mo y_Mo_present y_Mo_present ∈ lwg := lwg_sel (q := (⟨"LevelTablesModel", "present", "()I"⟩, 12)) (by decide +kernel) rfl
end
section
/-! A SMALL MACHINE: cells by number, frames of values, one instruction a function (own text) -/
abbrev j_X : Type := Program × Launch × Env × Room × State × MethodId × Array Value × List Frame × Method × Code
abbrev jp (x : j_X) : Program := x.1
abbrev jl (x : j_X) : Launch := x.2.1
abbrev je (x : j_X) : Env := x.2.2.1
abbrev jR (x : j_X) : Room := x.2.2.2.1
abbrev js (x : j_X) : State := x.2.2.2.2.1
abbrev jm (x : j_X) : MethodId := x.2.2.2.2.2.1
abbrev ja (x : j_X) : Array Value := x.2.2.2.2.2.2.1
abbrev jb (x : j_X) : List Frame := x.2.2.2.2.2.2.2.1
abbrev jt (x : j_X) : Method := x.2.2.2.2.2.2.2.2.1
abbrev jc (x : j_X) : Code := x.2.2.2.2.2.2.2.2.2
abbrev j_W (x : j_X) (H : Heap) (locs : List Loc) (cells slots : Nat) (Q : State → Prop) (g : JFrame) : Prop :=
  W (jp x) (jl x) (je x) (jR x) (js x) (jm x) (ja x) (jb x) (jt x) (jc x) H locs cells slots Q g
/-- cells of the small machine: an array (number of its type, length, contents) or an object (number of its class, fields); a reference is the cell's number -/
abbrev j_C : Type := (Nat × vp_A) ⊕ (Nat × List Value)
/-- how many cells, how many slots have been made; the cells -/
abbrev j_M : Type := Nat × Nat × (Nat → Option j_C)
abbrev j_L : Type := List (Option Value)
/-- how a method ends: returned, or threw (number of the class, cell) -/
abbrev j_O : Type := Option Value ⊕ (Nat × Nat)
/-- what an instruction does: goes on, returns, calls (method, arguments, what stays on the stack), throws -/
abbrev j_A : Type := (Nat × j_L × List Value × j_M) ⊕ (Option Value ⊕ ((Nat × List Value × List Value) ⊕ Nat))
abbrev j_S : Type := j_L → List Value → j_M → Option j_A
/-- what the machine's addresses are: classes, array classes, the four old cells, the first heap, the script -/
abbrev j_G : Type := va_G × (Nat → ClassId) × (Nat → Nat) × Heap × Nat × (Nat → Int32)
def adr (G : j_G) (i : Nat) : Nat := bif Nat.blt i 4 then G.2.2.1 i else G.2.2.2.1.size + (i - 4)
def rn (G : j_G) (v : Value) : Value := match v with
  | .ref i => .ref (adr G i)
  | v => v
def rnq (G : j_G) (a : vp_A) : vp_A := match a with
  | (n, .inr (.inr (.inr (.inr f)))) => (n, .inr (.inr (.inr (.inr (fun j => (f j).map (adr G))))))
  | a => a
def rnc (G : j_G) (c : j_C) : va_E := match c with
  | .inl (k, a) => .inl (G.2.1 k, rnq G a)
  | .inr (k, fs) => .inr (k, fs.map (rn G))
/-- locals by their places -/
def j_lg : j_L → Nat → Option Value
  | [], _ => none
  | x :: _, 0 => x
  | _ :: r, i + 1 => j_lg r i
def j_wd (x : Option Value) : Bool := match x with
  | some v => v.category == 2
  | none => false
def j_s1 : j_L → Nat → Value → j_L
  | [], _, _ => []
  | _ :: r, 0, v => some v :: r
  | x :: r, i + 1, v => (bif (i == 0) && j_wd x then none else x) :: j_s1 r i v
def j_s2 : j_L → Nat → Value → j_L
  | [], _, _ => []
  | _ :: r, 0, v => some v :: (match r with | [] => [] | _ :: r' => none :: r')
  | x :: r, i + 1, v => (bif (i == 0) && j_wd x then none else x) :: j_s2 r i v
def j_en : Nat → List Value → j_L
  | n, [] => List.replicate n none
  | n, v :: r => bif v.category == 2 then some v :: none :: j_en (n - 2) r else some v :: j_en (n - 1) r
def j_prs (G : j_G) : Nat → j_L → List (Nat × Value)
  | _, [] => []
  | k, some v :: r => (k, rn G v) :: j_prs G (k + 1) r
  | k, none :: r => j_prs G (k + 1) r
/-- the machine's locals are those of the small one -/
def j_H (G : j_G) (ls : Array Slot) (nL : Nat) (lc : j_L) : Prop := lv_has ls nL (j_prs G 0 lc)
theorem j_prs_mem {G : j_G} : ∀ (lc : j_L) (k i : Nat) (v : Value), j_lg lc i = some v → (k + i, rn G v) ∈ j_prs G k lc
  | [], k, i, v, h => by simp [j_lg] at h
  | x :: r, k, 0, v, h => by
    simp only [j_lg] at h
    subst h
    exact List.mem_cons_self
  | x :: r, k, i + 1, v, h => by
    have h1 := j_prs_mem (G := G) r (k + 1) i v (by simpa [j_lg] using h)
    have e : k + 1 + i = k + (i + 1) := by omega
    rw [e] at h1
    cases x with
    | none => exact h1
    | some w => exact List.mem_cons_of_mem _ h1
theorem j_prs_inv {G : j_G} : ∀ (lc : j_L) (k : Nat) (q : Nat × Value), q ∈ j_prs G k lc → ∃ i v, q = (k + i, rn G v) ∧ j_lg lc i = some v
  | [], k, q, h => by simp [j_prs] at h
  | none :: r, k, q, h => by
    obtain ⟨i, v, rfl, h1⟩ := j_prs_inv (G := G) r (k + 1) q h
    exact ⟨i + 1, v, by rw [show k + 1 + i = k + (i + 1) by omega], h1⟩
  | some w :: r, k, q, h => by
    rcases List.mem_cons.mp h with rfl | h
    · exact ⟨0, w, rfl, rfl⟩
    · obtain ⟨i, v, rfl, h1⟩ := j_prs_inv (G := G) r (k + 1) q h
      exact ⟨i + 1, v, by rw [show k + 1 + i = k + (i + 1) by omega], h1⟩
theorem rn_cat (G : j_G) (v : Value) : (rn G v).category = v.category := by cases v <;> rfl
theorem j_s1_lg : ∀ (lc : j_L) (i : Nat) (v : Value) (j : Nat) (w : Value), j_lg (j_s1 lc i v) j = some w → (j = i ∧ w = v) ∨ (j ≠ i ∧ j_lg lc j = some w ∧ ¬ (j + 1 = i ∧ w.category = 2))
  | [], i, v, j, w, h => by simp [j_s1, j_lg] at h
  | x :: r, 0, v, 0, w, h => by
    simp only [j_s1, j_lg, Option.some.injEq] at h
    exact Or.inl ⟨rfl, h.symm⟩
  | x :: r, 0, v, j + 1, w, h => by
    simp only [j_s1, j_lg] at h
    exact Or.inr ⟨by omega, h, by omega⟩
  | x :: r, i + 1, v, 0, w, h => by
    refine Or.inr ⟨by omega, ?_, ?_⟩
    · simp only [j_s1, j_lg] at h ⊢
      cases hc : ((i == 0) && j_wd x) with
      | true => rw [hc] at h; simp at h
      | false => rw [hc] at h; exact h
    · rintro ⟨h1, h2⟩
      simp only [j_s1, j_lg] at h
      have hi : i = 0 := by omega
      subst hi
      cases x with
      | none => simp [j_wd] at h
      | some u =>
        by_cases hu : u.category = 2
        · simp [j_wd, hu] at h
        · have hb : (u.category == 2) = false := by simpa using hu
          have : u = w := by simpa [j_wd, hb] using h
          subst this
          exact hu h2
  | x :: r, i + 1, v, j + 1, w, h => by
    have h1 : j_lg (j_s1 r i v) j = some w := by simpa only [j_s1, j_lg] using h
    rcases j_s1_lg r i v j w h1 with ⟨rfl, rfl⟩ | ⟨a, b, c⟩
    · exact Or.inl ⟨rfl, rfl⟩
    · exact Or.inr ⟨by omega, by simpa only [j_lg] using b, fun ⟨z1, z2⟩ => c ⟨by omega, z2⟩⟩
theorem j_s2_lg : ∀ (lc : j_L) (i : Nat) (v : Value) (j : Nat) (w : Value), j_lg (j_s2 lc i v) j = some w → (j = i ∧ w = v) ∨ (j ≠ i ∧ j ≠ i + 1 ∧ j_lg lc j = some w ∧ ¬ (j + 1 = i ∧ w.category = 2))
  | [], i, v, j, w, h => by simp [j_s2, j_lg] at h
  | x :: r, 0, v, 0, w, h => by
    simp only [j_s2, j_lg, Option.some.injEq] at h
    exact Or.inl ⟨rfl, h.symm⟩
  | [x], 0, v, j + 1, w, h => by
    simp [j_s2, j_lg] at h
  | x :: y :: r, 0, v, 1, w, h => by
    simp [j_s2, j_lg] at h
  | x :: y :: r, 0, v, j + 2, w, h => by
    simp only [j_s2, j_lg] at h
    exact Or.inr ⟨by omega, by omega, h, by omega⟩
  | x :: r, i + 1, v, 0, w, h => by
    refine Or.inr ⟨by omega, by omega, ?_, ?_⟩
    · simp only [j_s2, j_lg] at h ⊢
      cases hc : ((i == 0) && j_wd x) with
      | true => rw [hc] at h; simp at h
      | false => rw [hc] at h; exact h
    · rintro ⟨h1, h2⟩
      simp only [j_s2, j_lg] at h
      have hi : i = 0 := by omega
      subst hi
      cases x with
      | none => simp [j_wd] at h
      | some u =>
        by_cases hu : u.category = 2
        · simp [j_wd, hu] at h
        · have hb : (u.category == 2) = false := by simpa using hu
          have : u = w := by simpa [j_wd, hb] using h
          subst this
          exact hu h2
  | x :: r, i + 1, v, j + 1, w, h => by
    have h1 : j_lg (j_s2 r i v) j = some w := by simpa only [j_s2, j_lg] using h
    rcases j_s2_lg r i v j w h1 with ⟨rfl, rfl⟩ | ⟨a, b, c, d⟩
    · exact Or.inl ⟨rfl, rfl⟩
    · exact Or.inr ⟨by omega, by omega, by simpa only [j_lg] using c, fun ⟨z1, z2⟩ => d ⟨by omega, z2⟩⟩
theorem j_H.at {G : j_G} {ls : Array Slot} {nL : Nat} {lc : j_L} (h : j_H G ls nL lc) {i : Nat} {v : Value} (hv : j_lg lc i = some v) : ls[i]? = some (.val (rn G v)) := by
  have h1 := h.2.2 _ (j_prs_mem (G := G) lc 0 i v hv)
  rw [Nat.zero_add] at h1
  exact h1
theorem j_H.st1 {G : j_G} {ls : Array Slot} {nL i : Nat} {lc : j_L} {v : Value} (h : lv_has ls nL ((i, rn G v) :: (j_prs G 0 lc).filter (fun q => !(q.1 == i) && !(q.1 + 1 == i && q.2.category == 2)))) : j_H G ls nL (j_s1 lc i v) := by
  refine ⟨h.1, h.2.1, fun q hq => ?_⟩
  obtain ⟨j, w, rfl, hj⟩ := j_prs_inv _ _ _ hq
  rcases j_s1_lg lc i v j w hj with ⟨rfl, rfl⟩ | ⟨a, b, c⟩
  · rw [Nat.zero_add]
    exact h.2.2 _ List.mem_cons_self
  · refine h.2.2 _ (List.mem_cons_of_mem _ (List.mem_filter.mpr ⟨j_prs_mem lc 0 j w b, ?_⟩))
    have c' : ¬ (j + 1 = i ∧ (rn G w).category = 2) := by rw [rn_cat]; exact c
    simp only [Nat.zero_add, Bool.and_eq_true, Bool.not_eq_true', beq_eq_false_iff_ne, ne_eq, Bool.and_eq_false_iff]
    refine ⟨a, ?_⟩
    by_cases z : j + 1 = i
    · exact Or.inr fun z2 => c' ⟨z, z2⟩
    · exact Or.inl z
theorem j_H.st2 {G : j_G} {ls : Array Slot} {nL i : Nat} {lc : j_L} {v : Value} (h : lv_has ls nL ((i, rn G v) :: (j_prs G 0 lc).filter (fun q => !(q.1 == i) && (!(q.1 == i + 1) && !(q.1 + 1 == i && q.2.category == 2))))) : j_H G ls nL (j_s2 lc i v) := by
  refine ⟨h.1, h.2.1, fun q hq => ?_⟩
  obtain ⟨j, w, rfl, hj⟩ := j_prs_inv _ _ _ hq
  rcases j_s2_lg lc i v j w hj with ⟨rfl, rfl⟩ | ⟨a, a2, b, c⟩
  · rw [Nat.zero_add]
    exact h.2.2 _ List.mem_cons_self
  · refine h.2.2 _ (List.mem_cons_of_mem _ (List.mem_filter.mpr ⟨j_prs_mem lc 0 j w b, ?_⟩))
    have c' : ¬ (j + 1 = i ∧ (rn G w).category = 2) := by rw [rn_cat]; exact c
    simp only [Nat.zero_add, Bool.and_eq_true, Bool.not_eq_true', beq_eq_false_iff_ne, ne_eq, Bool.and_eq_false_iff]
    refine ⟨a, a2, ?_⟩
    by_cases z : j + 1 = i
    · exact Or.inr fun z2 => c' ⟨z, z2⟩
    · exact Or.inl z
end
section
/-! WHAT AN INSTRUCTION OF THE SMALL MACHINE IS, AND WHEN IT IS RIGHT (own text) -/
/-- an array in the heap, as far as it is read -/
def j_ar (U : State) (H : Heap) (a : Nat) (ty : FieldType) (n : Nat) (g : Nat → Value) : Prop := ∃ cell : Cell, H[a]? = some cell ∧ U.isArrayOf cell ty ∧ cell.vm ≠ .unknown ∧ (n ≤ cell.slots.size ∧ cell.slots.size.toInt32 = Int32.ofNat n) ∧ ∀ j : Nat, j < n → cell.slots[j]? = some (g j)
theorem j_ar.moved {u U : State} {H : Heap} {a : Nat} {ty : FieldType} {n : Nat} {g : Nat → Value} (hvm : u.vm.Alike U.vm) (h : j_ar u H a ty n g) : j_ar U H a ty n g := by
  obtain ⟨cell, h1, h2, h3⟩ := h
  exact ⟨cell, h1, State.isArrayOf_alike hvm h2, h3⟩
theorem j_ar.kept {U : State} {H H1 : Heap} {a : Nat} {ty : FieldType} {n : Nat} {g : Nat → Value} (h : j_ar U H a ty n g) (hq : H1[a]? = H[a]?) : j_ar U H1 a ty n g := by
  obtain ⟨cell, h1, h2⟩ := h
  exact ⟨cell, by rw [hq]; exact h1, h2⟩
def j_old (G : j_G) (i : Nat) : Option j_C := match i with
  | 0 => some (.inl (0, G.2.2.2.2.1, .inl G.2.2.2.2.2))
  | 1 => some (.inl (0, 3, .inl (fun j => ([4, 8, 16] : List Int32).getD j 0)))
  | 2 => some (.inl (a_Obj, 0, .inr (.inr (.inr (.inr (fun _ => none))))))
  | _ => none
/-- where a static field lies, in the first heap -/
def j_LS (G : j_G) (C n ds : String) (U : State) : Prop := ∃ (c : ClassId) (k : Class) (fi : Nat) (f : Field) (a : Nat) (cell : Cell), U.vm.findClass C = some c ∧ U.fieldFound? C n ds = some (c, k, fi, f) ∧ f.isStatic = true ∧ k.statics = some a ∧ G.2.2.2.1[a]? = some cell ∧ cell.vm.isStatics = true ∧ cell.cls = c ∧ f.slot < cell.slots.size ∧ k.staticTypes[f.slot]? = some f.type
theorem j_LS.moved {G : j_G} {C n ds : String} {u U : State} (hvm : u.vm.Alike U.vm) (h : j_LS G C n ds u) : j_LS G C n ds U := by
  obtain ⟨c, k, fi, f, a, cell, h0, h1, h2, h3, h4, h5, h6, h7, h8⟩ := h
  obtain ⟨k', hi', he⟩ := State.fieldFound?_setVm hvm h1
  exact ⟨c, k', fi, f, a, cell, by rw [hvm.findClass]; exact h0, hi', h2, by rw [he]; exact h3, h4, h5, h6, h7, by rw [he]; exact h8⟩
theorem j_LS.use {G : j_G} {C n ds : String} {U : State} {A : Array Value} (h : j_LS G C n ds U) (hH : ∀ q : Nat, q < G.2.2.2.1.size → U.heap[q]? = G.2.2.2.1[q]?) : (Cond.laysStatic C n ds).before A U = true := by
  obtain ⟨c, k, fi, f, a, cell, h0, h1, h2, h3, h4, h5, h6, h7, h8⟩ := h
  exact Cond.laysStatic_of h0 h1 h2 h3 (by rw [hH a (Array.getElem?_eq_some_iff.mp h4).1]; exact h4) h5 h6 h7 h8
/-- which exception's class isn't which other -/
def xnc : List (String × String) := [(x_nm 1, x_nm 0), (x_nm 3, x_nm 0), (x_nm 3, x_nm 1), (x_nm 2, x_nm 3)]
/-- what the tables and the first heap say, at a state -/
def j_K (G : j_G) (U : State) : Prop :=
  (∀ (c : Nat) (q : vw_C), cls[c]? = some q → u_Kn U q.1 q.2.1 q.2.2 (G.1.1 c) (G.1.2 c)) ∧
  (∀ (k : Nat) (ty : FieldType), aty[k]? = some ty → ArrOfT U (G.2.1 k) ty ∧ va_RA U (G.2.1 k) ty) ∧
  j_ar U G.2.2.2.1 (G.2.2.1 0) .int G.2.2.2.2.1 (fun j => .int (G.2.2.2.2.2 j)) ∧
  j_ar U G.2.2.2.1 (G.2.2.1 1) .int 3 (fun j => .int (([4, 8, 16] : List Int32).getD j 0)) ∧
  j_ar U G.2.2.2.1 (G.2.2.1 2) (.object "java/lang/Object") 0 (fun _ => .null) ∧
  (∀ i : Nat, i < 3 → G.2.2.1 i < G.2.2.2.1.size) ∧
  va_Z "LevelTables" "ALLOWED" "[I" (.ref (G.2.2.1 1)) (fun q => G.2.2.2.1.size ≤ q) U G.2.2.2.1 ∧
  va_Z "java/util/ArrayList" "DEFAULTCAPACITY_EMPTY_ELEMENTDATA" "[Ljava/lang/Object;" (.ref (G.2.2.1 2)) (fun q => G.2.2.2.1.size ≤ q) U G.2.2.2.1 ∧
  va_Mi "[Ljava/lang/Object;" (G.2.2.1 3) U ∧
  (∃ (kA : Class) (comp : ClassId), U.vm.classes[G.2.1 7]? = some kA ∧ kA.kind = .array comp (.array .long) ∧ U.vm.findClass "[J" = some comp) ∧
  ((∃ u : Nat, va_Z "java/lang/Throwable" "UNASSIGNED_STACK" "[Ljava/lang/StackTraceElement;" (.ref u) (fun q => G.2.2.2.1.size ≤ q) U G.2.2.2.1) ∧ j_LS G "java/lang/Throwable" "UNASSIGNED_STACK" "[Ljava/lang/StackTraceElement;" U) ∧
  ((∃ u : Nat, va_Z "java/lang/Throwable" "SUPPRESSED_SENTINEL" "Ljava/util/List;" (.ref u) (fun q => G.2.2.2.1.size ≤ q) U G.2.2.2.1) ∧ j_LS G "java/lang/Throwable" "SUPPRESSED_SENTINEL" "Ljava/util/List;" U) ∧
  (∀ w ∈ lwn, va_Nw w U) ∧ (∀ q ∈ xnc, va_Nc q.1 q.2 U)
theorem j_K.moved {G : j_G} {u U : State} (hW : u.WarmedH U.vm) (h : j_K G u) : j_K G U := by
  have hvm := hW.alike
  obtain ⟨h1, h2, h3, h4, h5, h6, h7, h8, h9, ⟨kA, comp, q1, q2, q3⟩, ⟨⟨u1, h11⟩, l11⟩, ⟨⟨u2, h12⟩, l12⟩, h13, h14⟩ := h
  obtain ⟨k', hk', he⟩ := hvm.2.2 _ _ q1
  exact ⟨fun c q hq => u_Kn_moved hvm (h1 c q hq), fun k ty hk => ⟨arrOfT_moved hvm (h2 k ty hk).1, (h2 k ty hk).2.moved hvm⟩, h3.moved hvm, h4.moved hvm, h5.moved hvm, h6, h7.moved hvm, h8.moved hvm, h9.moved hvm, ⟨k', comp, hk', by rw [he]; exact q2, by rw [hvm.findClass]; exact q3⟩, ⟨⟨u1, h11.moved hvm⟩, l11.moved hvm⟩, ⟨⟨u2, h12.moved hvm⟩, l12.moved hvm⟩, fun w hw => lwn_ok w hw _ _ hW (h13 w hw), fun q hq => (h14 q hq).moved hvm⟩
theorem j_K.nw {G : j_G} {U : State} (h : j_K G U) {w : Cond} (hw : w ∈ lwn) : va_Nw w U := h.2.2.2.2.2.2.2.2.2.2.2.2.1 w hw
theorem j_K.use {G : j_G} {U : State} (h : j_K G U) {w : Cond} (hw : w ∈ lwn) {A : Array Value} : w.before A U = true := lwn_us w hw A U (h.nw hw)
/-- the heap holds the small machine's cells, behind the first heap, which stays -/
def j_R (G : j_G) (mem : j_M) (H : Heap) : Prop :=
  H.size + 4 = G.2.2.2.1.size + mem.1 ∧ 4 ≤ mem.1 ∧ (∀ q : Nat, q < G.2.2.2.1.size → H[q]? = G.2.2.2.1[q]?) ∧
  (∀ (i : Nat) (c : j_C), 4 ≤ i → mem.2.2 i = some c → i < mem.1 ∧ va_at G.1 cls (adr G i, rnc G c) H) ∧
  ∀ i : Nat, i < 4 → mem.2.2 i = j_old G i
def j_B (G : j_G) (locs : List Loc) : Prop := ∀ q ∈ locs, G.2.2.2.1.size ≤ q.base
/-- what is known of a method's walk -/
abbrev j_I : Type := String × ByteArray × Nat × Bool × Option FieldType × List (Nat × Nat × Nat × Nat)
def j_cx (G : j_G) (i : j_I) (x : j_X) : Prop :=
  (jp x).tables.exec = Jvm.exec ∧ (jc x).code = i.2.1 ∧ (jc x).maxLocals = i.2.2.1 ∧ (js x).vm.findClass i.1 = some (jm x).cls ∧ (∀ w ∈ lwg, w.before (ja x) (js x) = true) ∧ j_K G (js x) ∧
  (1 ≤ (jR x).frames ∧ 64 ≤ (jR x).locals) ∧ (i.2.2.2.1 = true → (jt x).name = "<init>") ∧ (jt x).sig.returnType = i.2.2.2.2.1 ∧ (jt x).locks = false ∧ (jc x).exceptionTable.toList.map (fun h => (h.startPc, h.endPc, h.handlerPc, h.catchType)) = i.2.2.2.2.2 ∧ (je x).platform.stackTraces = false
/-- a walk's end: returned or threw -/
def j_MQ (below : List Frame) (Qc : Array Value → State → Outcome → State → Prop) (a : Array Value) (s : State) (mc ms : Nat) (free : Addr → Prop) : State → Prop := fun t =>
  ∃ o, t.status = .running ∧ Ended t below o ∧ Qc a s o t ∧ ∃ L, (s.WarmedH t.vm ∧ s.sameButNew ({ t with vm := s.vm } : State) L mc ms) ∧ ∀ q ∈ L, free q.base
theorem j_MQ.of {below : List Frame} {Qc : Array Value → State → Outcome → State → Prop} {a : Array Value} {s : State} {mc ms : Nat} {free : Addr → Prop} {t : State} (h : MQ below Qc a s mc ms free t) : j_MQ below Qc a s mc ms free t := by
  obtain ⟨o, h1, h2, h3, L, h4, h5⟩ := h
  exact ⟨o, h1, h2, h3, L, h4.2, h5⟩
theorem W.mono {p : Program} {l : Launch} {e : Env} {R : Room} {s : State} {m : MethodId} {args : Array Value} {below : List Frame} {meth : Method} {c : Code} {H : Heap} {locs : List Loc} {cells slots : Nat} {Q Q' : State → Prop} {g : JFrame}
    (h : ∀ t, Q t → Q' t) (k : W p l e R s m args below meth c H locs cells slots Q g) : W p l e R s m args below meth c H locs cells slots Q' g := fun T hT X => by
  obtain ⟨t, a, b⟩ := k T hT X
  exact ⟨t, a, h t b⟩
/-- the machine with the note 'throwing' over the frame -/
def j_WT (x : j_X) (H : Heap) (locs : List Loc) (cells slots : Nat) (Q : State → Prop) (g : JFrame) (a : Addr) : Prop :=
  ∀ T : State, T.heap = H → Stand (jp x) (jl x) (je x) (jR x) (js x) (jm x) (ja x) (jb x) (jt x) (jc x) T locs cells slots → ∃ t, Steps (jp x).tables (je x) (jb x) ((T.setTop g).pushFrame (.throwing a)) t ∧ Q t
/-- a contract of the small machine: y, called with the arguments 'as' over the cells 'mem', ends so -/
def j_rm (d : Nat) (mem mo : j_M) : Room := { frames := d, cells := mo.1 - mem.1, slots := mo.2.1 - mem.2.1, locals := 64 * d }
def j_Pc (G : j_G) (as : List Value) (mem : j_M) : Array Value → State → Prop := fun v U => v = (as.map (rn G)).toArray ∧ j_R G mem U.heap ∧ j_K G U
def j_oc (G : j_G) (o : j_O) (oc : Outcome) (t : State) : Prop := match o with
  | .inl v => oc = .returned (v.map (rn G))
  | .inr x => oc = .threw (adr G x.2) ∧ ∃ (cell : Cell) (k : Class), t.heap[adr G x.2]? = some cell ∧ (∀ z, cell.vm ≠ .statics z) ∧ t.vm.findClass (x_nm x.1) = some cell.cls ∧ t.vm.classes[cell.cls]? = some k
def j_Qc (G : j_G) (o : j_O) (mo : j_M) : Array Value → State → Outcome → State → Prop := fun _ _ oc t => j_oc G o oc t ∧ j_R G mo t.heap
def j_met (G : j_G) (l : Launch) (d : Nat) (y : MethodName) (w : Cond) (as : List Value) (mem : j_M) (o : j_O) (mo : j_M) : Prop :=
  MetFree l y (headSpec (w :: lwg) (j_rm d mem mo)) (j_Pc G as mem) (fun _ _ _ _ _ => True) (fun a st oc t => j_Qc G o mo a st oc t ∧ ∃ L, (st.WarmedH t.vm ∧ st.sameButNew ({ t with vm := st.vm } : State) L (mo.1 - mem.1) (mo.2.1 - mem.2.1)) ∧ ∀ q ∈ L, G.2.2.2.1.size ≤ q.base)
/-- behind a call: it returned, or it threw -/
def j_aft (G : j_G) (x : j_X) (H : Heap) (locs : List Loc) (cells slots : Nat) (Q : State → Prop) (pc : Nat) (ls : Array Slot) (r : List Value) (o : j_O) : Prop := match o with
  | .inl v => j_W x H locs cells slots Q (F0 (jm x) (pc + 3) ls ((v.toList ++ r).map (rn G)))
  | .inr z => (∃ (cell : Cell) (k : Class), H[adr G z.2]? = some cell ∧ (∀ z, cell.vm ≠ .statics z) ∧ (js x).vm.findClass (x_nm z.1) = some cell.cls ∧ (js x).vm.classes[cell.cls]? = some k) → j_WT x H locs cells slots Q (F0 (jm x) pc ls (r.map (rn G))) (adr G z.2)
/-- an instruction's act is right -/
def j_oa (G : j_G) (tm : Nat → MethodName × Cond) (i : j_I) (pc : Nat) (lc : j_L) (st : List Value) (mem : j_M) : j_A → Prop
  | .inl (pc', lc', st', mem') => mem.1 ≤ mem'.1 ∧ mem.2.1 ≤ mem'.2.1 ∧ ∀ (x : j_X) (H : Heap) (locs : List Loc) (cells slots : Nat) (Q : State → Prop) (ls : Array Slot), j_cx G i x → j_R G mem H → j_H G ls i.2.2.1 lc → j_B G locs →
      cells + (mem'.1 - mem.1) ≤ (jR x).cells → slots + (mem'.2.1 - mem.2.1) ≤ (jR x).slots →
      (∀ (H' : Heap) (locs' : List Loc) (ls' : Array Slot), j_R G mem' H' → j_H G ls' i.2.2.1 lc' → j_B G locs' → j_W x H' locs' (cells + (mem'.1 - mem.1)) (slots + (mem'.2.1 - mem.2.1)) Q (F0 (jm x) pc' ls' (st'.map (rn G)))) →
      j_W x H locs cells slots Q (F0 (jm x) pc ls (st.map (rn G)))
  | .inr (.inl v) => ∀ (x : j_X) (H : Heap) (locs : List Loc) (cells slots : Nat) (ls : Array Slot) (Qc : Array Value → State → Outcome → State → Prop) (free : Addr → Prop), j_cx G i x →
      (∀ t : State, t.heap = H → (js x).WarmedH t.vm → Qc (ja x) (js x) (.returned (v.map (rn G))) t) → (∀ q ∈ locs, free q.base) →
      j_W x H locs cells slots (j_MQ (jb x) Qc (ja x) (js x) cells slots free) (F0 (jm x) pc ls (st.map (rn G)))
  | .inr (.inr (.inl (k, as, r))) => ∀ (d : Nat) (o : j_O) (mo : j_M) (x : j_X) (H : Heap) (locs : List Loc) (cells slots : Nat) (Q : State → Prop) (ls : Array Slot), j_met G (jl x) d (tm k).1 (tm k).2 as mem o mo → mem.1 ≤ mo.1 → mem.2.1 ≤ mo.2.1 →
      j_cx G i x → d + 1 ≤ (jR x).frames → 64 * (d + 1) ≤ (jR x).locals → j_R G mem H → j_H G ls i.2.2.1 lc → j_B G locs → cells + (mo.1 - mem.1) ≤ (jR x).cells → slots + (mo.2.1 - mem.2.1) ≤ (jR x).slots →
      (∀ (H' : Heap) (locs' : List Loc), j_R G mo H' → j_B G locs' → j_aft G x H' locs' (cells + (mo.1 - mem.1)) (slots + (mo.2.1 - mem.2.1)) Q pc ls r o) →
      j_W x H locs cells slots Q (F0 (jm x) pc ls (st.map (rn G)))
  | .inr (.inr (.inr cn)) => ∀ (x : j_X) (H : Heap) (locs : List Loc) (cells slots : Nat) (ls : Array Slot) (Qc : Array Value → State → Outcome → State → Prop) (free : Addr → Prop), j_cx G i x → j_R G mem H → j_B G locs → ls.size = i.2.2.1 → 6 ≤ (jR x).frames → 384 ≤ (jR x).locals →
      cells + 1 ≤ (jR x).cells → slots + 6 ≤ (jR x).slots → (∀ q ∈ locs, free q.base) →
      (∀ t : State, j_R G (mem.1 + 1, mem.2.1 + 6, va_up mem.2.2 mem.1 none) t.heap → (js x).WarmedH t.vm → (∃ (cell : Cell) (k : Class), t.heap[adr G mem.1]? = some cell ∧ (∀ z, cell.vm ≠ .statics z) ∧ t.vm.findClass (x_nm cn) = some cell.cls ∧ t.vm.classes[cell.cls]? = some k) → Qc (ja x) (js x) (.threw (adr G mem.1)) t) →
      j_W x H locs cells slots (j_MQ (jb x) Qc (ja x) (js x) (cells + 1) (slots + 6) free) (F0 (jm x) pc ls (st.map (rn G)))
def j_ok (G : j_G) (tm : Nat → MethodName × Cond) (i : j_I) (pc : Nat) (X : j_S) : Prop := ∀ (lc : j_L) (st : List Value) (mem : j_M) (act : j_A), X lc st mem = some act → j_oa G tm i pc lc st mem act
/-! the kinds of instruction: on the stack alone; a branch; locals -/
def j_st (f : List Value → Option (List Value)) (n : Nat) : j_S := fun lc st mem => match f st with
  | some r => some (.inl (n, lc, r, mem))
  | none => none
def j_br (f : List Value → Option (Bool × List Value)) (t n : Nat) : j_S := fun lc st mem => match f st with
  | some (b, r) => some (.inl (bif b then t else n, lc, r, mem))
  | none => none
def j_kd (t : Nat) (v : Value) : Bool := match t, v with
  | 0, .int _ => true
  | 1, .long _ => true
  | 2, .ref _ => true
  | 2, .null => true
  | _, _ => false
def j_ld (t i n : Nat) : j_S := fun lc st mem => match j_lg lc i with
  | some v => bif j_kd t v then some (.inl (n, lc, v :: st, mem)) else none
  | none => none
def j_so (t i n : Nat) : j_S := fun lc st mem => match st with
  | v :: r => bif j_kd t v then some (.inl (n, bif t == 1 then j_s2 lc i v else j_s1 lc i v, r, mem)) else none
  | [] => none
def j_ic (i : Nat) (k : Int32) (n : Nat) : j_S := fun lc st mem => match j_lg lc i with
  | some (.int a) => some (.inl (n, j_s1 lc i (.int (a + k)), st, mem))
  | _ => none
/-- a row on the stack alone -/
def j_rw (G : j_G) (i : j_I) (pc pc' : Nat) (st st' : List Value) : Prop := ∀ (x : j_X) (H : Heap) (locs : List Loc) (cells slots : Nat) (Q : State → Prop) (ls : Array Slot), j_cx G i x →
  j_W x H locs cells slots Q (F0 (jm x) pc' ls (st'.map (rn G))) → j_W x H locs cells slots Q (F0 (jm x) pc ls (st.map (rn G)))
section OKS
variable {G : j_G} {tm : Nat → MethodName × Cond} {i : j_I} {pc : Nat}
theorem j_ok_st {f : List Value → Option (List Value)} {n : Nat} (h : ∀ st st', f st = some st' → j_rw G i pc n st st') : j_ok G tm i pc (j_st f n) := by
  intro lc st mem act ha
  unfold j_st at ha
  cases hf : f st with
  | none => rw [hf] at ha; cases ha
  | some r =>
    rw [hf] at ha
    cases ha
    refine ⟨Nat.le_refl _, Nat.le_refl _, fun x H locs cells slots Q ls hc hR hH hB h1 h2 k => ?_⟩
    have k1 := k H locs ls hR hH hB
    simp only [Nat.sub_self, Nat.add_zero] at k1
    exact h st r hf x H locs cells slots Q ls hc k1
theorem j_ok_br {f : List Value → Option (Bool × List Value)} {t n : Nat} (h : ∀ st b st', f st = some (b, st') → j_rw G i pc (bif b then t else n) st st') : j_ok G tm i pc (j_br f t n) := by
  intro lc st mem act ha
  unfold j_br at ha
  cases hf : f st with
  | none => rw [hf] at ha; cases ha
  | some r =>
    obtain ⟨b, r⟩ := r
    rw [hf] at ha
    cases ha
    refine ⟨Nat.le_refl _, Nat.le_refl _, fun x H locs cells slots Q ls hc hR hH hB h1 h2 k => ?_⟩
    have k1 := k H locs ls hR hH hB
    simp only [Nat.sub_self, Nat.add_zero] at k1
    exact h st b r hf x H locs cells slots Q ls hc k1
/-- a row that reads a local -/
theorem j_ok_ld {t a n : Nat} (h : ∀ (v : Value), j_kd t v = true → ∀ (x : j_X) (H : Heap) (locs : List Loc) (cells slots : Nat) (Q : State → Prop) (ls : Array Slot) (rest : List Value), j_cx G i x → ls[a]? = some (.val (rn G v)) →
    j_W x H locs cells slots Q (F0 (jm x) n ls (rn G v :: rest)) → j_W x H locs cells slots Q (F0 (jm x) pc ls rest)) : j_ok G tm i pc (j_ld t a n) := by
  intro lc st mem act ha
  unfold j_ld at ha
  cases hf : j_lg lc a with
  | none => rw [hf] at ha; cases ha
  | some v =>
    rw [hf] at ha
    cases hk : j_kd t v with
    | false => simp [hk] at ha
    | true =>
      simp only [hk, cond_true, Option.some.injEq] at ha
      subst ha
      refine ⟨Nat.le_refl _, Nat.le_refl _, fun x H locs cells slots Q ls hc hR hH hB h1 h2 k => ?_⟩
      have k1 := k H locs ls hR hH hB
      simp only [Nat.sub_self, Nat.add_zero] at k1
      exact h v hk x H locs cells slots Q ls _ hc (hH.at hf) k1
theorem j_ok_so1 {t a n : Nat} (ht : (t == 1) = false) (h : ∀ (v : Value), j_kd t v = true → ∀ (x : j_X) (H : Heap) (locs : List Loc) (cells slots : Nat) (Q : State → Prop) (ls : Array Slot) (rest : List Value) (lv : List (Nat × Value)), j_cx G i x → lv_has ls i.2.2.1 lv →
    (∀ ls' : Array Slot, lv_has ls' i.2.2.1 ((a, rn G v) :: lv.filter (fun q => !(q.1 == a) && !(q.1 + 1 == a && q.2.category == 2))) → j_W x H locs cells slots Q (F0 (jm x) n ls' rest)) → j_W x H locs cells slots Q (F0 (jm x) pc ls (rn G v :: rest))) : j_ok G tm i pc (j_so t a n) := by
  intro lc st mem act ha
  unfold j_so at ha
  cases st with
  | nil => cases ha
  | cons v r =>
    cases hk : j_kd t v with
    | false => simp [hk] at ha
    | true =>
      simp only [hk, ht, cond_true, cond_false, Option.some.injEq] at ha
      subst ha
      refine ⟨Nat.le_refl _, Nat.le_refl _, fun x H locs cells slots Q ls hc hR hH hB h1 h2 k => ?_⟩
      refine h v hk x H locs cells slots Q ls _ _ hc hH fun ls' hl => ?_
      have k1 := k H locs ls' hR (j_H.st1 hl) hB
      simp only [Nat.sub_self, Nat.add_zero] at k1
      exact k1
theorem j_ok_so2 {a n : Nat} (h : ∀ (y : Int64) (x : j_X) (H : Heap) (locs : List Loc) (cells slots : Nat) (Q : State → Prop) (ls : Array Slot) (rest : List Value) (lv : List (Nat × Value)), j_cx G i x → lv_has ls i.2.2.1 lv →
    (∀ ls' : Array Slot, lv_has ls' i.2.2.1 ((a, Value.long y) :: lv.filter (fun q => !(q.1 == a) && (!(q.1 == a + 1) && !(q.1 + 1 == a && q.2.category == 2)))) → j_W x H locs cells slots Q (F0 (jm x) n ls' rest)) → j_W x H locs cells slots Q (F0 (jm x) pc ls (.long y :: rest))) : j_ok G tm i pc (j_so 1 a n) := by
  intro lc st mem act ha
  unfold j_so at ha
  cases st with
  | nil => cases ha
  | cons v r =>
    cases v <;> first | (simp [j_kd] at ha; done) | skip
    rename_i y
    simp only [j_kd, cond_true, Option.some.injEq] at ha
    subst ha
    refine ⟨Nat.le_refl _, Nat.le_refl _, fun x H locs cells slots Q ls hc hR hH hB h1 h2 k => ?_⟩
    refine h y x H locs cells slots Q ls _ _ hc hH fun ls' hl => ?_
    have k1 := k H locs ls' hR (j_H.st2 (v := .long y) hl) hB
    simp only [Nat.sub_self, Nat.add_zero] at k1
    exact k1
theorem j_ok_ic {a : Nat} {c : Int32} {off : Int} {n : Nat} (hd : decode i.2.1 pc = .ok (.iinc a off, 3)) (hn : pc + 3 = n) (hv : Int32.ofInt off = c) (ha0 : a < i.2.2.1) : j_ok G tm i pc (j_ic a c n) := by
  intro lc st mem act ha
  unfold j_ic at ha
  cases hf : j_lg lc a with
  | none => rw [hf] at ha; cases ha
  | some v =>
    rw [hf] at ha
    cases v <;> first | (cases ha; done) | skip
    rename_i y
    cases ha
    refine ⟨Nat.le_refl _, Nat.le_refl _, fun x H locs cells slots Q ls hc hR hH hB h1 h2 k => ?_⟩
    obtain ⟨hx, hb, -⟩ := hc
    have hm := j_prs_mem (G := G) lc 0 a (.int y) hf
    rw [Nat.zero_add] at hm
    obtain ⟨k0, hk0⟩ := List.getElem?_of_mem hm
    subst hn; subst hv
    refine lv_iinc (v := y + Int32.ofInt off) hx hb hd hH hk0 rfl ha0 rfl fun ls' hl => ?_
    have k1 := k H locs ls' hR (j_H.st1 (v := .int (y + Int32.ofInt off)) hl) hB
    simp only [Nat.sub_self, Nat.add_zero] at k1
    exact k1
end OKS
end
section
/-! ROWS ON THE STACK AND THE LOCALS (own text) -/
def f_psh (v : Value) (st : List Value) : Option (List Value) := some (v :: st)
def f_ii (op : Int32 → Int32 → Int32) (st : List Value) : Option (List Value) := match st with
  | .int y :: .int x :: r => some (.int (op x y) :: r)
  | _ => none
def f_iin (op : Int32 → Int32 → Int32) (st : List Value) : Option (List Value) := match st with
  | .int y :: .int x :: r => if y = 0 then none else some (.int (op x y) :: r)
  | _ => none
def f_ll (op : Int64 → Int64 → Int64) (st : List Value) : Option (List Value) := match st with
  | .long y :: .long x :: r => some (.long (op x y) :: r)
  | _ => none
def f_li (op : Int64 → Int32 → Int64) (st : List Value) : Option (List Value) := match st with
  | .int y :: .long x :: r => some (.long (op x y) :: r)
  | _ => none
def f_cmp (st : List Value) : Option (List Value) := match st with
  | .long y :: .long x :: r => some (.int (lg_cmp x y) :: r)
  | _ => none
def f_i (op : Int32 → Int32) (st : List Value) : Option (List Value) := match st with
  | .int x :: r => some (.int (op x) :: r)
  | _ => none
def f_i2l (st : List Value) : Option (List Value) := match st with
  | .int x :: r => some (.long x.toInt64 :: r)
  | _ => none
def f_l2i (st : List Value) : Option (List Value) := match st with
  | .long x :: r => some (.int x.toInt32 :: r)
  | _ => none
def f_dup (st : List Value) : Option (List Value) := match st with
  | v :: r => bif v.category == 1 then some (v :: v :: r) else none
  | _ => none
def f_pop (st : List Value) : Option (List Value) := match st with
  | v :: r => bif v.category == 1 then some r else none
  | _ => none
def f_dup2 (st : List Value) : Option (List Value) := match st with
  | v :: u :: r => bif (v.category == 1) && (u.category == 1) then some (v :: u :: v :: u :: r) else none
  | _ => none
def f_dupx1 (st : List Value) : Option (List Value) := match st with
  | v :: u :: r => bif (v.category == 1) && (u.category == 1) then some (v :: u :: v :: r) else none
  | _ => none
def f_id (st : List Value) : Option (List Value) := some st
def f_if (p : Int32 → Bool) (st : List Value) : Option (Bool × List Value) := match st with
  | .int x :: r => some (p x, r)
  | _ => none
def f_ic (p : Int32 → Int32 → Bool) (st : List Value) : Option (Bool × List Value) := match st with
  | .int y :: .int x :: r => some (p x y, r)
  | _ => none
def f_nl (b : Bool) (st : List Value) : Option (Bool × List Value) := match st with
  | .null :: r => some (b, r)
  | .ref _ :: r => some (!b, r)
  | _ => none
/-- references are compared by their numbers, where that is right: one of them is a new cell, or they are the same -/
def f_ac (b : Bool) (st : List Value) : Option (Bool × List Value) := match st with
  | .ref y :: .ref x :: r => bif (x == y) || ((Nat.ble 4 x || Nat.ble 4 y) && !(x == 3) && !(y == 3)) then some ((x == y) == b, r) else none
  | _ => none
section RWS
variable {G : j_G} {tm : Nat → MethodName × Cond} {i : j_I} {pc : Nat}
theorem r_iconst {k : Int} {v : Int32} (hd : decode i.2.1 pc = .ok (.iconst k, 1)) (hv : Int32.ofInt k = v) : j_ok G tm i pc (j_st (f_psh (.int v)) (pc + 1)) :=
  j_ok_st fun st st' h x H locs cells slots Q ls hc k => by cases h; exact lv_iconst hc.1 hc.2.1 hd hv k
theorem r_bipush {k : Int} {v : Int32} (hd : decode i.2.1 pc = .ok (.bipush k, 2)) (hv : (Int8.ofInt k).toInt32 = v) : j_ok G tm i pc (j_st (f_psh (.int v)) (pc + 2)) :=
  j_ok_st fun st st' h x H locs cells slots Q ls hc k => by cases h; exact lv_bipush hc.1 hc.2.1 hd hv k
theorem r_sipush {k : Int} {v : Int32} (hd : decode i.2.1 pc = .ok (.sipush k, 3)) (hv : (Int16.ofInt k).toInt32 = v) : j_ok G tm i pc (j_st (f_psh (.int v)) (pc + 3)) :=
  j_ok_st fun st st' h x H locs cells slots Q ls hc k => by cases h; exact lv_sipush hc.1 hc.2.1 hd hv k
theorem r_lconst {k : Fin 2} {v : Int64} (hd : decode i.2.1 pc = .ok (.lconst k, 1)) (hv : Int64.ofNat (k : Nat) = v) : j_ok G tm i pc (j_st (f_psh (.long v)) (pc + 1)) :=
  j_ok_st fun st st' h x H locs cells slots Q ls hc k => by cases h; exact lv_lconst hc.1 hc.2.1 hd hv k
theorem r_null (hd : decode i.2.1 pc = .ok (.aconst_null, 1)) : j_ok G tm i pc (j_st (f_psh .null) (pc + 1)) :=
  j_ok_st fun st st' h x H locs cells slots Q ls hc k => by cases h; exact lv_null hc.1 hc.2.1 hd k
theorem r_ldc {ix : Nat} {v : Int32} (hw : Cond.constant i.1 ix v ∈ lwg) (hd : decode i.2.1 pc = .ok (.ldc ix, 2)) : j_ok G tm i pc (j_st (f_psh (.int v)) (pc + 2)) :=
  j_ok_st fun st st' h x H locs cells slots Q ls hc k => by cases h; exact lv_ldc hc.1 hc.2.1 hc.2.2.2.1 (hc.2.2.2.2.1 _ hw) hd k
theorem r_ldc2 {ix : Nat} {v : Int64} (hw : Cond.constantLong i.1 ix v ∈ lwg) (hd : decode i.2.1 pc = .ok (.ldc2_w ix, 3)) : j_ok G tm i pc (j_st (f_psh (.long v)) (pc + 3)) :=
  j_ok_st fun st st' h x H locs cells slots Q ls hc k => by cases h; exact lv_ldc2 hc.1 hc.2.1 hc.2.2.2.1 (hc.2.2.2.2.1 _ hw) hd k
theorem f_ii_inv {op : Int32 → Int32 → Int32} {st st' : List Value} (h : f_ii op st = some st') : ∃ x y r, st = .int y :: .int x :: r ∧ st' = .int (op x y) :: r := by
  unfold f_ii at h
  split at h
  next y x r => cases h; exact ⟨x, y, r, rfl, rfl⟩
  next => cases h
theorem f_iin_inv {op : Int32 → Int32 → Int32} {st st' : List Value} (h : f_iin op st = some st') : ∃ x y r, ¬ y = 0 ∧ st = .int y :: .int x :: r ∧ st' = .int (op x y) :: r := by
  unfold f_iin at h
  split at h
  next y x r =>
    by_cases hy : y = 0
    · rw [if_pos hy] at h; cases h
    · rw [if_neg hy] at h; cases h; exact ⟨x, y, r, hy, rfl, rfl⟩
  next => cases h
theorem f_ll_inv {op : Int64 → Int64 → Int64} {st st' : List Value} (h : f_ll op st = some st') : ∃ x y r, st = .long y :: .long x :: r ∧ st' = .long (op x y) :: r := by
  unfold f_ll at h
  split at h
  next y x r => cases h; exact ⟨x, y, r, rfl, rfl⟩
  next => cases h
theorem f_li_inv {op : Int64 → Int32 → Int64} {st st' : List Value} (h : f_li op st = some st') : ∃ x y r, st = .int y :: .long x :: r ∧ st' = .long (op x y) :: r := by
  unfold f_li at h
  split at h
  next y x r => cases h; exact ⟨x, y, r, rfl, rfl⟩
  next => cases h
theorem f_i_inv {op : Int32 → Int32} {st st' : List Value} (h : f_i op st = some st') : ∃ x r, st = .int x :: r ∧ st' = .int (op x) :: r := by
  unfold f_i at h
  split at h
  next x r => cases h; exact ⟨x, r, rfl, rfl⟩
  next => cases h
theorem r_iadd (hd : decode i.2.1 pc = .ok (.iadd, 1)) : j_ok G tm i pc (j_st (f_ii (fun a b => a + b)) (pc + 1)) :=
  j_ok_st fun st st' h x H locs cells slots Q ls hc k => by obtain ⟨a, b, r, rfl, rfl⟩ := f_ii_inv h; exact lv_iadd hc.1 hc.2.1 hd k
theorem r_isub (hd : decode i.2.1 pc = .ok (.isub, 1)) : j_ok G tm i pc (j_st (f_ii (fun a b => a - b)) (pc + 1)) :=
  j_ok_st fun st st' h x H locs cells slots Q ls hc k => by obtain ⟨a, b, r, rfl, rfl⟩ := f_ii_inv h; exact lv_isub hc.1 hc.2.1 hd k
theorem r_imul (hd : decode i.2.1 pc = .ok (.imul, 1)) : j_ok G tm i pc (j_st (f_ii (fun a b => a * b)) (pc + 1)) :=
  j_ok_st fun st st' h x H locs cells slots Q ls hc k => by obtain ⟨a, b, r, rfl, rfl⟩ := f_ii_inv h; exact lv_imul hc.1 hc.2.1 hd k
theorem r_iand (hd : decode i.2.1 pc = .ok (.iand, 1)) : j_ok G tm i pc (j_st (f_ii (fun a b => a &&& b)) (pc + 1)) :=
  j_ok_st fun st st' h x H locs cells slots Q ls hc k => by obtain ⟨a, b, r, rfl, rfl⟩ := f_ii_inv h; exact lv_iand hc.1 hc.2.1 hd k
theorem r_ior (hd : decode i.2.1 pc = .ok (.ior, 1)) : j_ok G tm i pc (j_st (f_ii (fun a b => a ||| b)) (pc + 1)) :=
  j_ok_st fun st st' h x H locs cells slots Q ls hc k => by obtain ⟨a, b, r, rfl, rfl⟩ := f_ii_inv h; exact lv_ior hc.1 hc.2.1 hd k
theorem r_ixor (hd : decode i.2.1 pc = .ok (.ixor, 1)) : j_ok G tm i pc (j_st (f_ii (fun a b => a ^^^ b)) (pc + 1)) :=
  j_ok_st fun st st' h x H locs cells slots Q ls hc k => by obtain ⟨a, b, r, rfl, rfl⟩ := f_ii_inv h; exact lv_ixor hc.1 hc.2.1 hd k
theorem r_ishl (hd : decode i.2.1 pc = .ok (.ishl, 1)) : j_ok G tm i pc (j_st (f_ii (fun a b => a <<< (b &&& 31))) (pc + 1)) :=
  j_ok_st fun st st' h x H locs cells slots Q ls hc k => by obtain ⟨a, b, r, rfl, rfl⟩ := f_ii_inv h; exact lv_ishl hc.1 hc.2.1 hd k
theorem r_ishr (hd : decode i.2.1 pc = .ok (.ishr, 1)) : j_ok G tm i pc (j_st (f_ii (fun a b => a >>> (b &&& 31))) (pc + 1)) :=
  j_ok_st fun st st' h x H locs cells slots Q ls hc k => by obtain ⟨a, b, r, rfl, rfl⟩ := f_ii_inv h; exact lv_ishr hc.1 hc.2.1 hd k
theorem r_iushr (hd : decode i.2.1 pc = .ok (.iushr, 1)) : j_ok G tm i pc (j_st (f_ii (fun a b => (a.toUInt32 >>> (b.toUInt32 &&& Int32.toUInt32 31)).toInt32)) (pc + 1)) :=
  j_ok_st fun st st' h x H locs cells slots Q ls hc k => by obtain ⟨a, b, r, rfl, rfl⟩ := f_ii_inv h; exact lv_iushr hc.1 hc.2.1 hd rfl k
theorem r_idiv (hd : decode i.2.1 pc = .ok (.idiv, 1)) : j_ok G tm i pc (j_st (f_iin (fun a b => a / b)) (pc + 1)) :=
  j_ok_st fun st st' h x H locs cells slots Q ls hc k => by obtain ⟨a, b, r, hy, rfl, rfl⟩ := f_iin_inv h; exact lv_idiv hc.1 hc.2.1 hd hy k
theorem r_irem (hd : decode i.2.1 pc = .ok (.irem, 1)) : j_ok G tm i pc (j_st (f_iin (fun a b => a - a / b * b)) (pc + 1)) :=
  j_ok_st fun st st' h x H locs cells slots Q ls hc k => by obtain ⟨a, b, r, hy, rfl, rfl⟩ := f_iin_inv h; exact lv_irem hc.1 hc.2.1 hd hy k
theorem r_ineg (hd : decode i.2.1 pc = .ok (.ineg, 1)) : j_ok G tm i pc (j_st (f_i (fun a => -a)) (pc + 1)) :=
  j_ok_st fun st st' h x H locs cells slots Q ls hc k => by obtain ⟨a, r, rfl, rfl⟩ := f_i_inv h; exact lv_ineg hc.1 hc.2.1 hd k
theorem r_i2b (hd : decode i.2.1 pc = .ok (.i2b, 1)) : j_ok G tm i pc (j_st (f_i (fun a => a.toInt8.toInt32)) (pc + 1)) :=
  j_ok_st fun st st' h x H locs cells slots Q ls hc k => by obtain ⟨a, r, rfl, rfl⟩ := f_i_inv h; exact lv_i2b hc.1 hc.2.1 hd rfl k
theorem r_ladd (hd : decode i.2.1 pc = .ok (.ladd, 1)) : j_ok G tm i pc (j_st (f_ll (fun a b => a + b)) (pc + 1)) :=
  j_ok_st fun st st' h x H locs cells slots Q ls hc k => by obtain ⟨a, b, r, rfl, rfl⟩ := f_ll_inv h; exact lv_ladd hc.1 hc.2.1 hd k
theorem r_lsub (hd : decode i.2.1 pc = .ok (.lsub, 1)) : j_ok G tm i pc (j_st (f_ll (fun a b => a - b)) (pc + 1)) :=
  j_ok_st fun st st' h x H locs cells slots Q ls hc k => by obtain ⟨a, b, r, rfl, rfl⟩ := f_ll_inv h; exact lv_lsub hc.1 hc.2.1 hd k
theorem r_lmul (hd : decode i.2.1 pc = .ok (.lmul, 1)) : j_ok G tm i pc (j_st (f_ll (fun a b => a * b)) (pc + 1)) :=
  j_ok_st fun st st' h x H locs cells slots Q ls hc k => by obtain ⟨a, b, r, rfl, rfl⟩ := f_ll_inv h; exact lv_lmul hc.1 hc.2.1 hd k
theorem r_land (hd : decode i.2.1 pc = .ok (.land, 1)) : j_ok G tm i pc (j_st (f_ll (fun a b => a &&& b)) (pc + 1)) :=
  j_ok_st fun st st' h x H locs cells slots Q ls hc k => by obtain ⟨a, b, r, rfl, rfl⟩ := f_ll_inv h; exact lv_land hc.1 hc.2.1 hd k
theorem r_lor (hd : decode i.2.1 pc = .ok (.lor, 1)) : j_ok G tm i pc (j_st (f_ll (fun a b => a ||| b)) (pc + 1)) :=
  j_ok_st fun st st' h x H locs cells slots Q ls hc k => by obtain ⟨a, b, r, rfl, rfl⟩ := f_ll_inv h; exact lv_lor hc.1 hc.2.1 hd k
theorem r_lxor (hd : decode i.2.1 pc = .ok (.lxor, 1)) : j_ok G tm i pc (j_st (f_ll (fun a b => a ^^^ b)) (pc + 1)) :=
  j_ok_st fun st st' h x H locs cells slots Q ls hc k => by obtain ⟨a, b, r, rfl, rfl⟩ := f_ll_inv h; exact lv_lxor hc.1 hc.2.1 hd k
theorem r_lshl (hd : decode i.2.1 pc = .ok (.lshl, 1)) : j_ok G tm i pc (j_st (f_li (fun a b => a <<< (b.toInt64 &&& 63))) (pc + 1)) :=
  j_ok_st fun st st' h x H locs cells slots Q ls hc k => by obtain ⟨a, b, r, rfl, rfl⟩ := f_li_inv h; exact lv_lshl hc.1 hc.2.1 hd rfl k
theorem r_lshr (hd : decode i.2.1 pc = .ok (.lshr, 1)) : j_ok G tm i pc (j_st (f_li (fun a b => a >>> (b.toInt64 &&& 63))) (pc + 1)) :=
  j_ok_st fun st st' h x H locs cells slots Q ls hc k => by obtain ⟨a, b, r, rfl, rfl⟩ := f_li_inv h; exact lv_lshr hc.1 hc.2.1 hd rfl k
theorem r_lushr (hd : decode i.2.1 pc = .ok (.lushr, 1)) : j_ok G tm i pc (j_st (f_li (fun a b => (a.toUInt64 >>> (b.toInt64.toUInt64 &&& Int64.toUInt64 63)).toInt64)) (pc + 1)) :=
  j_ok_st fun st st' h x H locs cells slots Q ls hc k => by obtain ⟨a, b, r, rfl, rfl⟩ := f_li_inv h; exact lv_lushr hc.1 hc.2.1 hd rfl k
theorem r_i2l (hd : decode i.2.1 pc = .ok (.i2l, 1)) : j_ok G tm i pc (j_st f_i2l (pc + 1)) :=
  j_ok_st fun st st' h x H locs cells slots Q ls hc k => by
    unfold f_i2l at h
    split at h
    next a r => cases h; exact lv_i2l hc.1 hc.2.1 hd rfl k
    next => cases h
theorem r_l2i (hd : decode i.2.1 pc = .ok (.l2i, 1)) : j_ok G tm i pc (j_st f_l2i (pc + 1)) :=
  j_ok_st fun st st' h x H locs cells slots Q ls hc k => by
    unfold f_l2i at h
    split at h
    next a r => cases h; exact lv_l2i hc.1 hc.2.1 hd rfl k
    next => cases h
theorem r_lcmp (hd : decode i.2.1 pc = .ok (.lcmp, 1)) : j_ok G tm i pc (j_st f_cmp (pc + 1)) :=
  j_ok_st fun st st' h x H locs cells slots Q ls hc k => by
    unfold f_cmp at h
    split at h
    next b a r => cases h; exact W.lcmp hc.1 hc.2.1 hd k
    next => cases h
theorem r_dup (hd : decode i.2.1 pc = .ok (.dup, 1)) : j_ok G tm i pc (j_st f_dup (pc + 1)) :=
  j_ok_st fun st st' h x H locs cells slots Q ls hc k => by
    unfold f_dup at h
    split at h
    next v r =>
      cases hv : v.category == 1 with
      | false => simp [hv] at h
      | true =>
        simp only [hv, cond_true, Option.some.injEq] at h
        subst h
        exact lv_dup hc.1 hc.2.1 hd (by rw [rn_cat]; exact beq_iff_eq.mp hv) k
    next => cases h
theorem r_pop (hd : decode i.2.1 pc = .ok (.pop, 1)) : j_ok G tm i pc (j_st f_pop (pc + 1)) :=
  j_ok_st fun st st' h x H locs cells slots Q ls hc k => by
    unfold f_pop at h
    split at h
    next v r =>
      cases hv : v.category == 1 with
      | false => simp [hv] at h
      | true =>
        simp only [hv, cond_true, Option.some.injEq] at h
        subst h
        exact lv_pop (va := rn G v) hc.1 hc.2.1 hd (by rw [rn_cat]; exact beq_iff_eq.mp hv) k
    next => cases h
theorem r_dup2 (hd : decode i.2.1 pc = .ok (.dup2, 1)) : j_ok G tm i pc (j_st f_dup2 (pc + 1)) :=
  j_ok_st fun st st' h x H locs cells slots Q ls hc k => by
    unfold f_dup2 at h
    split at h
    next v u r =>
      cases hv : (v.category == 1) && (u.category == 1) with
      | false => simp [hv] at h
      | true =>
        simp only [hv, cond_true, Option.some.injEq] at h
        subst h
        simp only [Bool.and_eq_true, beq_iff_eq] at hv
        exact lv_dup2_11 hc.1 hc.2.1 hd (by rw [rn_cat]; exact hv.1) (by rw [rn_cat]; exact hv.2) k
    next => cases h
theorem r_dupx1 (hd : decode i.2.1 pc = .ok (.dup_x1, 1)) : j_ok G tm i pc (j_st f_dupx1 (pc + 1)) :=
  j_ok_st fun st st' h x H locs cells slots Q ls hc k => by
    unfold f_dupx1 at h
    split at h
    next v u r =>
      cases hv : (v.category == 1) && (u.category == 1) with
      | false => simp [hv] at h
      | true =>
        simp only [hv, cond_true, Option.some.injEq] at h
        subst h
        simp only [Bool.and_eq_true, beq_iff_eq] at hv
        exact lv_dup_x1 hc.1 hc.2.1 hd (by rw [rn_cat]; exact hv.1) (by rw [rn_cat]; exact hv.2) k
    next => cases h
theorem r_goto {off : Int} {t : Nat} (hd : decode i.2.1 pc = .ok (.goto off, 3)) (ht : (pc : Int) + off = (t : Int)) : j_ok G tm i pc (j_st f_id t) :=
  j_ok_st fun st st' h x H locs cells slots Q ls hc k => by cases h; exact lv_goto hc.1 hc.2.1 hd ht k
theorem f_if_inv {p : Int32 → Bool} {st st' : List Value} {b : Bool} (h : f_if p st = some (b, st')) : ∃ x, st = .int x :: st' ∧ b = p x := by
  unfold f_if at h
  split at h
  next x r => cases h; exact ⟨x, rfl, rfl⟩
  next => cases h
theorem f_ic_inv {p : Int32 → Int32 → Bool} {st st' : List Value} {b : Bool} (h : f_ic p st = some (b, st')) : ∃ x y, st = .int y :: .int x :: st' ∧ b = p x y := by
  unfold f_ic at h
  split at h
  next y x r => cases h; exact ⟨x, y, rfl, rfl⟩
  next => cases h
theorem r_if_eq {off : Int} {t : Nat} (hd : decode i.2.1 pc = .ok (.ifCond .eq off, 3)) (ht : (pc : Int) + off = (t : Int)) : j_ok G tm i pc (j_br (f_if (fun x => decide (x = 0))) t (pc + 3)) :=
  j_ok_br fun st b st' h x H locs cells slots Q ls hc k => by
    obtain ⟨a, rfl, hb⟩ := f_if_inv h
    cases b with
    | true =>
      have z := of_decide_eq_true hb.symm
      exact lv_if_eq hc.1 hc.2.1 hd ht (fun _ => k) (fun z' => absurd z z')
    | false =>
      have z := of_decide_eq_false hb.symm
      exact lv_if_eq hc.1 hc.2.1 hd ht (fun z' => absurd z' z) (fun _ => k)
theorem r_ic_eq {off : Int} {t : Nat} (hd : decode i.2.1 pc = .ok (.if_icmp .eq off, 3)) (ht : (pc : Int) + off = (t : Int)) : j_ok G tm i pc (j_br (f_ic (fun x y => decide (x = y))) t (pc + 3)) :=
  j_ok_br fun st b st' h x H locs cells slots Q ls hc k => by
    obtain ⟨a, d, rfl, hb⟩ := f_ic_inv h
    cases b with
    | true =>
      have z := of_decide_eq_true hb.symm
      exact lv_icmp_eq hc.1 hc.2.1 hd ht (fun _ => k) (fun z' => absurd z z')
    | false =>
      have z := of_decide_eq_false hb.symm
      exact lv_icmp_eq hc.1 hc.2.1 hd ht (fun z' => absurd z' z) (fun _ => k)
theorem r_if_ne {off : Int} {t : Nat} (hd : decode i.2.1 pc = .ok (.ifCond .ne off, 3)) (ht : (pc : Int) + off = (t : Int)) : j_ok G tm i pc (j_br (f_if (fun x => decide (¬ x = 0))) t (pc + 3)) :=
  j_ok_br fun st b st' h x H locs cells slots Q ls hc k => by
    obtain ⟨a, rfl, hb⟩ := f_if_inv h
    cases b with
    | true =>
      have z := of_decide_eq_true hb.symm
      exact lv_if_ne hc.1 hc.2.1 hd ht (fun _ => k) (fun z' => absurd z' z)
    | false =>
      have z := of_decide_eq_false hb.symm
      exact lv_if_ne hc.1 hc.2.1 hd ht (fun z' => absurd z' z) (fun _ => k)
theorem r_ic_ne {off : Int} {t : Nat} (hd : decode i.2.1 pc = .ok (.if_icmp .ne off, 3)) (ht : (pc : Int) + off = (t : Int)) : j_ok G tm i pc (j_br (f_ic (fun x y => decide (¬ x = y))) t (pc + 3)) :=
  j_ok_br fun st b st' h x H locs cells slots Q ls hc k => by
    obtain ⟨a, d, rfl, hb⟩ := f_ic_inv h
    cases b with
    | true =>
      have z := of_decide_eq_true hb.symm
      exact lv_icmp_ne hc.1 hc.2.1 hd ht (fun _ => k) (fun z' => absurd z' z)
    | false =>
      have z := of_decide_eq_false hb.symm
      exact lv_icmp_ne hc.1 hc.2.1 hd ht (fun z' => absurd z' z) (fun _ => k)
theorem r_if_lt {off : Int} {t : Nat} (hd : decode i.2.1 pc = .ok (.ifCond .lt off, 3)) (ht : (pc : Int) + off = (t : Int)) : j_ok G tm i pc (j_br (f_if (fun x => decide (x < 0))) t (pc + 3)) :=
  j_ok_br fun st b st' h x H locs cells slots Q ls hc k => by
    obtain ⟨a, rfl, hb⟩ := f_if_inv h
    cases b with
    | true =>
      have z := of_decide_eq_true hb.symm
      exact lv_if_lt hc.1 hc.2.1 hd ht (fun _ => k) (fun z' => absurd z z')
    | false =>
      have z := of_decide_eq_false hb.symm
      exact lv_if_lt hc.1 hc.2.1 hd ht (fun z' => absurd z' z) (fun _ => k)
theorem r_ic_lt {off : Int} {t : Nat} (hd : decode i.2.1 pc = .ok (.if_icmp .lt off, 3)) (ht : (pc : Int) + off = (t : Int)) : j_ok G tm i pc (j_br (f_ic (fun x y => decide (x < y))) t (pc + 3)) :=
  j_ok_br fun st b st' h x H locs cells slots Q ls hc k => by
    obtain ⟨a, d, rfl, hb⟩ := f_ic_inv h
    cases b with
    | true =>
      have z := of_decide_eq_true hb.symm
      exact lv_icmp_lt hc.1 hc.2.1 hd ht (fun _ => k) (fun z' => absurd z z')
    | false =>
      have z := of_decide_eq_false hb.symm
      exact lv_icmp_lt hc.1 hc.2.1 hd ht (fun z' => absurd z' z) (fun _ => k)
theorem r_if_ge {off : Int} {t : Nat} (hd : decode i.2.1 pc = .ok (.ifCond .ge off, 3)) (ht : (pc : Int) + off = (t : Int)) : j_ok G tm i pc (j_br (f_if (fun x => decide (0 ≤ x))) t (pc + 3)) :=
  j_ok_br fun st b st' h x H locs cells slots Q ls hc k => by
    obtain ⟨a, rfl, hb⟩ := f_if_inv h
    cases b with
    | true =>
      have z := of_decide_eq_true hb.symm
      exact lv_if_ge hc.1 hc.2.1 hd ht (fun _ => k) (fun z' => absurd z z')
    | false =>
      have z := of_decide_eq_false hb.symm
      exact lv_if_ge hc.1 hc.2.1 hd ht (fun z' => absurd z' z) (fun _ => k)
theorem r_ic_ge {off : Int} {t : Nat} (hd : decode i.2.1 pc = .ok (.if_icmp .ge off, 3)) (ht : (pc : Int) + off = (t : Int)) : j_ok G tm i pc (j_br (f_ic (fun x y => decide (y ≤ x))) t (pc + 3)) :=
  j_ok_br fun st b st' h x H locs cells slots Q ls hc k => by
    obtain ⟨a, d, rfl, hb⟩ := f_ic_inv h
    cases b with
    | true =>
      have z := of_decide_eq_true hb.symm
      exact lv_icmp_ge hc.1 hc.2.1 hd ht (fun _ => k) (fun z' => absurd z z')
    | false =>
      have z := of_decide_eq_false hb.symm
      exact lv_icmp_ge hc.1 hc.2.1 hd ht (fun z' => absurd z' z) (fun _ => k)
theorem r_if_gt {off : Int} {t : Nat} (hd : decode i.2.1 pc = .ok (.ifCond .gt off, 3)) (ht : (pc : Int) + off = (t : Int)) : j_ok G tm i pc (j_br (f_if (fun x => decide (0 < x))) t (pc + 3)) :=
  j_ok_br fun st b st' h x H locs cells slots Q ls hc k => by
    obtain ⟨a, rfl, hb⟩ := f_if_inv h
    cases b with
    | true =>
      have z := of_decide_eq_true hb.symm
      exact lv_if_gt hc.1 hc.2.1 hd ht (fun _ => k) (fun z' => absurd z z')
    | false =>
      have z := of_decide_eq_false hb.symm
      exact lv_if_gt hc.1 hc.2.1 hd ht (fun z' => absurd z' z) (fun _ => k)
theorem r_ic_gt {off : Int} {t : Nat} (hd : decode i.2.1 pc = .ok (.if_icmp .gt off, 3)) (ht : (pc : Int) + off = (t : Int)) : j_ok G tm i pc (j_br (f_ic (fun x y => decide (y < x))) t (pc + 3)) :=
  j_ok_br fun st b st' h x H locs cells slots Q ls hc k => by
    obtain ⟨a, d, rfl, hb⟩ := f_ic_inv h
    cases b with
    | true =>
      have z := of_decide_eq_true hb.symm
      exact lv_icmp_gt hc.1 hc.2.1 hd ht (fun _ => k) (fun z' => absurd z z')
    | false =>
      have z := of_decide_eq_false hb.symm
      exact lv_icmp_gt hc.1 hc.2.1 hd ht (fun z' => absurd z' z) (fun _ => k)
theorem r_if_le {off : Int} {t : Nat} (hd : decode i.2.1 pc = .ok (.ifCond .le off, 3)) (ht : (pc : Int) + off = (t : Int)) : j_ok G tm i pc (j_br (f_if (fun x => decide (x ≤ 0))) t (pc + 3)) :=
  j_ok_br fun st b st' h x H locs cells slots Q ls hc k => by
    obtain ⟨a, rfl, hb⟩ := f_if_inv h
    cases b with
    | true =>
      have z := of_decide_eq_true hb.symm
      exact lv_if_le hc.1 hc.2.1 hd ht (fun _ => k) (fun z' => absurd z z')
    | false =>
      have z := of_decide_eq_false hb.symm
      exact lv_if_le hc.1 hc.2.1 hd ht (fun z' => absurd z' z) (fun _ => k)
theorem r_ic_le {off : Int} {t : Nat} (hd : decode i.2.1 pc = .ok (.if_icmp .le off, 3)) (ht : (pc : Int) + off = (t : Int)) : j_ok G tm i pc (j_br (f_ic (fun x y => decide (x ≤ y))) t (pc + 3)) :=
  j_ok_br fun st b st' h x H locs cells slots Q ls hc k => by
    obtain ⟨a, d, rfl, hb⟩ := f_ic_inv h
    cases b with
    | true =>
      have z := of_decide_eq_true hb.symm
      exact lv_icmp_le hc.1 hc.2.1 hd ht (fun _ => k) (fun z' => absurd z z')
    | false =>
      have z := of_decide_eq_false hb.symm
      exact lv_icmp_le hc.1 hc.2.1 hd ht (fun z' => absurd z' z) (fun _ => k)
theorem r_ifnull {off : Int} {t : Nat} (hd : decode i.2.1 pc = .ok (.ifnull off, 3)) (ht : (pc : Int) + off = (t : Int)) : j_ok G tm i pc (j_br (f_nl true) t (pc + 3)) :=
  j_ok_br fun st b st' h x H locs cells slots Q ls hc k => by
    unfold f_nl at h
    split at h
    next r => cases h; exact lv_ifnullN hc.1 hc.2.1 hd ht k
    next a r => cases h; exact lv_ifnull hc.1 hc.2.1 hd k
    next => cases h
theorem r_ifnonnull {off : Int} {t : Nat} (hd : decode i.2.1 pc = .ok (.ifnonnull off, 3)) (ht : (pc : Int) + off = (t : Int)) : j_ok G tm i pc (j_br (f_nl false) t (pc + 3)) :=
  j_ok_br fun st b st' h x H locs cells slots Q ls hc k => by
    unfold f_nl at h
    split at h
    next r => cases h; exact lv_ifnonnullN hc.1 hc.2.1 hd k
    next a r => cases h; exact lv_ifnonnull hc.1 hc.2.1 hd ht k
    next => cases h
/-- the numbers are apart where the addresses are -/
theorem adr_ne {G : j_G} {U : State} (hK : j_K G U) {a b : Nat} (h : (a == b) = false) (h4 : ((Nat.ble 4 a || Nat.ble 4 b) && !(a == 3) && !(b == 3)) = true) : adr G a ≠ adr G b := by
  have hne : a ≠ b := by simpa using h
  have hx := hK.2.2.2.2.2.1
  simp only [Bool.and_eq_true, Bool.or_eq_true, Nat.ble_eq, Bool.not_eq_true', beq_eq_false_iff_ne, ne_eq] at h4
  obtain ⟨⟨h4, h5⟩, h6⟩ := h4
  unfold adr
  cases h1 : Nat.blt a 4 <;> cases h2 : Nat.blt b 4
  · have g1 : ¬ a < 4 := fun q => by rw [Nat.blt_eq.mpr q] at h1; cases h1
    have g2 : ¬ b < 4 := fun q => by rw [Nat.blt_eq.mpr q] at h2; cases h2
    simp only [cond_false]
    omega
  · have g1 : ¬ a < 4 := fun q => by rw [Nat.blt_eq.mpr q] at h1; cases h1
    have g2 := Nat.blt_eq.mp h2
    have := hx b (by omega)
    simp only [cond_false, cond_true]
    omega
  · have g2 : ¬ b < 4 := fun q => by rw [Nat.blt_eq.mpr q] at h2; cases h2
    have g1 := Nat.blt_eq.mp h1
    have := hx a (by omega)
    simp only [cond_false, cond_true]
    omega
  · have g1 := Nat.blt_eq.mp h1
    have g2 := Nat.blt_eq.mp h2
    omega
theorem f_ac_inv {b c : Bool} {st st' : List Value} (h : f_ac b st = some (c, st')) : ∃ x y, st = .ref y :: .ref x :: st' ∧ c = ((x == y) == b) ∧ ((x == y) || ((Nat.ble 4 x || Nat.ble 4 y) && !(x == 3) && !(y == 3))) = true := by
  unfold f_ac at h
  split at h
  next y x r =>
    cases hv : (x == y) || ((Nat.ble 4 x || Nat.ble 4 y) && !(x == 3) && !(y == 3)) with
    | false => simp [hv] at h
    | true =>
      simp only [hv, cond_true, Option.some.injEq, Prod.mk.injEq] at h
      obtain ⟨h1, h2⟩ := h
      subst h2
      exact ⟨x, y, rfl, h1.symm, hv⟩
  next => cases h
theorem r_acmpeq {off : Int} {t : Nat} (hd : decode i.2.1 pc = .ok (.if_acmp .eq off, 3)) (ht : (pc : Int) + off = (t : Int)) : j_ok G tm i pc (j_br (f_ac true) t (pc + 3)) :=
  j_ok_br fun st b st' h x H locs cells slots Q ls hc k => by
    obtain ⟨a, d, rfl, hb, h4⟩ := f_ac_inv h
    cases hq : a == d with
    | true =>
      have e : a = d := by simpa using hq
      subst e
      rw [hq] at hb
      subst hb
      exact lv_acmp_eq (rx := some (adr G a)) (ry := some (adr G a)) hc.1 hc.2.1 hd ht (fun _ => k) (fun z => absurd rfl z)
    | false =>
      rw [hq] at hb h4
      subst hb
      have hn := adr_ne hc.2.2.2.2.2.1 hq (by rw [Bool.false_or] at h4; exact h4)
      exact lv_acmp_eq (rx := some (adr G a)) (ry := some (adr G d)) hc.1 hc.2.1 hd ht (fun z => absurd (Option.some.inj z) hn) (fun _ => k)
theorem r_acmpne {off : Int} {t : Nat} (hd : decode i.2.1 pc = .ok (.if_acmp .ne off, 3)) (ht : (pc : Int) + off = (t : Int)) : j_ok G tm i pc (j_br (f_ac false) t (pc + 3)) :=
  j_ok_br fun st b st' h x H locs cells slots Q ls hc k => by
    obtain ⟨a, d, rfl, hb, h4⟩ := f_ac_inv h
    cases hq : a == d with
    | true =>
      have e : a = d := by simpa using hq
      subst e
      rw [hq] at hb
      subst hb
      exact lv_acmp_ne (rx := some (adr G a)) (ry := some (adr G a)) hc.1 hc.2.1 hd ht (fun z => absurd rfl z) (fun _ => k)
    | false =>
      rw [hq] at hb h4
      subst hb
      have hn := adr_ne hc.2.2.2.2.2.1 hq (by rw [Bool.false_or] at h4; exact h4)
      exact lv_acmp_ne (rx := some (adr G a)) (ry := some (adr G d)) hc.1 hc.2.1 hd ht (fun _ => k) (fun z => absurd (Option.some.inj z) hn)
theorem j_kd0 {v : Value} (h : j_kd 0 v = true) : ∃ a, v = .int a := by cases v <;> first | exact ⟨_, rfl⟩ | (simp [j_kd] at h)
theorem j_kd1 {v : Value} (h : j_kd 1 v = true) : ∃ a, v = .long a := by cases v <;> first | exact ⟨_, rfl⟩ | (simp [j_kd] at h)
theorem j_kd2 {v : Value} (h : j_kd 2 v = true) : v = .null ∨ ∃ a, v = .ref a := by cases v <;> first | exact Or.inl rfl | exact Or.inr ⟨_, rfl⟩ | (simp [j_kd] at h)
theorem r_iload_n {k : Fin 4} {a : Nat} (hd : decode i.2.1 pc = .ok (.iload_n k, 1)) (hk : (k : Nat) = a) : j_ok G tm i pc (j_ld 0 a (pc + 1)) :=
  j_ok_ld fun v hv x H locs cells slots Q ls rest hc hl k => by obtain ⟨z, rfl⟩ := j_kd0 hv; exact lv_iload_n hc.1 hc.2.1 hd hk hl k
theorem r_iload {a : Nat} (hd : decode i.2.1 pc = .ok (.iload a, 2)) : j_ok G tm i pc (j_ld 0 a (pc + 2)) :=
  j_ok_ld fun v hv x H locs cells slots Q ls rest hc hl k => by obtain ⟨z, rfl⟩ := j_kd0 hv; exact lv_iload hc.1 hc.2.1 hd hl k
theorem r_lload_n {k : Fin 4} {a : Nat} (hd : decode i.2.1 pc = .ok (.lload_n k, 1)) (hk : (k : Nat) = a) : j_ok G tm i pc (j_ld 1 a (pc + 1)) :=
  j_ok_ld fun v hv x H locs cells slots Q ls rest hc hl k => by obtain ⟨z, rfl⟩ := j_kd1 hv; exact lv_lload_n hc.1 hc.2.1 hd hk hl k
theorem r_lload {a : Nat} (hd : decode i.2.1 pc = .ok (.lload a, 2)) : j_ok G tm i pc (j_ld 1 a (pc + 2)) :=
  j_ok_ld fun v hv x H locs cells slots Q ls rest hc hl k => by obtain ⟨z, rfl⟩ := j_kd1 hv; exact lv_lload hc.1 hc.2.1 hd hl k
theorem r_aload_n {k : Fin 4} {a : Nat} (hd : decode i.2.1 pc = .ok (.aload_n k, 1)) (hk : (k : Nat) = a) : j_ok G tm i pc (j_ld 2 a (pc + 1)) :=
  j_ok_ld fun v hv x H locs cells slots Q ls rest hc hl k => by
    rcases j_kd2 hv with rfl | ⟨z, rfl⟩
    · exact lv_aload_nN hc.1 hc.2.1 hd hk hl k
    · exact lv_aload_n hc.1 hc.2.1 hd hk hl k
theorem r_aload {a : Nat} (hd : decode i.2.1 pc = .ok (.aload a, 2)) : j_ok G tm i pc (j_ld 2 a (pc + 2)) :=
  j_ok_ld fun v hv x H locs cells slots Q ls rest hc hl k => by
    rcases j_kd2 hv with rfl | ⟨z, rfl⟩
    · exact lv_aloadN hc.1 hc.2.1 hd hl k
    · exact lv_aload hc.1 hc.2.1 hd hl k
theorem r_istore_n {k : Fin 4} {a : Nat} (hd : decode i.2.1 pc = .ok (.istore_n k, 1)) (hk : (k : Nat) = a) (hn : a < i.2.2.1) : j_ok G tm i pc (j_so 0 a (pc + 1)) :=
  j_ok_so1 rfl fun v hv x H locs cells slots Q ls rest lv hc hl k => by obtain ⟨z, rfl⟩ := j_kd0 hv; exact lv_istore_n hc.1 hc.2.1 hd hk hl hn rfl k
theorem r_istore {a : Nat} (hd : decode i.2.1 pc = .ok (.istore a, 2)) (hn : a < i.2.2.1) : j_ok G tm i pc (j_so 0 a (pc + 2)) :=
  j_ok_so1 rfl fun v hv x H locs cells slots Q ls rest lv hc hl k => by obtain ⟨z, rfl⟩ := j_kd0 hv; exact lv_istore hc.1 hc.2.1 hd hl hn rfl k
theorem r_lstore_n {k : Fin 4} {a : Nat} (hd : decode i.2.1 pc = .ok (.lstore_n k, 1)) (hk : (k : Nat) = a) (hn : a + 1 < i.2.2.1) : j_ok G tm i pc (j_so 1 a (pc + 1)) :=
  j_ok_so2 fun z x H locs cells slots Q ls rest lv hc hl k => lv_lstore_n hc.1 hc.2.1 hd hk hl hn rfl k
theorem r_lstore {a : Nat} (hd : decode i.2.1 pc = .ok (.lstore a, 2)) (hn : a + 1 < i.2.2.1) : j_ok G tm i pc (j_so 1 a (pc + 2)) :=
  j_ok_so2 fun z x H locs cells slots Q ls rest lv hc hl k => lv_lstore hc.1 hc.2.1 hd hl hn rfl k
theorem r_astore_n {k : Fin 4} {a : Nat} (hd : decode i.2.1 pc = .ok (.astore_n k, 1)) (hk : (k : Nat) = a) (hn : a < i.2.2.1) : j_ok G tm i pc (j_so 2 a (pc + 1)) :=
  j_ok_so1 rfl fun v hv x H locs cells slots Q ls rest lv hc hl k => by
    rcases j_kd2 hv with rfl | ⟨z, rfl⟩
    · exact lv_astore_nN hc.1 hc.2.1 hd hk hl hn rfl k
    · exact lv_astore_n hc.1 hc.2.1 hd hk hl hn rfl k
theorem r_astore {a : Nat} (hd : decode i.2.1 pc = .ok (.astore a, 2)) (hn : a < i.2.2.1) : j_ok G tm i pc (j_so 2 a (pc + 2)) :=
  j_ok_so1 rfl fun v hv x H locs cells slots Q ls rest lv hc hl k => by
    rcases j_kd2 hv with rfl | ⟨z, rfl⟩
    · exact lv_astoreN hc.1 hc.2.1 hd hl hn rfl k
    · exact lv_astore hc.1 hc.2.1 hd hl hn rfl k
end RWS
/-! returns -/
def j_kr (t : Nat) (v : Value) : Bool := match t, v with
  | 0, .int _ => true
  | 1, .long _ => true
  | 2, .ref _ => true
  | 2, .null => true
  | 3, .int x => (x == 0) || (x == 1)
  | _, _ => false
def j_rt (t : Nat) : j_S := fun _ st _ => match st with
  | [v] => bif j_kr t v then some (.inr (.inl (some v))) else none
  | _ => none
def j_rv : j_S := fun _ st _ => match st with
  | [] => some (.inr (.inl none))
  | _ => none
section RETS
variable {G : j_G} {tm : Nat → MethodName × Cond} {i : j_I} {pc : Nat}
theorem r_return (hd : decode i.2.1 pc = .ok (.return_, 1)) (hr : i.2.2.2.2.1 = none) : j_ok G tm i pc j_rv := by
  intro lc st mem act ha
  unfold j_rv at ha
  split at ha
  next =>
    cases ha
    intro x H locs cells slots ls Qc free hc hq hf
    obtain ⟨hx, hb, -, -, -, -, -, -, hret, hlk, -⟩ := hc
    exact W.mono (fun t => j_MQ.of) (W.vret hx hb (hret.trans hr) hq hf hd hlk)
  next => cases ha
theorem j_rt_inv {t : Nat} {lc : j_L} {st : List Value} {mem : j_M} {act : j_A} (ha : j_rt t lc st mem = some act) : ∃ v, st = [v] ∧ j_kr t v = true ∧ act = .inr (.inl (some v)) := by
  unfold j_rt at ha
  split at ha
  next v =>
    cases hv : j_kr t v with
    | false => simp [hv] at ha
    | true =>
      simp only [hv, cond_true, Option.some.injEq] at ha
      exact ⟨v, rfl, hv, ha.symm⟩
  next => cases ha
theorem r_ireturn (hd : decode i.2.1 pc = .ok (.ireturn, 1)) (hr : i.2.2.2.2.1 = some .int) : j_ok G tm i pc (j_rt 0) := by
  intro lc st mem act ha
  obtain ⟨v, rfl, hv, rfl⟩ := j_rt_inv ha
  cases v <;> first | (simp [j_kr] at hv; done) | skip
  rename_i y
  intro x H locs cells slots ls Qc free hc hq hf
  obtain ⟨hx, hb, -, -, -, -, -, -, hret, hlk, -⟩ := hc
  exact W.mono (fun t => j_MQ.of) (W.iret (v := y) hx hb (hret.trans hr) hq hf hd hlk)
theorem r_lreturn (hd : decode i.2.1 pc = .ok (.lreturn, 1)) (hr : i.2.2.2.2.1 = some .long) : j_ok G tm i pc (j_rt 1) := by
  intro lc st mem act ha
  obtain ⟨v, rfl, hv, rfl⟩ := j_rt_inv ha
  cases v <;> first | (simp [j_kr] at hv; done) | skip
  rename_i y
  intro x H locs cells slots ls Qc free hc hq hf
  obtain ⟨hx, hb, -, -, -, -, -, -, hret, hlk, -⟩ := hc
  exact W.mono (fun t => j_MQ.of) (W.lret (v := y) hx hb (hret.trans hr) hq hf hd hlk)
theorem r_areturn {rt : FieldType} (hd : decode i.2.1 pc = .ok (.areturn, 1)) (hr : i.2.2.2.2.1 = some rt) (hrt : (∃ n, rt = .object n) ∨ ∃ t, rt = .array t) : j_ok G tm i pc (j_rt 2) := by
  intro lc st mem act ha
  obtain ⟨v, rfl, hv, rfl⟩ := j_rt_inv ha
  have hv2 : rn G v = .null ∨ ∃ a, rn G v = .ref a := by cases v <;> first | (simp [j_kr] at hv; done) | exact Or.inl rfl | exact Or.inr ⟨_, rfl⟩
  intro x H locs cells slots ls Qc free hc hq hf
  obtain ⟨hx, hb, -, -, -, -, -, -, hret, hlk, -⟩ := hc
  exact W.mono (fun t => j_MQ.of) (W.aret (v := rn G v) hx hb (hret.trans hr) hrt hv2 hq hf hd hlk)
theorem r_zreturn (hd : decode i.2.1 pc = .ok (.ireturn, 1)) (hr : i.2.2.2.2.1 = some .boolean) : j_ok G tm i pc (j_rt 3) := by
  intro lc st mem act ha
  obtain ⟨v, rfl, hv, rfl⟩ := j_rt_inv ha
  cases v <;> first | (simp [j_kr] at hv; done) | skip
  rename_i y
  have hn : narrow .boolean (.int y) = .int y := by
    simp only [j_kr, Bool.or_eq_true, beq_iff_eq] at hv
    rcases hv with rfl | rfl <;> rfl
  intro x H locs cells slots ls Qc free hc hq hf
  obtain ⟨hx, hb, -, -, -, -, -, -, hret, hlk, -⟩ := hc
  exact W.mono (fun t => j_MQ.of) (W.zret (v := y) hx hb (hret.trans hr) hn hq hf hd hlk)
end RETS
end
section
/-! ROWS ON CELLS (own text) -/
def j_set (mem : j_M) (a : Nat) (c : j_C) : j_M := (mem.1, mem.2.1, va_up mem.2.2 a (some c))
def j_new (mem : j_M) (n : Nat) (c : Option j_C) : j_M := (mem.1 + 1, mem.2.1 + n, va_up mem.2.2 mem.1 c)
def j_in (a : Int32) (n : Nat) : Bool := !(decide (a < 0)) && Nat.blt a.toNatClampNeg n
theorem j_in_vp {a : Int32} {n : Nat} (h : j_in a n = true) : vp_in a n := by
  simp only [j_in, Bool.and_eq_true, Bool.not_eq_true', decide_eq_false_iff_not, Nat.blt_eq] at h
  rintro (q | q)
  · exact h.1 q
  · omega
theorem j_in_lt {a : Int32} {n : Nat} (h : j_in a n = true) : a.toNatClampNeg < n := by
  simp only [j_in, Bool.and_eq_true, Nat.blt_eq] at h
  exact h.2
theorem j_in_sz {a : Int32} {n k : Nat} (h : j_in a n = true) (hk : n ≤ k) : ¬ (a < 0 ∨ k ≤ a.toNatClampNeg) := by
  have h1 := j_in_lt h
  rintro (q | q)
  · exact j_in_vp h (Or.inl q)
  · omega
def j_cn (G : j_G) (z : (Nat → Int32) ⊕ (Nat → Int64) ⊕ (Nat → UInt32) ⊕ (Nat → UInt64) ⊕ (Nat → Option Nat)) : Nat → Value := match z with
  | .inl f => fun j => .int (f j)
  | .inr (.inl f) => fun j => .long (f j)
  | .inr (.inr (.inl f)) => fun j => .float (f j)
  | .inr (.inr (.inr (.inl f))) => fun j => .double (f j)
  | .inr (.inr (.inr (.inr f))) => fun j => va_rf ((f j).map (adr G))
theorem j_cell (G : j_G) (cA : ClassId) (n : Nat) (z : (Nat → Int32) ⊕ (Nat → Int64) ⊕ (Nat → UInt32) ⊕ (Nat → UInt64) ⊕ (Nat → Option Nat)) : vp_cell cA (rnq G (n, z)) = arrV cA n (j_cn G z) := by
  rcases z with f | f | f | f | f <;> rfl
theorem adr_old {G : j_G} {a : Nat} (h : a < 4) : adr G a = G.2.2.1 a := by
  unfold adr
  rw [Nat.blt_eq.mpr h]
  rfl
theorem adr_new {G : j_G} {a : Nat} (h : 4 ≤ a) : adr G a = G.2.2.2.1.size + (a - 4) := by
  unfold adr
  cases q : Nat.blt a 4 with
  | true => exact absurd (Nat.blt_eq.mp q) (by omega)
  | false => rfl
theorem j_R.arr {G : j_G} {U : State} {mem : j_M} {H : Heap} (hR : j_R G mem H) (hK : j_K G U) {a k n : Nat} {z : (Nat → Int32) ⊕ (Nat → Int64) ⊕ (Nat → UInt32) ⊕ (Nat → UInt64) ⊕ (Nat → Option Nat)} (h : mem.2.2 a = some (.inl (k, n, z))) {ty : FieldType} (ht : aty[k]? = some ty) : j_ar U H (adr G a) ty n (j_cn G z) := by
  obtain ⟨h1, h2, h3, h4, h5⟩ := hR
  obtain ⟨g1, g2, g3, g4, g5, g6, -⟩ := hK
  by_cases ha : 4 ≤ a
  · obtain ⟨-, hat⟩ := h4 a _ ha h
    have hat : H[adr G a]? = some (vp_cell (G.2.1 k) (rnq G (n, z))) := hat
    rw [j_cell] at hat
    exact ⟨_, hat, (g2 k ty ht).1 n _, (fun q => by cases q), ⟨by rw [arrV_size]; exact Nat.le_refl _, by rw [arrV_size]⟩, fun j hj => arrV_read _ _ hj⟩
  · have ha : a < 4 := by omega
    rw [h5 a ha] at h
    rw [adr_old ha]
    have hq : a < 3 → H[G.2.2.1 a]? = G.2.2.2.1[G.2.2.1 a]? := fun h3a => h3 _ (g6 a h3a)
    match a, ha, h, hq with
    | 0, _, h, hq =>
      simp only [j_old, Option.some.injEq, Sum.inl.injEq, Prod.mk.injEq] at h
      obtain ⟨rfl, rfl, rfl⟩ := h
      cases (show aty[0]? = some FieldType.int from rfl).symm.trans ht
      exact g3.kept (hq (by omega))
    | 1, _, h, hq =>
      simp only [j_old, Option.some.injEq, Sum.inl.injEq, Prod.mk.injEq] at h
      obtain ⟨rfl, rfl, rfl⟩ := h
      cases (show aty[0]? = some FieldType.int from rfl).symm.trans ht
      exact g4.kept (hq (by omega))
    | 2, _, h, hq =>
      simp only [j_old, Option.some.injEq, Sum.inl.injEq, Prod.mk.injEq] at h
      obtain ⟨rfl, rfl, rfl⟩ := h
      cases (show aty[a_Obj]? = some (FieldType.object "java/lang/Object") from rfl).symm.trans ht
      obtain ⟨cell, q1, q2, q3, q4, q5⟩ := g5.kept (hq (by omega))
      exact ⟨cell, q1, q2, q3, q4, fun j hj => absurd hj (Nat.not_lt_zero j)⟩
    | 3, _, h, _ => cases h
theorem j_R.obj {G : j_G} {mem : j_M} {H : Heap} (hR : j_R G mem H) {a c : Nat} {fs : List Value} (h : mem.2.2 a = some (.inr (c, fs))) : 4 ≤ a ∧ a < mem.1 ∧ va_at G.1 cls (adr G a, .inr (c, fs.map (rn G))) H := by
  obtain ⟨h1, h2, h3, h4, h5⟩ := hR
  by_cases ha : 4 ≤ a
  · exact ⟨ha, h4 a _ ha h⟩
  · have ha : a < 4 := by omega
    rw [h5 a ha] at h
    match a, ha, h with
    | 0, _, h => cases h
    | 1, _, h => cases h
    | 2, _, h => cases h
    | 3, _, h => cases h
theorem j_R.ar4 {G : j_G} {mem : j_M} {H : Heap} (hR : j_R G mem H) {a k n : Nat} {z : (Nat → Int32) ⊕ (Nat → Int64) ⊕ (Nat → UInt32) ⊕ (Nat → UInt64) ⊕ (Nat → Option Nat)} (h : mem.2.2 a = some (.inl (k, n, z))) (ha : 4 ≤ a) : a < mem.1 ∧ H[adr G a]? = some (arrV (G.2.1 k) n (j_cn G z)) := by
  obtain ⟨h1, h2, h3, h4, h5⟩ := hR
  obtain ⟨q, hat⟩ := h4 a _ ha h
  have hat : H[adr G a]? = some (vp_cell (G.2.1 k) (rnq G (n, z))) := hat
  rw [j_cell] at hat
  exact ⟨q, hat⟩
theorem j_R.set {G : j_G} {mem : j_M} {H H' : Heap} (hR : j_R G mem H) {a : Nat} {c : j_C} (ha : 4 ≤ a) (hl : a < mem.1) (hz : H'.size = H.size) (ho : ∀ q : Nat, q ≠ adr G a → H'[q]? = H[q]?) (hat : va_at G.1 cls (adr G a, rnc G c) H') : j_R G (j_set mem a c) H' := by
  obtain ⟨h1, h2, h3, h4, h5⟩ := hR
  have ea := adr_new (G := G) ha
  refine ⟨by rw [hz]; exact h1, h2, fun q hq => ?_, fun b d hb hd => ?_, fun b hb => ?_⟩
  · rw [ho q (by omega)]
    exact h3 q hq
  · by_cases e : b = a
    · subst e
      have hd : va_up mem.2.2 b (some c) b = some d := hd
      rw [va_up_self] at hd
      cases hd
      exact ⟨hl, hat⟩
    · have hd : va_up mem.2.2 a (some c) b = some d := hd
      rw [va_up_ne _ _ e] at hd
      obtain ⟨q1, q2⟩ := h4 b d hb hd
      refine ⟨q1, q2.kept (ho _ ?_)⟩
      have eb := adr_new (G := G) hb
      show adr G b ≠ adr G a
      omega
  · show va_up mem.2.2 a (some c) b = _
    rw [va_up_ne _ _ (by omega)]
    exact h5 b hb
theorem j_R.push {G : j_G} {mem : j_M} {H H' : Heap} (hR : j_R G mem H) {n : Nat} {oc : Option j_C} (hz : H'.size = H.size + 1) (ho : ∀ q : Nat, q < H.size → H'[q]? = H[q]?) (hat : ∀ c, oc = some c → va_at G.1 cls (adr G mem.1, rnc G c) H') : j_R G (j_new mem n oc) H' := by
  obtain ⟨h1, h2, h3, h4, h5⟩ := hR
  have hm : j_new mem n oc = (mem.1 + 1, mem.2.1 + n, va_up mem.2.2 mem.1 oc) := rfl
  rw [hm]
  refine ⟨by rw [hz]; show _ = _ + (mem.1 + 1); omega, by show _ ≤ mem.1 + 1; omega, fun q hq => ?_, fun b d hb hd => ?_, fun b hb => ?_⟩
  · rw [ho q (by omega)]
    exact h3 q hq
  · have hd : va_up mem.2.2 mem.1 oc b = some d := hd
    by_cases e : b = mem.1
    · subst e
      rw [va_up_self] at hd
      exact ⟨Nat.lt_succ_self _, hat d hd⟩
    · rw [va_up_ne _ _ e] at hd
      obtain ⟨q1, q2⟩ := h4 b d hb hd
      refine ⟨Nat.lt_succ_of_lt q1, q2.kept (ho _ ?_)⟩
      have eb := adr_new (G := G) hb
      show adr G b < H.size
      omega
  · show va_up mem.2.2 mem.1 oc b = _
    rw [va_up_ne _ _ (by omega)]
    exact h5 b hb
theorem j_R.top {G : j_G} {mem : j_M} {H : Heap} (hR : j_R G mem H) : adr G mem.1 = H.size := by
  obtain ⟨h1, h2, -⟩ := hR
  rw [adr_new h2]
  omega
/-- fields: a link to the field by its own class's name, or by another that finds the same -/
def j_fl (own : String) (ix : Nat) (t : String × String × String × Bool) : Prop := ∃ ref, Cond.fieldLink own ix ref t.2.1 t.2.2.1 ∈ lwg ∧ (ref = t.1 ∨ Cond.sameField ref t.1 t.2.1 t.2.2.1 ∈ lwg)
theorem j_fl.same {own : String} {ix : Nat} {t : String × String × String × Bool} (h : j_fl own ix t) : ∃ ref, Cond.fieldLink own ix ref t.2.1 t.2.2.1 ∈ lwg ∧ ∀ (A : Array Value) (U : State), (∀ w ∈ lwg, w.before A U = true) → ∀ x, U.fieldFound? t.1 t.2.1 t.2.2.1 = some x → U.fieldFound? ref t.2.1 t.2.2.1 = some x := by
  obtain ⟨ref, h1, rfl | h2⟩ := h
  · exact ⟨_, h1, fun _ _ _ _ h => h⟩
  · exact ⟨ref, h1, fun A U hts x hx => u_same (hts _ h2) x hx⟩
def j_fd (own : String) (ix k c : Nat) : Prop := ∃ (C : String) (T : u_T) (N : Nat), cls[c]? = some (C, T, N) ∧ (∀ w ∈ u_ws C T N, w ∈ lwg) ∧ k < N ∧ j_fl own ix (T k)
def j_gf (cs : List Nat) (k n : Nat) : j_S := fun lc st mem => match st with
  | .ref a :: r => match mem.2.2 a with
    | some (.inr (c, fs)) => bif cs.contains c then (match fs[k]? with
      | some v => some (.inl (n, lc, v :: r, mem))
      | none => none) else none
    | _ => none
  | _ => none
def j_pf (cs : List Nat) (k t n : Nat) : j_S := fun lc st mem => match st with
  | v :: .ref a :: r => match mem.2.2 a with
    | some (.inr (c, fs)) => bif cs.contains c && j_kr t v && Nat.blt k fs.length then some (.inl (n, lc, r, j_set mem a (.inr (c, fs.set k v)))) else none
    | _ => none
  | _ => none
section MEMS
variable {G : j_G} {tm : Nat → MethodName × Cond} {i : j_I} {pc : Nat}
theorem j_K.va {U : State} (hK : j_K G U) : va_K G.1 cls [] U := ⟨hK.1, fun k q h => by simp at h⟩
theorem r_getfield {cs : List Nat} {ix k : Nat} (hf : ∀ c ∈ cs, j_fd i.1 ix k c) (hd : decode i.2.1 pc = .ok (.getfield ix, 3)) : j_ok G tm i pc (j_gf cs k (pc + 3)) := by
  intro lc st mem act ha
  unfold j_gf at ha
  split at ha
  next a r =>
    split at ha
    next c fs hm =>
      cases hcs : cs.contains c with
      | false => rw [hcs] at ha; cases ha
      | true =>
        simp only [hcs, cond_true] at ha
        split at ha
        next v hv =>
          cases ha
          refine ⟨Nat.le_refl _, Nat.le_refl _, fun x H locs cells slots Q ls hc hR hH hB h1 h2 kk => ?_⟩
          have k1 := kk H locs ls hR hH hB
          simp only [Nat.sub_self, Nat.add_zero] at k1
          obtain ⟨hx, hb, hml, hown, hts, hK, -⟩ := hc
          obtain ⟨C, T, N, e1, e2, e3, e4⟩ := hf c (List.contains_iff_mem.mp hcs)
          obtain ⟨-, -, hat⟩ := hR.obj hm
          have hP : va_P G.1 cls [(adr G a, .inr (c, fs.map (rn G)))] H := fun k q h => by
            have hz : k < 1 := (List.getElem?_eq_some_iff.mp h).1
            rw [show k = 0 by omega] at h
            cases h
            exact hat
          obtain ⟨ref, e5, e6⟩ := e4.same
          exact va_get hx hb hts e2 hown hK.va hP 0 rfl e1 k e3 (hts _ e5) (e6 _ _ hts) (by rw [List.getElem?_map, hv]; rfl) hd k1
        next => cases ha
    next => cases ha
  next => cases ha
def j_tk (t : Nat) (ty : FieldType) : Prop := (t = 0 ∧ ty = .int) ∨ (t = 1 ∧ ty = .long) ∨ (t = 2 ∧ ((∃ n, ty = .object n) ∨ ∃ u, ty = .array u)) ∨ (t = 3 ∧ ty = .boolean)
theorem j_tk_ok {t : Nat} {ty : FieldType} (h : j_tk t ty) {v : Value} (hv : j_kr t v = true) : narrow ty (rn G v) = rn G v ∧ fits ty (rn G v) = true := by
  rcases h with ⟨rfl, rfl⟩ | ⟨rfl, rfl⟩ | ⟨rfl, ⟨n, rfl⟩ | ⟨u, rfl⟩⟩ | ⟨rfl, rfl⟩
  · cases v <;> first | (simp [j_kr] at hv; done) | exact ⟨rfl, rfl⟩
  · cases v <;> first | (simp [j_kr] at hv; done) | exact ⟨rfl, rfl⟩
  · cases v <;> first | (simp [j_kr] at hv; done) | exact ⟨rfl, rfl⟩
  · cases v <;> first | (simp [j_kr] at hv; done) | exact ⟨rfl, rfl⟩
  · cases v <;> first | (simp [j_kr] at hv; done) | skip
    rename_i y
    simp only [j_kr, Bool.or_eq_true, beq_iff_eq] at hv
    rcases hv with rfl | rfl <;> exact ⟨rfl, rfl⟩
def j_pd (own : String) (ix k t : Nat) (fin : Bool) (c : Nat) : Prop := ∃ (C : String) (T : u_T) (N : Nat) (ty0 : Nat → FieldType) (ty : FieldType), cls[c]? = some (C, T, N) ∧ (∀ w ∈ u_ws C T N, w ∈ lwg) ∧ (∀ k, k < N → parseFieldDescriptor (T k).2.2.1 = some (ty0 k)) ∧
  (∀ a, a < N → ∀ b, b < N → a ≠ b → (T a).2.1 ≠ (T b).2.1) ∧ k < N ∧ (T k).2.2.2 = fin ∧ parseFieldDescriptor (T k).2.2.1 = some ty ∧ j_tk t ty ∧ j_fl own ix (T k) ∧ (fin = true → (T k).1 = own)
theorem r_putfield {cs : List Nat} {ix k t : Nat} {fin : Bool} (hf : ∀ c ∈ cs, j_pd i.1 ix k t fin c) (hi : fin = true → i.2.2.2.1 = true) (hd : decode i.2.1 pc = .ok (.putfield ix, 3)) : j_ok G tm i pc (j_pf cs k t (pc + 3)) := by
  intro lc st mem act ha
  unfold j_pf at ha
  split at ha
  next v a r =>
    split at ha
    next c fs hm =>
      cases hcs : cs.contains c && j_kr t v && Nat.blt k fs.length with
      | false => rw [hcs] at ha; cases ha
      | true =>
        simp only [hcs, cond_true, Option.some.injEq] at ha
        subst ha
        simp only [Bool.and_eq_true, Nat.blt_eq] at hcs
        obtain ⟨⟨hcs, hkr⟩, hlen⟩ := hcs
        refine ⟨Nat.le_refl _, Nat.le_refl _, fun x H locs cells slots Q ls hc hR hH hB h1 h2 kk => ?_⟩
        obtain ⟨hx, hb, hml, hown, hts, hK, -, hin, -⟩ := hc
        obtain ⟨C, T, N, ty0, ty, e1, e2, e3, e4, e5, e6, e7, e8, e9, e10⟩ := hf c (List.contains_iff_mem.mp hcs)
        obtain ⟨ha4, hal, hat⟩ := hR.obj hm
        have hfit := j_tk_ok (G := G) e8 hkr
        obtain ⟨ref, e9, e11⟩ := e9.same
        have hap := va_apart (own := i.1) hts e2 ty0 e3 e4 hK.va e1
        have hl' : k < (fs.map (rn G)).length := by rw [List.length_map]; exact hlen
        have hset : (fs.set k v).map (rn G) = (fs.map (rn G)).set k (rn G v) := by rw [List.map_set]
        obtain ⟨r0, g1, cell, q1, q2, q3, q4⟩ := hat
        have hr : r0 = (C, T, N) := Option.some.inj (g1.symm.trans e1)
        subst hr
        obtain ⟨hS, hfc, kC, hkC, hkind⟩ := hK.1 c _ e1
        obtain ⟨cf, kf, fi, f, hfi, hsl⟩ := hS k e5
        have hlay := hts _ (e2 _ (u_in_lay e5))
        have hst := (u_facts hfc hkC (u_lays hts e2 e5) hfi).1
        have fin' : ∀ H' : Heap, H'[adr G a]? = some (cell.setSlot f.slot (rn G v)) → H'.size = H.size → (∀ q, q ≠ adr G a → H'[q]? = H[q]?) → j_W x H' (locs ++ [⟨adr G a, f.slot⟩]) cells slots Q (F0 (jm x) (pc + 3) ls (r.map (rn G))) := by
          intro H' z1 z2 z3
          rw [hsl] at z1
          have hat' : va_at G.1 cls (adr G a, rnc G (.inr (c, fs.set k v))) H' := by
            show ∃ r : vw_C, _
            refine ⟨_, e1, ?_⟩
            show t_OB (adr G a) (G.1.1 c) N (G.1.2 c) H' (vp_V ((fs.set k v).map (rn G)))
            rw [hset]
            exact t_OB.to (V := updV (vp_V (fs.map (rn G))) k (rn G v)) ⟨_, z1, q2, q3, t_set q4 hap e5 (rn G v)⟩ (fun j _ => vp_updV_set hl' (rn G v) j)
          have k1 := kk H' (locs ++ [⟨adr G a, f.slot⟩]) ls (hR.set ha4 hal z2 z3 hat') hH (fun q hq => by
            rcases List.mem_append.mp hq with hq | hq
            · exact hB q hq
            · rw [List.mem_singleton.mp hq]
              show _ ≤ adr G a
              rw [adr_new ha4]
              omega)
          simp only [j_set, Nat.sub_self, Nat.add_zero] at k1
          exact k1
        cases fin with
        | false =>
          unfold u_lay at hlay
          rw [if_neg (by rw [e6]; decide)] at hlay
          have h6 := u_store hfc hkC hkind hlay hfi e7 hfit.1 hfit.2
          exact W.putK hx hb (f := f) ⟨hown, hts _ e9, ⟨_, _, _, e11 _ _ hts _ hfi⟩, hst⟩ (by rw [q2]; exact h6) q1 q3 (by rw [hsl]; exact k2_hasslot (q4 k e5)) rfl rfl hd fin'
        | true =>
          unfold u_lay at hlay
          rw [if_pos e6] at hlay
          have hcf : (jm x).cls = cf := by
            obtain ⟨_, _, c', _, _, _, -, -, hf', -, -, -, hown2, -⟩ := Cond.laysFinal_spec hlay
            have z1 : c' = cf := by have := hfi.symm.trans hf'; simp at this; exact this.1.symm
            rw [e10 rfl] at hown2
            rw [← z1]; exact Option.some.inj (hown.symm.trans hown2)
          have h6 := u_fits hfc hkC hkind (Or.inr hlay) hfi e7 hfit.1 hfit.2
          exact W.putFinK hx hb hown (hts _ e9) (e11 _ _ hts _ hfi) hst hcf (hin (hi rfl)) (by rw [q2]; exact h6) q1 q3 (by rw [hsl]; exact k2_hasslot (q4 k e5)) rfl rfl hd fin'
    next => cases ha
  next => cases ha
/-! arrays -/
def j_al (t : Nat) (n : Nat) : j_S := fun lc st mem => match st with
  | .int a :: .ref b :: r => match mem.2.2 b with
    | some (.inl (k, len, z)) => bif (k == t) && j_in a len then (match z with
      | .inl f => some (.inl (n, lc, .int (f a.toNatClampNeg) :: r, mem))
      | .inr (.inl f) => some (.inl (n, lc, .long (f a.toNatClampNeg) :: r, mem))
      | .inr (.inr (.inr (.inr f))) => some (.inl (n, lc, va_rf (f a.toNatClampNeg) :: r, mem))
      | _ => none) else none
    | _ => none
  | _ => none
def j_an (n : Nat) : j_S := fun lc st mem => match st with
  | .ref b :: r => match mem.2.2 b with
    | some (.inl (k, len, _)) => bif Nat.blt k aty.length then some (.inl (n, lc, .int (Int32.ofNat len) :: r, mem)) else none
    | _ => none
  | _ => none
theorem rn_rf (r : Option Nat) : rn G (va_rf r) = va_rf (r.map (adr G)) := by cases r <;> rfl
/-- a reading row of an array: what is wanted of it -/
theorem r_ald {t : Nat} {ty : FieldType} (ht : aty[t]? = some ty)
    (hw : ∀ (x : j_X) (H : Heap) (locs : List Loc) (cells slots : Nat) (Q : State → Prop) (ls : Array Slot) (rest : List Value) (b : Nat) (a : Int32) (v : Value) (cell : Cell), j_cx G i x → H[b]? = some cell → (js x).isArrayOf cell ty → cell.vm ≠ .unknown → ¬ (a < 0 ∨ cell.slots.size ≤ a.toNatClampNeg) → cell.slots[a.toNatClampNeg]? = some v →
      j_W x H locs cells slots Q (F0 (jm x) (pc + 1) ls (v :: rest)) → j_W x H locs cells slots Q (F0 (jm x) pc ls (.int a :: .ref b :: rest))) : j_ok G tm i pc (j_al t (pc + 1)) := by
  intro lc st mem act ha
  unfold j_al at ha
  split at ha
  next a b r =>
    split at ha
    next k len z hm =>
      cases hcs : (k == t) && j_in a len with
      | false => rw [hcs] at ha; cases ha
      | true =>
        simp only [hcs, cond_true] at ha
        simp only [Bool.and_eq_true, beq_iff_eq] at hcs
        obtain ⟨rfl, hin⟩ := hcs
        have key : ∀ v, rn G v = j_cn G z a.toNatClampNeg → j_oa G tm i pc lc (.int a :: .ref b :: r) mem (.inl (pc + 1, lc, v :: r, mem)) := by
          intro v hv
          refine ⟨Nat.le_refl _, Nat.le_refl _, fun x H locs cells slots Q ls hc hR hH hB h1 h2 kk => ?_⟩
          have k1 := kk H locs ls hR hH hB
          simp only [Nat.sub_self, Nat.add_zero] at k1
          obtain ⟨cell, q1, q2, q3, q4, q5⟩ := hR.arr hc.2.2.2.2.2.1 hm ht
          refine hw x H locs cells slots Q ls _ (adr G b) a (rn G v) cell hc q1 q2 q3 (j_in_sz hin q4.1) ?_ k1
          rw [q5 _ (j_in_lt hin), hv]
        split at ha
        next f => cases ha; exact key _ rfl
        next f => cases ha; exact key _ rfl
        next f => cases ha; exact key _ (rn_rf _)
        next => cases ha
    next => cases ha
  next => cases ha
theorem r_iaload (hd : decode i.2.1 pc = .ok (.iaload, 1)) : j_ok G tm i pc (j_al 0 (pc + 1)) :=
  r_ald rfl fun x H locs cells slots Q ls rest b a v cell hc h1 h2 h3 h4 h5 k => W.iald hc.1 hc.2.1 h1 h2 h3 h4 h5 rfl rfl hd k
theorem r_laload (hd : decode i.2.1 pc = .ok (.laload, 1)) : j_ok G tm i pc (j_al 1 (pc + 1)) :=
  r_ald rfl fun x H locs cells slots Q ls rest b a v cell hc h1 h2 h3 h4 h5 k => W.lald hc.1 hc.2.1 h1 h2 h3 h4 h5 rfl rfl hd k
theorem r_baload (hd : decode i.2.1 pc = .ok (.baload, 1)) : j_ok G tm i pc (j_al 2 (pc + 1)) :=
  r_ald rfl fun x H locs cells slots Q ls rest b a v cell hc h1 h2 h3 h4 h5 k => W.bald hc.1 hc.2.1 h1 h2 h3 h4 h5 rfl rfl hd k
theorem r_aaload {t : Nat} {ty : FieldType} (ht : aty[t]? = some ty) (href : ty.isReference = true) (hd : decode i.2.1 pc = .ok (.aaload, 1)) : j_ok G tm i pc (j_al t (pc + 1)) :=
  r_ald ht fun x H locs cells slots Q ls rest b a v cell hc h1 h2 h3 h4 h5 k => W.aald hc.1 hc.2.1 h1 h2 href h3 h4 h5 rfl rfl hd k
theorem r_alen (hd : decode i.2.1 pc = .ok (.arraylength, 1)) : j_ok G tm i pc (j_an (pc + 1)) := by
  intro lc st mem act ha
  unfold j_an at ha
  split at ha
  next b r =>
    split at ha
    next k len z hm =>
      cases hcs : Nat.blt k aty.length with
      | false => rw [hcs] at ha; cases ha
      | true =>
        simp only [hcs, cond_true, Option.some.injEq] at ha
        subst ha
        have hk := Nat.blt_eq.mp hcs
        refine ⟨Nat.le_refl _, Nat.le_refl _, fun x H locs cells slots Q ls hc hR hH hB h1 h2 kk => ?_⟩
        have k1 := kk H locs ls hR hH hB
        simp only [Nat.sub_self, Nat.add_zero] at k1
        obtain ⟨cell, q1, q2, q3, q4, q5⟩ := hR.arr hc.2.2.2.2.2.1 hm (List.getElem?_eq_getElem hk)
        exact W.alen (n := Int32.ofNat len) hc.1 hc.2.1 q1 q2 q4.2 rfl rfl hd k1
    next => cases ha
  next => cases ha
/-- stores -/
def j_ai (n : Nat) : j_S := fun lc st mem => match st with
  | .int y :: .int a :: .ref b :: r => match mem.2.2 b with
    | some (.inl (k, len, .inl f)) => bif (k == 0) && j_in a len && Nat.ble 4 b then some (.inl (n, lc, r, j_set mem b (.inl (k, len, .inl (upd f a.toNatClampNeg y))))) else none
    | _ => none
  | _ => none
def j_ab (n : Nat) : j_S := fun lc st mem => match st with
  | .int y :: .int a :: .ref b :: r => match mem.2.2 b with
    | some (.inl (k, len, .inl f)) => bif (k == 2) && j_in a len && Nat.ble 4 b then some (.inl (n, lc, r, j_set mem b (.inl (k, len, .inl (upd f a.toNatClampNeg (vp_nar .byte y)))))) else none
    | _ => none
  | _ => none
def j_aj (n : Nat) : j_S := fun lc st mem => match st with
  | .long y :: .int a :: .ref b :: r => match mem.2.2 b with
    | some (.inl (k, len, .inr (.inl f))) => bif (k == 1) && j_in a len && Nat.ble 4 b then some (.inl (n, lc, r, j_set mem b (.inl (k, len, .inr (.inl (vp_updL f a.toNatClampNeg y)))))) else none
    | _ => none
  | _ => none
theorem r_iastore (hd : decode i.2.1 pc = .ok (.iastore, 1)) : j_ok G tm i pc (j_ai (pc + 1)) := by
  intro lc st mem act ha
  unfold j_ai at ha
  split at ha
  next y a b r =>
    split at ha
    next k len f hm =>
      cases hcs : (k == 0) && j_in a len && Nat.ble 4 b with
      | false => rw [hcs] at ha; cases ha
      | true =>
        simp only [hcs, cond_true, Option.some.injEq] at ha
        subst ha
        simp only [Bool.and_eq_true, beq_iff_eq, Nat.ble_eq] at hcs
        obtain ⟨⟨rfl, hin⟩, h4⟩ := hcs
        refine ⟨Nat.le_refl _, Nat.le_refl _, fun x H locs cells slots Q ls hc hR hH hB h1 h2 kk => ?_⟩
        obtain ⟨hl, hcell⟩ := hR.ar4 hm h4
        refine W.iast hc.1 hc.2.1 hcell ((hc.2.2.2.2.2.1.2.1 0 _ rfl).1 len _) (fun q => by cases q) (by rw [arrV_size]; exact j_in_vp hin) rfl rfl hd fun H' z1 z2 z3 => ?_
        have hat' : va_at G.1 cls (adr G b, rnc G (.inl (0, len, .inl (upd f a.toNatClampNeg y)))) H' := by
          show H'[adr G b]? = some (vp_cell (G.2.1 0) (rnq G (len, .inl (upd f a.toNatClampNeg y))))
          rw [j_cell, z1, arrV_store]
          congr 2
          funext q
          by_cases hq : q = a.toNatClampNeg
          · subst hq
            simp [updV, upd, j_cn]
            try rfl
          · simp [updV, upd, j_cn, hq]
        have k1 := kk H' (locs ++ [⟨adr G b, a.toNatClampNeg⟩]) ls (hR.set h4 hl z2 z3 hat') hH (fun q hq => by
          rcases List.mem_append.mp hq with hq | hq
          · exact hB q hq
          · rw [List.mem_singleton.mp hq]
            show _ ≤ adr G b
            rw [adr_new h4]
            omega)
        simp only [j_set, Nat.sub_self, Nat.add_zero] at k1
        exact k1
    next => cases ha
  next => cases ha
theorem r_bastore (hd : decode i.2.1 pc = .ok (.bastore, 1)) : j_ok G tm i pc (j_ab (pc + 1)) := by
  intro lc st mem act ha
  unfold j_ab at ha
  split at ha
  next y a b r =>
    split at ha
    next k len f hm =>
      cases hcs : (k == 2) && j_in a len && Nat.ble 4 b with
      | false => rw [hcs] at ha; cases ha
      | true =>
        simp only [hcs, cond_true, Option.some.injEq] at ha
        subst ha
        simp only [Bool.and_eq_true, beq_iff_eq, Nat.ble_eq] at hcs
        obtain ⟨⟨rfl, hin⟩, h4⟩ := hcs
        refine ⟨Nat.le_refl _, Nat.le_refl _, fun x H locs cells slots Q ls hc hR hH hB h1 h2 kk => ?_⟩
        obtain ⟨hl, hcell⟩ := hR.ar4 hm h4
        refine W.bast hc.1 hc.2.1 hcell ((hc.2.2.2.2.2.1.2.1 2 _ rfl).1 len _) (fun q => by cases q) (by rw [arrV_size]; exact j_in_vp hin) rfl rfl hd fun H' z1 z2 z3 => ?_
        have hat' : va_at G.1 cls (adr G b, rnc G (.inl (2, len, .inl (upd f a.toNatClampNeg (vp_nar .byte y))))) H' := by
          show H'[adr G b]? = some (vp_cell (G.2.1 2) (rnq G (len, .inl (upd f a.toNatClampNeg (vp_nar .byte y)))))
          rw [j_cell, z1, arrV_store]
          congr 2
          funext q
          by_cases hq : q = a.toNatClampNeg
          · subst hq
            simp [updV, upd, j_cn, vp_nar]
            try rfl
          · simp [updV, upd, j_cn, hq]
        have k1 := kk H' (locs ++ [⟨adr G b, a.toNatClampNeg⟩]) ls (hR.set h4 hl z2 z3 hat') hH (fun q hq => by
          rcases List.mem_append.mp hq with hq | hq
          · exact hB q hq
          · rw [List.mem_singleton.mp hq]
            show _ ≤ adr G b
            rw [adr_new h4]
            omega)
        simp only [j_set, Nat.sub_self, Nat.add_zero] at k1
        exact k1
    next => cases ha
  next => cases ha
theorem r_lastore (hd : decode i.2.1 pc = .ok (.lastore, 1)) : j_ok G tm i pc (j_aj (pc + 1)) := by
  intro lc st mem act ha
  unfold j_aj at ha
  split at ha
  next y a b r =>
    split at ha
    next k len f hm =>
      cases hcs : (k == 1) && j_in a len && Nat.ble 4 b with
      | false => rw [hcs] at ha; cases ha
      | true =>
        simp only [hcs, cond_true, Option.some.injEq] at ha
        subst ha
        simp only [Bool.and_eq_true, beq_iff_eq, Nat.ble_eq] at hcs
        obtain ⟨⟨rfl, hin⟩, h4⟩ := hcs
        refine ⟨Nat.le_refl _, Nat.le_refl _, fun x H locs cells slots Q ls hc hR hH hB h1 h2 kk => ?_⟩
        obtain ⟨hl, hcell⟩ := hR.ar4 hm h4
        refine W.last hc.1 hc.2.1 hcell ((hc.2.2.2.2.2.1.2.1 1 _ rfl).1 len _) (fun q => by cases q) (by rw [arrV_size]; exact j_in_vp hin) rfl rfl hd fun H' z1 z2 z3 => ?_
        have hat' : va_at G.1 cls (adr G b, rnc G (.inl (1, len, .inr (.inl (vp_updL f a.toNatClampNeg y))))) H' := by
          show H'[adr G b]? = some (vp_cell (G.2.1 1) (rnq G (len, .inr (.inl (vp_updL f a.toNatClampNeg y)))))
          rw [j_cell, z1, arrV_store]
          congr 2
          funext q
          by_cases hq : q = a.toNatClampNeg
          · subst hq
            simp [updV, vp_updL, j_cn]
            try rfl
          · simp [updV, vp_updL, j_cn, hq]
        have k1 := kk H' (locs ++ [⟨adr G b, a.toNatClampNeg⟩]) ls (hR.set h4 hl z2 z3 hat') hH (fun q hq => by
          rcases List.mem_append.mp hq with hq | hq
          · exact hB q hq
          · rw [List.mem_singleton.mp hq]
            show _ ≤ adr G b
            rw [adr_new h4]
            omega)
        simp only [j_set, Nat.sub_self, Nat.add_zero] at k1
        exact k1
    next => cases ha
  next => cases ha
/-- what may stand in an array of references -/
def j_fit (t : Nat) (c : Option j_C) : Bool := match c with
  | some (.inr (k, _)) => ((t == 3) && (k == 8)) || ((t == 4) && (k == 4)) || ((t == 4) && (k == 5)) || ((t == 5) && (k == 5)) || ((t == 6) && (k == 9))
  | some (.inl (k, _)) => (t == 7) && (k == 1)
  | none => false
def j_aq (n : Nat) : j_S := fun lc st mem => match st with
  | .ref v :: .int a :: .ref b :: r => match mem.2.2 b with
    | some (.inl (k, len, .inr (.inr (.inr (.inr f))))) => bif j_fit k (mem.2.2 v) && j_in a len && Nat.ble 4 b && Nat.ble 4 v then some (.inl (n, lc, r, j_set mem b (.inl (k, len, .inr (.inr (.inr (.inr (va_up f a.toNatClampNeg (some v))))))))) else none
    | _ => none
  | .null :: .int a :: .ref b :: r => match mem.2.2 b with
    | some (.inl (k, len, .inr (.inr (.inr (.inr f))))) => bif (k == 6) && j_in a len && Nat.ble 4 b then some (.inl (n, lc, r, j_set mem b (.inl (k, len, .inr (.inr (.inr (.inr (va_up f a.toNatClampNeg none)))))))) else none
    | _ => none
  | _ => none
/-- new objects and arrays -/
def j_nw (c N : Nat) (fs : List Value) (n : Nat) : j_S := fun lc st mem => some (.inl (n, lc, .ref mem.1 :: st, j_new mem N (some (.inr (c, fs)))))
theorem r_new {c N ix : Nat} {fs : List Value} {C : String} {T : u_T} {ty : Nat → FieldType} (hc : cls[c]? = some (C, T, N)) (hw : ∀ w ∈ u_ws C T N, w ∈ lwg) (hty : ∀ k, k < N → parseFieldDescriptor (T k).2.2.1 = some (ty k)) (hl : Cond.classLink i.1 ix C ∈ lwg) (hin : Cond.instantiable C N ∈ lwg) (hini : Cond.initialized C ∈ lwg)
    (hfs : ∀ j, j < N → defaultValue (ty j) = vp_V fs j) (hrn : ∀ v ∈ fs, (∀ a, v ≠ .ref a)) (hd : decode i.2.1 pc = .ok (.new ix, 3)) : j_ok G tm i pc (j_nw c N fs (pc + 3)) := by
  intro lc st mem act ha
  unfold j_nw at ha
  cases ha
  refine ⟨Nat.le_succ _, Nat.le_add_right _ _, fun x H locs cells slots Q ls hx hR hH hB h1 h2 kk => ?_⟩
  have e1 : (j_new mem N (some (.inr (c, fs)))).1 - mem.1 = 1 := by show mem.1 + 1 - mem.1 = 1; omega
  have e2 : (j_new mem N (some (.inr (c, fs)))).2.1 - mem.2.1 = N := by show mem.2.1 + N - mem.2.1 = N; omega
  rw [e1] at h1 kk
  rw [e2] at h2 kk
  obtain ⟨hex, hb, hml, hown, hts, hK, -⟩ := hx
  have hKn := hK.1 c _ hc
  refine W.newcK hex hb hown (hts _ hl) (hts _ hin) (hts _ hini) rfl hd h1 h2 hKn.2.1 rfl fun H1 kC hkC z1 z2 z3 => ?_
  have hmap : fs.map (rn G) = fs := by
    have : ∀ l : List Value, (∀ v ∈ l, (∀ a, v ≠ .ref a)) → l.map (rn G) = l := by
      intro l
      induction l with
      | nil => intro _; rfl
      | cons v r ih =>
        intro h
        rw [List.map_cons, ih (fun w hw => h w (List.mem_cons_of_mem _ hw))]
        have hv := h v List.mem_cons_self
        cases v <;> first | rfl | exact absurd rfl (hv _)
    exact this fs hrn
  have hat : ∀ c0, some (Sum.inr (c, fs) : j_C) = some c0 → va_at G.1 cls (adr G mem.1, rnc G c0) H1 := by
    intro c0 h0
    cases h0
    show ∃ r : vw_C, _
    refine ⟨_, hc, ?_⟩
    show t_OB (adr G mem.1) (G.1.1 c) N (G.1.2 c) H1 (vp_V (fs.map (rn G)))
    rw [hmap, hR.top]
    exact (u_born ty hts hw hKn hkC z1 hty).to hfs
  have k1 := kk H1 locs ls (hR.push z2 z3 hat) hH hB
  rw [List.map_cons, show rn G (.ref mem.1) = .ref (adr G mem.1) from rfl, hR.top] at k1
  exact k1
def j_ze (t : Nat) : (Nat → Int32) ⊕ (Nat → Int64) ⊕ (Nat → UInt32) ⊕ (Nat → UInt64) ⊕ (Nat → Option Nat) := match t with
  | 0 => .inl (fun _ => 0)
  | 1 => .inr (.inl (fun _ => 0))
  | 2 => .inl (fun _ => 0)
  | 8 => .inl (fun _ => 0)
  | _ => .inr (.inr (.inr (.inr (fun _ => none))))
def j_na (t : Nat) (n : Nat) : j_S := fun lc st mem => match st with
  | .int a :: r => bif !(decide (a < 0)) && Nat.ble a.toNatClampNeg 60000000 then some (.inl (n, lc, .ref mem.1 :: r, j_new mem a.toNatClampNeg (some (.inl (t, a.toNatClampNeg, j_ze t))))) else none
  | _ => none
theorem r_newarray {t : Nat} {at_ : ArrayType} {ty : FieldType} (ht : aty[t]? = some ty) (hty : newarray.typeOf at_ = ty) (hw : Cond.arrayClass ty ∈ lwg) (hby : componentBytes ty ≤ 8) (hz : ∀ j, j_cn G (j_ze t) j = defaultValue ty) (hRA : ∀ (U : State) (cA : ClassId), U.vm.findClass ("[" ++ ty.toString) = some cA → va_RA U (G.2.1 t) ty → G.2.1 t = cA) (hd : decode i.2.1 pc = .ok (.newarray at_, 2)) : j_ok G tm i pc (j_na t (pc + 2)) := by
  intro lc st mem act ha
  unfold j_na at ha
  split at ha
  next a r =>
    cases hcs : !(decide (a < 0)) && Nat.ble a.toNatClampNeg 60000000 with
    | false => rw [hcs] at ha; cases ha
    | true =>
      simp only [hcs, cond_true, Option.some.injEq] at ha
      subst ha
      simp only [Bool.and_eq_true, Bool.not_eq_true', decide_eq_false_iff_not, Nat.ble_eq] at hcs
      subst hty
      refine ⟨Nat.le_succ _, Nat.le_add_right _ _, fun x H locs cells slots Q ls hx hR hH hB h1 h2 kk => ?_⟩
      generalize hmm : j_new mem a.toNatClampNeg (some (.inl (t, a.toNatClampNeg, j_ze t))) = mm at h1 h2 kk
      have e1 : mm.1 - mem.1 = 1 := by rw [← hmm]; show mem.1 + 1 - mem.1 = 1; omega
      have e2 : mm.2.1 - mem.2.1 = a.toNatClampNeg := by rw [← hmm]; show mem.2.1 + a.toNatClampNeg - mem.2.1 = _; omega
      rw [e1] at h1 kk
      rw [e2] at h2 kk
      obtain ⟨hex, hb, hml, hown, hts, hK, -⟩ := hx
      refine va_newaK hex hb (hts _ hw) rfl hd rfl hcs.1 rfl (Nat.le_trans (Nat.mul_le_mul_left _ hby) (by omega)) h1 h2 rfl fun H1 cA z1 z2 z3 _ z5 => ?_
      have hcA := hRA _ cA z5 (hK.2.1 t _ ht).2
      have hat : ∀ c0, some (Sum.inl (t, a.toNatClampNeg, j_ze t) : j_C) = some c0 → va_at G.1 cls (adr G mem.1, rnc G c0) H1 := by
        intro c0 h0
        cases h0
        show H1[adr G mem.1]? = some (vp_cell (G.2.1 t) (rnq G (a.toNatClampNeg, j_ze t)))
        rw [j_cell, hR.top, hcA, z1]
        congr 2
        funext j
        exact (hz j).symm
      have k1 := kk H1 locs ls (by rw [← hmm]; exact hR.push z2 z3 hat) hH hB
      rw [List.map_cons, show rn G (.ref mem.1) = .ref (adr G mem.1) from rfl, hR.top] at k1
      exact k1
  next => cases ha
end MEMS
end
section
/-! ROWS OF CALLS (own text) -/
/-- what is known of a method that is called: its word is among the tables', its locals are few -/
def j_cwd (y : MethodName) (w : Cond) : Prop := w ∈ lwg ∧ Cond.initialized y.cls ∈ lwg ∧ ∃ (bytes : ByteArray) (maxL : Nat) (ret : Option FieldType), maxL ≤ 45 ∧ (w = .code y bytes maxL ret ∨ ∃ hh, w = .codeWith y bytes maxL ret hh)
theorem j_cwd_spec {y : MethodName} {w : Cond} (h : j_cwd y w) {A : Array Value} {U : State} (hw : w.before A U = true) {mk : MethodId} (hn : U.methodNamed? y = some mk) : ∃ (meth : Method) (c : Code), U.vm.method? mk = some meth ∧ meth.code = some c ∧ c.maxLocals ≤ 45 ∧ parseMethodDescriptor y.desc = some meth.sig := by
  obtain ⟨-, -, bytes, maxL, ret, hL, rfl | ⟨hh, rfl⟩⟩ := h
  · obtain ⟨meth, c, h1, h2, -, h4, -, -, -, h8⟩ := Cond.code_spec hn hw
    exact ⟨meth, c, h1, h2, by rw [h4]; exact hL, h8⟩
  · obtain ⟨m9, meth, c, hn9, h1, h2, h3, h4, -, -, -, h8⟩ := Cond.codeWith_spec hw
    cases hn.symm.trans hn9
    exact ⟨meth, c, h1, h2, by rw [h4]; exact hL, h8⟩
theorem j_wd_at {args a' : Array Value} {s U : State} (hW : s.WarmedH U.vm) {w : Cond} (hw : w ∈ lwg) (h : w.before args s = true) : w.before a' U = true := word_at hW (good_of_word (lwg_all w hw)) h
section CALLS
variable {G : j_G} {x : j_X}
/-- a call by a contract: it comes back, or the note 'throwing' lies over the caller's frame -/
theorem j_call {U : State} {locs : List Loc} {cells slots d : Nat} {y : MethodName} {w : Cond} {as : List Value} {mem mo : j_M} {o : j_O} {g : JFrame} {ig : Instr} {mk : MethodId}
    (X : Stand (jp x) (jl x) (je x) (jR x) (js x) (jm x) (ja x) (jb x) (jt x) (jc x) U locs cells slots) (hM : j_met G (jl x) d y w as mem o mo) (hts : ∀ w ∈ lwg, w.before (ja x) (js x) = true) (hK : j_K G (js x)) (hcw : j_cwd y w)
    (hR : j_R G mem U.heap) (hf : d + 1 ≤ (jR x).frames) (hl : 64 * (d + 1) ≤ (jR x).locals) (hc : cells + (mo.1 - mem.1) ≤ (jR x).cells) (hs : slots + (mo.2.1 - mem.2.1) ≤ (jR x).slots)
    (hg : g.method = jm x) (hsize : g.locals.size = (jc x).maxLocals) (hdg : decode (jc x).code g.pc = .ok (ig, 3)) (hst : 2 * g.monitorRoom + (g.stack.map fun v => v.category).sum ≤ 8) (hn : U.methodNamed? y = some mk) (hB : j_B G locs) :
    ∃ (T' : State) (locs' : List Loc), Stand (jp x) (jl x) (je x) (jR x) (js x) (jm x) (ja x) (jb x) (jt x) (jc x) T' locs' (cells + (mo.1 - mem.1)) (slots + (mo.2.1 - mem.2.1)) ∧ j_B G locs' ∧ j_R G mo T'.heap ∧
      (match o with
       | .inl v => Steps (jp x).tables (je x) (jb x) (doInvoke (je x) (U.setTop g) [] mk (as.map (rn G)).toArray).1 (T'.setTop { g with pc := g.pc + 3, stack := v.toList.map (rn G) ++ g.stack })
       | .inr z => Steps (jp x).tables (je x) (jb x) (doInvoke (je x) (U.setTop g) [] mk (as.map (rn G)).toArray).1 ((T'.setTop g).pushFrame (.throwing (adr G z.2))) ∧ ∃ (cell : Cell) (k : Class), T'.heap[adr G z.2]? = some cell ∧ (∀ z, cell.vm ≠ .statics z) ∧ (js x).vm.findClass (x_nm z.1) = some cell.cls ∧ (js x).vm.classes[cell.cls]? = some k) := by
  have h : At U g.method (jc x) (jb x) := by rw [hg]; exact X.here
  have hwU : w.before (as.map (rn G)).toArray U = true := j_wd_at X.warmed hcw.1 (hts _ hcw.1)
  obtain ⟨methY, cY, hmY, hcY, hlY, -⟩ := j_cwd_spec hcw hwU hn
  obtain ⟨kY, hkY, -⟩ := className_of_methodNamed hn
  have hinitY : kY.init = .initialized := Cond.initialized_spec (args := (as.map (rn G)).toArray) (findClass_of_methodNamed hn) hkY (j_wd_at X.warmed hcw.2.1 (hts _ hcw.2.1))
  have happ : (headSpec (w :: lwg) (j_rm d mem mo)).appliesLoose y (je x).platform (U.calling g mk (as.map (rn G)).toArray) = true :=
    Spec.appliesLoose_calling (g := g) h hdg hn hkY hinitY
      (X.room_calling (g := g) (R' := j_rm d mem mo) hsize hmY hcY hf (by show _ + 64 * d ≤ _; omega) hc hs)
      (atoms_intro fun w' hw' => by
        rcases List.mem_cons.mp hw' with rfl | hw'
        · exact hwU
        · exact j_wd_at X.warmed hw' (hts _ hw'))
  obtain ⟨mid, hmid⟩ := h.above
  have hfr : (U.setTop g).frames = (.java g :: mid) ++ jb x := by rw [State.frames_setTop' g h.top, hmid]; rfl
  have hPc : j_Pc G as mem (as.map (rn G)).toArray ((U.setTop g).pushFrame (.invoking mk (as.map (rn G)).toArray)) := ⟨rfl, hR, j_K.moved (U := (U.setTop g).pushFrame (.invoking mk (as.map (rn G)).toArray)) (u := js x) X.warmed hK⟩
  obtain ⟨oc, s₂, hsteps, -, hend, ⟨hoc, hR2⟩, L, ⟨hW2, hsame⟩, hL⟩ := Steps.callFree hM (jp x) X.admits X.cas X.clock (acts := []) hfr happ hPc trivial
  rw [State.frames_setTop' g h.top, X.tail] at hend
  have hB' : j_B G (locs ++ L) := fun q hq => by
    rcases List.mem_append.mp hq with hq | hq
    · exact hB q hq
    · exact hL q hq
  cases o with
  | inl v =>
    have hoc : oc = .returned (v.map (rn G)) := hoc
    subst hoc
    obtain ⟨T', X', hw', hs', ht⟩ := X.outOf hg hdg hend hW2 hsame
    have hh : T'.heap = s₂.heap := by rw [ht]; rfl
    refine ⟨T', locs ++ L, X', hB', by rw [hh]; exact hR2, ?_⟩
    show Steps _ _ _ _ (T'.setTop { g with pc := g.pc + 3, stack := v.toList.map (rn G) ++ g.stack })
    have e : (v.map (rn G)).toList = v.toList.map (rn G) := by cases v <;> rfl
    rw [e] at ht
    rw [← ht]
    exact hsteps
  | inr z =>
    obtain ⟨rfl, cell, k, hc1, hc2, hc3, hc4⟩ := hoc
    obtain ⟨T', X', hw', hs', ht⟩ := X.outOfThrown hg hend hW2 hsame
    have hh : T'.heap = s₂.heap := by rw [ht, Stand.throwing_heap]
    have hv : T'.vm = s₂.vm := by rw [ht, Stand.throwing_vm]
    refine ⟨T', locs ++ L, X', hB', by rw [hh]; exact hR2, ?_, cell, ?_⟩
    · show Steps _ _ _ _ ((T'.setTop g).pushFrame (.throwing (adr G z.2)))
      rw [← ht]
      exact hsteps
    · have al := X'.warmed.alike
      rw [hv] at al
      obtain ⟨k', hk', -⟩ := al.symm.2.2 _ _ hc4
      exact ⟨k', by rw [hh]; exact hc1, hc2, by rw [← al.findClass]; exact hc3, hk'⟩
end CALLS
/-- calls: virtual (by the receiver's class), static, of a constructor -/
def j_sc (st : List Value) : Nat := (st.map fun v => v.category).sum
def j_cv (tb : List (Nat × Nat)) (na : Nat) : j_S := fun _ st mem => match st.drop na with
  | .ref b :: r => match mem.2.2 b with
    | some (.inr (c, _)) => match tb.lookup c with
      | some k => bif Nat.ble (j_sc r) 8 && ((st.take na).length == na) then some (.inr (.inr (.inl (k, .ref b :: (st.take na).reverse, r)))) else none
      | none => none
    | _ => none
  | _ => none
def j_cs (k na : Nat) : j_S := fun _ st _ => bif Nat.ble (j_sc (st.drop na)) 8 && ((st.take na).length == na) then some (.inr (.inr (.inl (k, (st.take na).reverse, st.drop na)))) else none
def j_ci (k na : Nat) : j_S := fun _ st _ => match st.drop na with
  | .ref b :: r => bif Nat.ble (j_sc r) 8 && ((st.take na).length == na) then some (.inr (.inr (.inl (k, .ref b :: (st.take na).reverse, r)))) else none
  | _ => none
theorem j_sc_rn (G : j_G) (r : List Value) : ((r.map (rn G)).map fun v => v.category).sum = j_sc r := by
  unfold j_sc
  rw [List.map_map]
  congr 1
  exact List.map_congr_left (fun v _ => rn_cat G v)
theorem j_stk {G : j_G} {st r : List Value} {na b : Nat} (h : st.drop na = .ref b :: r) : st.map (rn G) = (((st.take na).reverse).map (rn G)).reverse ++ .ref (adr G b) :: r.map (rn G) := by
  rw [← List.map_reverse, List.reverse_reverse]
  have e : st = st.take na ++ st.drop na := (List.take_append_drop na st).symm
  rw [h] at e
  have e2 := congrArg (List.map (rn G)) e
  rw [List.map_append, List.map_cons] at e2
  exact e2
/-- what a virtual call asks: the link, the receiver's class, the method it selects -/
def j_vd (own : String) (ix na : Nat) (tm : Nat → MethodName × Cond) (q : Nat × Nat) : Prop :=
  (∃ (C : String) (T : u_T) (N : Nat), cls[q.1]? = some (C, T, N) ∧ Cond.methodLink own ix (tm q.2).1 ∈ lwg ∧ Cond.instanceMethod (tm q.2).1 ∈ lwg ∧ Cond.selects C (tm q.2).1 (tm q.2).1 ∈ lwg) ∧ j_cwd (tm q.2).1 (tm q.2).2 ∧
  ((tm q.2).1.cls ≠ "java/lang/invoke/MethodHandle" ∧ (tm q.2).1.cls ≠ "java/lang/invoke/VarHandle") ∧ (parseMethodDescriptor (tm q.2).1.desc).map (fun d => d.parameters.length) = some na
section CALLR
variable {G : j_G} {tm : Nat → MethodName × Cond} {i : j_I} {pc : Nat}
theorem lookup_mem {tb : List (Nat × Nat)} {c k : Nat} (h : tb.lookup c = some k) : (c, k) ∈ tb := by
  induction tb with
  | nil => cases h
  | cons q r ih =>
    obtain ⟨a, b⟩ := q
    rw [List.lookup_cons] at h
    cases hq : c == a with
    | true =>
      rw [hq] at h
      cases h
      rw [beq_iff_eq.mp hq]
      exact List.mem_cons_self
    | false =>
      rw [hq] at h
      exact List.mem_cons_of_mem _ (ih h)
theorem r_invV {tb : List (Nat × Nat)} {ix na : Nat} (hv : ∀ q ∈ tb, j_vd i.1 ix na tm q) (hd : decode i.2.1 pc = .ok (.invokevirtual ix, 3)) : j_ok G tm i pc (j_cv tb na) := by
  intro lc st mem act ha
  unfold j_cv at ha
  split at ha
  next b r hdr =>
    split at ha
    next c fs hm =>
      split at ha
      next k hk =>
        cases hcs : Nat.ble (j_sc r) 8 && ((st.take na).length == na) with
        | false => rw [hcs] at ha; cases ha
        | true =>
          simp only [hcs, cond_true, Option.some.injEq] at ha
          subst ha
          simp only [Bool.and_eq_true, Nat.ble_eq, beq_iff_eq] at hcs
          obtain ⟨hsc, hlen⟩ := hcs
          intro d o mo x H locs cells slots Q ls hM hm1 hm2 hcx hf hl hR hH hB hc hs kk
          obtain ⟨⟨C, T, N, e1, e2, e3, e4⟩, hcw, hnm, hpar⟩ := hv _ (lookup_mem hk)
          obtain ⟨hx, hb, hml, hown, hts, hK, -⟩ := hcx
          obtain ⟨h4, h5, r0, g1, cellB, q1, q2, q3, -⟩ := hR.obj hm
          have hr0 : r0 = (C, T, N) := Option.some.inj (g1.symm.trans e1)
          subst hr0
          have hcls : (js x).vm.findClass C = some cellB.cls := by rw [q2]; exact (hK.1 c _ e1).2.1
          intro T0 hT X
          obtain ⟨mk, methM, hnamed, hmethM, hstM, habM⟩ := Cond.instanceMethod_spec (hts _ e3)
          obtain ⟨c2, r2, m2, p1, p2, p3, p4, kP, hkP, hkPi⟩ := Cond.selects_spec (hts _ e4)
          cases hcls.symm.trans p1
          cases (State.methodFound?_of_named hnamed hnm).symm.trans p2
          cases hnamed.symm.trans p3
          have hselP : selectMethod (je x).platform (js x).vm cellB.cls mk = .method mk := by rw [Launch.admits_selectMethod X.admits]; exact p4
          have hsz : ls.size = (jc x).maxLocals := by rw [hml]; exact hH.1
          have hsig : ((st.take na).reverse.map (rn G)).length = methM.sig.parameters.length := by
            rw [List.length_map, List.length_reverse, hlen]
            obtain ⟨methZ, -, hmZ, -, -, hp⟩ := j_cwd_spec hcw (hts _ hcw.1) hnamed
            cases hmethM.symm.trans hmZ
            rw [hp] at hpar
            exact (Option.some.inj hpar).symm
          obtain ⟨vm₁, X₁, hstep₁⟩ := X.invokevirtual hx hown (hts _ e2) hnamed hmethM hstM hkP hkPi hnm (a := adr G b) (cell := cellB) (by rw [hT]; exact q1)
            (fun z h => by rw [q3] at h; cases h) hselP hmethM habM hkP hkPi (g := F0 (jm x) pc ls (st.map (rn G))) rfl (argsL := (st.take na).reverse.map (rn G)) (rest := r.map (rn G)) hsig (j_stk hdr) (by rw [hb]; exact hd)
          obtain ⟨T', locs', X', hB', hR', hend⟩ := j_call (G := G) (x := x) (g := { F0 (jm x) pc ls (st.map (rn G)) with stack := r.map (rn G) }) X₁ hM hts hK hcw (by show j_R G mem T0.heap; rw [hT]; exact hR) hf hl hc hs rfl hsz (by rw [hb]; exact hd) (by rw [j_sc_rn]; show 2 * 0 + _ ≤ _; omega) (X₁.named hnamed) hB
          have k1 := kk T'.heap locs' hR' hB'
          cases o with
          | inl v =>
            obtain ⟨t, a1, b1⟩ := k1 T' rfl X'
            refine ⟨t, hstep₁ _ fun acts => ?_, b1⟩
            rw [doInvoke_state]
            rw [List.map_append] at a1
            exact hend.trans a1
          | inr z =>
            obtain ⟨hend, hcell⟩ := hend
            obtain ⟨t, a1, b1⟩ := k1 hcell T' rfl X'
            refine ⟨t, hstep₁ _ fun acts => ?_, b1⟩
            rw [doInvoke_state]
            exact hend.trans a1
      next => cases ha
    next => cases ha
  next => cases ha
/-- what a virtual call of an inherited or abstract method asks -/
def j_ud (own : String) (ix na : Nat) (x : MethodName) (owner : String) (tm : Nat → MethodName × Cond) (q : Nat × Nat) : Prop :=
  (∃ (C : String) (T : u_T) (N : Nat), cls[q.1]? = some (C, T, N) ∧ Cond.methodLink own ix x ∈ lwg ∧ Cond.sameMethod x.cls owner x.name x.desc ∈ lwg ∧ Cond.selects C x (tm q.2).1 ∈ lwg ∧ Cond.instanceMethod (tm q.2).1 ∈ lwg) ∧ j_cwd (tm q.2).1 (tm q.2).2 ∧
  (owner ≠ "java/lang/invoke/MethodHandle" ∧ owner ≠ "java/lang/invoke/VarHandle") ∧ (parseMethodDescriptor x.desc).map (fun d => d.parameters.length) = some na
theorem r_invU {tb : List (Nat × Nat)} {ix na : Nat} {y0 : MethodName} {owner : String} (hv : ∀ q ∈ tb, j_ud i.1 ix na y0 owner tm q) (hdc : ∀ (A : Array Value) (U : State), (∀ w ∈ lwg, w.before A U = true) → j_K G U → va_Decl U ⟨owner, y0.name, y0.desc⟩) (hd : decode i.2.1 pc = .ok (.invokevirtual ix, 3)) : j_ok G tm i pc (j_cv tb na) := by
  intro lc st mem act ha
  unfold j_cv at ha
  split at ha
  next b r hdr =>
    split at ha
    next c fs hm =>
      split at ha
      next k hk =>
        cases hcs : Nat.ble (j_sc r) 8 && ((st.take na).length == na) with
        | false => rw [hcs] at ha; cases ha
        | true =>
          simp only [hcs, cond_true, Option.some.injEq] at ha
          subst ha
          simp only [Bool.and_eq_true, Nat.ble_eq, beq_iff_eq] at hcs
          obtain ⟨hsc, hlen⟩ := hcs
          intro d o mo x H locs cells slots Q ls hM hm1 hm2 hcx hf hl hR hH hB hc hs kk
          obtain ⟨⟨C, T, N, e1, e2, e3, e4, e5⟩, hcw, hnm, hpar⟩ := hv _ (lookup_mem hk)
          obtain ⟨hx, hb, hml, hown, hts, hK, -⟩ := hcx
          obtain ⟨h4, h5, r0, g1, cellB, q1, q2, q3, -⟩ := hR.obj hm
          have hr0 : r0 = (C, T, N) := Option.some.inj (g1.symm.trans e1)
          subst hr0
          have hcls : (js x).vm.findClass C = some cellB.cls := by rw [q2]; exact (hK.1 c _ e1).2.1
          intro T0 hT X
          obtain ⟨rD, rM, hnD, hrm, hstR, hsigR⟩ := hdc _ _ hts hK
          obtain ⟨cn, ck, r1, hcn, hck, hni, hfo, hn1⟩ := Cond.sameMethod_found (hts _ e3)
          cases hnD.symm.trans hn1
          obtain ⟨mk, methM, hnamed, hmethM, -, habM⟩ := Cond.instanceMethod_spec (hts _ e5)
          obtain ⟨c2, r2, m2, p1, p2, p3, p4, kP, hkP, hkPi⟩ := Cond.selects_spec (hts _ e4)
          cases hcls.symm.trans p1
          cases hfo.symm.trans p2
          cases hnamed.symm.trans p3
          have hselP : selectMethod (je x).platform (js x).vm cellB.cls rD = .method mk := by rw [Launch.admits_selectMethod X.admits]; exact p4
          have hsz : ls.size = (jc x).maxLocals := by rw [hml]; exact hH.1
          have hsig : ((st.take na).reverse.map (rn G)).length = rM.sig.parameters.length := by
            rw [List.length_map, List.length_reverse, hlen]
            have hsigR : parseMethodDescriptor y0.desc = some rM.sig := hsigR
            rw [hsigR] at hpar
            exact (Option.some.inj hpar).symm
          obtain ⟨vm₁, X₁, hstep₁⟩ := X.invokevirtualUp hx hown (hts _ e2) (hts _ e3) hnm hnD hrm hstR (a := adr G b) (cell := cellB) (by rw [hT]; exact q1)
            (fun z h => by rw [q3] at h; cases h) hselP hmethM habM hkP hkPi (g := F0 (jm x) pc ls (st.map (rn G))) rfl (argsL := (st.take na).reverse.map (rn G)) (rest := r.map (rn G)) hsig (j_stk hdr) (by rw [hb]; exact hd)
          obtain ⟨T', locs', X', hB', hR', hend⟩ := j_call (G := G) (x := x) (g := { F0 (jm x) pc ls (st.map (rn G)) with stack := r.map (rn G) }) X₁ hM hts hK hcw (by show j_R G mem T0.heap; rw [hT]; exact hR) hf hl hc hs rfl hsz (by rw [hb]; exact hd) (by rw [j_sc_rn]; show 2 * 0 + _ ≤ _; omega) (X₁.named hnamed) hB
          have k1 := kk T'.heap locs' hR' hB'
          cases o with
          | inl v =>
            obtain ⟨t, a1, b1⟩ := k1 T' rfl X'
            refine ⟨t, hstep₁ _ fun acts => ?_, b1⟩
            rw [doInvoke_state]
            rw [List.map_append] at a1
            exact hend.trans a1
          | inr z =>
            obtain ⟨hend, hcell⟩ := hend
            obtain ⟨t, a1, b1⟩ := k1 hcell T' rfl X'
            refine ⟨t, hstep₁ _ fun acts => ?_, b1⟩
            rw [doInvoke_state]
            exact hend.trans a1
      next => cases ha
    next => cases ha
  next => cases ha
theorem r_invS {k ix na : Nat} (hl0 : Cond.methodLink i.1 ix (tm k).1 ∈ lwg) (hst0 : Cond.static (tm k).1 ∈ lwg) (hcw : j_cwd (tm k).1 (tm k).2) (hnm : (tm k).1.cls ≠ "java/lang/invoke/MethodHandle" ∧ (tm k).1.cls ≠ "java/lang/invoke/VarHandle") (hpar : (parseMethodDescriptor (tm k).1.desc).map (fun d => d.parameters.length) = some na) (hd : decode i.2.1 pc = .ok (.invokestatic ix, 3)) : j_ok G tm i pc (j_cs k na) := by
  intro lc st mem act ha
  unfold j_cs at ha
  cases hcs : Nat.ble (j_sc (st.drop na)) 8 && ((st.take na).length == na) with
  | false => rw [hcs] at ha; cases ha
  | true =>
          simp only [hcs, cond_true, Option.some.injEq] at ha
          subst ha
          simp only [Bool.and_eq_true, Nat.ble_eq, beq_iff_eq] at hcs
          obtain ⟨hsc, hlen⟩ := hcs
          intro d o mo x H locs cells slots Q ls hM hm1 hm2 hcx hf hl hR hH hB hc hs kk
          obtain ⟨hx, hb, hml, hown, hts, hK, -⟩ := hcx
          intro T0 hT X
          obtain ⟨mk, hnamed⟩ : ∃ mk, (js x).methodNamed? (tm k).1 = some mk := by
            obtain ⟨-, -, bytes, maxL, ret, -, e | ⟨hh, e⟩⟩ := id hcw
            · exact Cond.code_named (by rw [← e]; exact hts _ hcw.1)
            · obtain ⟨m9, -, -, hn9, -⟩ := Cond.codeWith_spec (by rw [← e]; exact hts _ hcw.1)
              exact ⟨m9, hn9⟩
          obtain ⟨methM, cM, hmethM, -, -, hp⟩ := j_cwd_spec hcw (hts _ hcw.1) hnamed
          have hstatic : methM.isStatic = true := Cond.static_spec hnamed hmethM (hts _ hst0)
          obtain ⟨kP, hkP, -⟩ := className_of_methodNamed hnamed
          have hinitP : kP.init = .initialized := Cond.initialized_spec (findClass_of_methodNamed hnamed) hkP (hts _ hcw.2.1)
          have hsz : ls.size = (jc x).maxLocals := by rw [hml]; exact hH.1
          have hsig : ((st.take na).reverse.map (rn G)).length = methM.sig.parameters.length := by
            rw [List.length_map, List.length_reverse, hlen]
            rw [hp] at hpar
            exact (Option.some.inj hpar).symm
          have hstk : st.map (rn G) = (((st.take na).reverse).map (rn G)).reverse ++ (st.drop na).map (rn G) := by
            rw [← List.map_reverse, List.reverse_reverse, ← List.map_append, List.take_append_drop]
          obtain ⟨vm₁, X₁, hstep₁⟩ := X.invokestatic hx hown (hts _ hl0) hnamed hmethM hstatic hkP hinitP hnm (g := F0 (jm x) pc ls (st.map (rn G))) rfl (argsL := (st.take na).reverse.map (rn G)) (rest := (st.drop na).map (rn G)) hsig hstk (by rw [hb]; exact hd)
          obtain ⟨T', locs', X', hB', hR', hend⟩ := j_call (G := G) (x := x) (g := { F0 (jm x) pc ls (st.map (rn G)) with stack := (st.drop na).map (rn G) }) X₁ hM hts hK hcw (by show j_R G mem T0.heap; rw [hT]; exact hR) hf hl hc hs rfl hsz (by rw [hb]; exact hd) (by rw [j_sc_rn]; show 2 * 0 + _ ≤ _; omega) (X₁.named hnamed) hB
          have k1 := kk T'.heap locs' hR' hB'
          cases o with
          | inl v =>
            obtain ⟨t, a1, b1⟩ := k1 T' rfl X'
            refine ⟨t, hstep₁ _ fun acts => ?_, b1⟩
            rw [doInvoke_state]
            rw [List.map_append] at a1
            exact hend.trans a1
          | inr z =>
            obtain ⟨hend, hcell⟩ := hend
            obtain ⟨t, a1, b1⟩ := k1 hcell T' rfl X'
            refine ⟨t, hstep₁ _ fun acts => ?_, b1⟩
            rw [doInvoke_state]
            exact hend.trans a1
theorem r_invI {k ix na : Nat} (hl0 : Cond.methodLink i.1 ix (tm k).1 ∈ lwg) (hin0 : Cond.instanceMethod (tm k).1 ∈ lwg) (hy1 : (tm k).1.name = "<init>") {bytes : ByteArray} {maxL : Nat} (hw0 : (tm k).2 = .code (tm k).1 bytes maxL none) (hcw : j_cwd (tm k).1 (tm k).2) (hnm : (tm k).1.cls ≠ "java/lang/invoke/MethodHandle" ∧ (tm k).1.cls ≠ "java/lang/invoke/VarHandle") (hpar : (parseMethodDescriptor (tm k).1.desc).map (fun d => d.parameters.length) = some na) (hd : decode i.2.1 pc = .ok (.invokespecial ix, 3)) : j_ok G tm i pc (j_ci k na) := by
  intro lc st mem act ha
  unfold j_ci at ha
  split at ha
  next b r hdr =>
        cases hcs : Nat.ble (j_sc r) 8 && ((st.take na).length == na) with
        | false => rw [hcs] at ha; cases ha
        | true =>
          simp only [hcs, cond_true, Option.some.injEq] at ha
          subst ha
          simp only [Bool.and_eq_true, Nat.ble_eq, beq_iff_eq] at hcs
          obtain ⟨hsc, hlen⟩ := hcs
          intro d o mo x H locs cells slots Q ls hM hm1 hm2 hcx hf hl hR hH hB hc hs kk
          obtain ⟨hx, hb, hml, hown, hts, hK, -⟩ := hcx
          intro T0 hT X
          have hpl : (je x).platform.magicAccessors = ({} : Platform).magicAccessors := by rw [X.admits.platform]
          have hsz : ls.size = (jc x).maxLocals := by rw [hml]; exact hH.1
          have hwb : (Cond.code (tm k).1 bytes maxL none).before (ja x) (js x) = true := by rw [← hw0]; exact hts _ hcw.1
          obtain ⟨mk, methM, cM, kP, vm₁, hnamed, hmethM, hcodeM, -, hlocalsM, -, hkP, -, hW₁, hstep₁⟩ := Steps.initColdArgs (e := je x) (below := jb x) X.here hx X.warmed hpl hown hy1 hnm (hts _ hl0) (hts _ hin0) hwb (f := F0 (jm x) pc ls (st.map (rn G))) rfl (argsL := (st.take na).reverse.map (rn G)) (a := adr G b) (rest := r.map (rn G))
            (fun sig h => by
              rw [List.length_map, List.length_reverse, hlen]
              rw [h] at hpar
              exact (Option.some.inj hpar).symm) (j_stk hdr) (by rw [hb]; exact hd)
          have X₁ := X.noted hW₁
          obtain ⟨T', locs', X', hB', hR', hend⟩ := j_call (G := G) (x := x) (g := { F0 (jm x) pc ls (st.map (rn G)) with stack := r.map (rn G) }) X₁ hM hts hK hcw (by show j_R G mem T0.heap; rw [hT]; exact hR) hf hl hc hs rfl hsz (by rw [hb]; exact hd) (by rw [j_sc_rn]; show 2 * 0 + _ ≤ _; omega) (X₁.named hnamed) hB
          have k1 := kk T'.heap locs' hR' hB'
          cases o with
          | inl v =>
            obtain ⟨t, a1, b1⟩ := k1 T' rfl X'
            refine ⟨t, hstep₁ _ fun acts => ?_, b1⟩
            rw [doInvoke_state]
            rw [List.map_append] at a1
            exact hend.trans a1
          | inr z =>
            obtain ⟨hend, hcell⟩ := hend
            obtain ⟨t, a1, b1⟩ := k1 hcell T' rfl X'
            refine ⟨t, hstep₁ _ fun acts => ?_, b1⟩
            rw [doInvoke_state]
            exact hend.trans a1
  next => cases ha
end CALLR
end
section
/-! THE SMALL MACHINE'S RUNS, AND THAT THE MACHINE FOLLOWS THEM (own text) -/
/-- a method: its name and word, what is known of its walk, its code, its handlers (pc, class, where it goes on) -/
abbrev j_E : Type := (MethodName × Cond) × j_I × (Nat → j_S) × List (Nat × Nat × Nat)
/-- from here the method ends so (by rules; C: what its callees do) -/
def j_ev (d : Nat) (C : Nat → List Value → j_M → j_O → j_M → Prop) (code : Nat → j_S) (hn : List (Nat × Nat × Nat)) (o : j_O) (mo : j_M) (pc : Nat) (lc : j_L) (st : List Value) (mem : j_M) : Prop :=
  ∀ P : Nat → j_L → List Value → j_M → Prop,
    (∀ pc lc st mem pc' lc' st' mem', code pc lc st mem = some (.inl (pc', lc', st', mem')) → P pc' lc' st' mem' → P pc lc st mem) →
    (∀ pc lc st mem v, code pc lc st mem = some (.inr (.inl v)) → o = .inl v → mo = mem → P pc lc st mem) →
    (∀ pc lc st mem k as r v mem', code pc lc st mem = some (.inr (.inr (.inl (k, as, r)))) → C k as mem (.inl v) mem' → P (pc + 3) lc (v.toList ++ r) mem' → P pc lc st mem) →
    (∀ pc lc st mem k as r z mem' h, code pc lc st mem = some (.inr (.inr (.inl (k, as, r)))) → C k as mem (.inr z) mem' → (pc, z.1, h) ∈ hn → P h lc [.ref z.2] mem' → P pc lc st mem) →
    (∀ pc lc st mem k as r z, code pc lc st mem = some (.inr (.inr (.inl (k, as, r)))) → C k as mem (.inr z) mo → hn = [] → o = .inr z → P pc lc st mem) →
    (∀ pc lc st mem z, code pc lc st mem = some (.inr (.inr (.inr z))) → 6 ≤ d → hn = [] → o = .inr (z, mem.1) → mo = (mem.1 + 1, mem.2.1 + 6, va_up mem.2.2 mem.1 none) → P pc lc st mem) →
    P pc lc st mem
/-- a method, called at depth d, ends so -/
def j_ex (tb : Nat → Option j_E) : Nat → Nat → List Value → j_M → j_O → j_M → Prop
  | 0, _, _, _, _, _ => False
  | d + 1, k, as, mem, o, mo => ∃ en, tb k = some en ∧ j_sc as ≤ en.2.1.2.2.1 ∧ j_ev (d + 1) (j_ex tb d) en.2.2.1 en.2.2.2 o mo 0 (j_en en.2.1.2.2.1 as) [] mem
section EV
variable {d : Nat} {C : Nat → List Value → j_M → j_O → j_M → Prop} {code : Nat → j_S} {hn : List (Nat × Nat × Nat)} {o : j_O} {mo : j_M} {pc : Nat} {lc : j_L} {st : List Value} {mem : j_M}
theorem j_ev.go {pc' : Nat} {lc' : j_L} {st' : List Value} {mem' : j_M} (h : code pc lc st mem = some (.inl (pc', lc', st', mem'))) (k : j_ev d C code hn o mo pc' lc' st' mem') : j_ev d C code hn o mo pc lc st mem :=
  fun P h1 h2 h3 h4 h5 h6 => h1 _ _ _ _ _ _ _ _ h (k P h1 h2 h3 h4 h5 h6)
theorem j_ev.ret {v : Option Value} (h : code pc lc st mem = some (.inr (.inl v))) : j_ev d C code hn (.inl v) mem pc lc st mem :=
  fun _ _ h2 _ _ _ _ => h2 _ _ _ _ _ h rfl rfl
theorem j_ev.call {k : Nat} {as r : List Value} {v : Option Value} {mem' : j_M} (h : code pc lc st mem = some (.inr (.inr (.inl (k, as, r))))) (hc : C k as mem (.inl v) mem') (kk : j_ev d C code hn o mo (pc + 3) lc (v.toList ++ r) mem') : j_ev d C code hn o mo pc lc st mem :=
  fun P h1 h2 h3 h4 h5 h6 => h3 _ _ _ _ _ _ _ _ _ h hc (kk P h1 h2 h3 h4 h5 h6)
theorem j_ev.catch {k h' : Nat} {as r : List Value} {z : Nat × Nat} {mem' : j_M} (h : code pc lc st mem = some (.inr (.inr (.inl (k, as, r))))) (hc : C k as mem (.inr z) mem') (hh : (pc, z.1, h') ∈ hn) (kk : j_ev d C code hn o mo h' lc [.ref z.2] mem') : j_ev d C code hn o mo pc lc st mem :=
  fun P h1 h2 h3 h4 h5 h6 => h4 _ _ _ _ _ _ _ _ _ _ h hc hh (kk P h1 h2 h3 h4 h5 h6)
theorem j_ev.pass {k : Nat} {as r : List Value} {z : Nat × Nat} {mem' : j_M} (h : code pc lc st mem = some (.inr (.inr (.inl (k, as, r))))) (hc : C k as mem (.inr z) mem') : j_ev d C code [] (.inr z) mem' pc lc st mem :=
  fun _ _ _ _ _ h5 _ => h5 _ _ _ _ _ _ _ _ h hc rfl rfl
theorem j_ev.throw {z : Nat} (h : code pc lc st mem = some (.inr (.inr (.inr z)))) (hd : 6 ≤ d) : j_ev d C code [] (.inr (z, mem.1)) (mem.1 + 1, mem.2.1 + 6, va_up mem.2.2 mem.1 none) pc lc st mem :=
  fun _ _ _ _ _ _ h6 => h6 _ _ _ _ _ h hd rfl rfl rfl
end EV
/-- the locals at the entry -/
theorem j_en_prs {G : j_G} : ∀ (as : List Value) (n k : Nat) (q : Nat × Value), q ∈ j_prs G k (j_en n as) → q ∈ lv_args k (as.map (rn G))
  | [], n, k, q, h => by
    have : ∀ n k, j_prs G k (List.replicate n none) = [] := by
      intro n
      induction n with
      | zero => intro k; rfl
      | succ n ih => intro k; exact ih (k + 1)
    rw [j_en, this] at h
    cases h
  | v :: r, n, k, q, h => by
    rw [List.map_cons, lv_args, rn_cat]
    rw [j_en] at h
    by_cases hc : v.category = 2
    · have hb : (v.category == 2) = true := by rw [hc]; rfl
      rw [hb] at h
      rw [if_pos hc]
      rcases List.mem_cons.mp h with rfl | h
      · exact List.mem_cons_self
      · exact List.mem_cons_of_mem _ (j_en_prs r (n - 2) (k + 2) q h)
    · have hb : (v.category == 2) = false := by simpa using hc
      rw [hb] at h
      rw [if_neg hc]
      rcases List.mem_cons.mp h with rfl | h
      · exact List.mem_cons_self
      · exact List.mem_cons_of_mem _ (j_en_prs r (n - 1) (k + 1) q h)
theorem j_sl_len (G : j_G) (as : List Value) : (lg_sl (as.map (rn G))).length = j_sc as := by
  induction as with
  | nil => rfl
  | cons v r ih =>
    have e : lg_sl ((v :: r).map (rn G)) = (if (rn G v).category = 2 then [Slot.val (rn G v), .second] else [.val (rn G v)]) ++ lg_sl (r.map (rn G)) := rfl
    have e2 : j_sc (v :: r) = v.category + j_sc r := rfl
    rw [e, List.length_append, ih, e2, rn_cat]
    rcases lv_cat v with h | h
    · rw [h]; rfl
    · rw [h]; rfl
theorem j_H.entry (G : j_G) (as : List Value) {n : Nat} (h : j_sc as ≤ n) : j_H G ((lg_sl (as.map (rn G)) ++ List.replicate (n - (lg_sl (as.map (rn G))).length) Slot.unset).toArray) n (j_en n as) := by
  have h0 := lv_entry (as.map (rn G)) (n := n) (by rw [j_sl_len]; exact h)
  exact ⟨h0.1, h0.2.1, fun q hq => h0.2.2 q (j_en_prs as n 0 q hq)⟩
/-- a handler is right: where it says so, the machine goes on there -/
def j_hok (G : j_G) (i : j_I) (q : Nat × Nat × Nat) : Prop := ∀ (x : j_X) (H : Heap) (locs : List Loc) (cells slots : Nat) (Q : State → Prop) (ls : Array Slot) (rest : List Value) (a : Nat), j_cx G i x →
  (∃ (cell : Cell) (k : Class), H[a]? = some cell ∧ (∀ z, cell.vm ≠ .statics z) ∧ (js x).vm.findClass (x_nm q.2.1) = some cell.cls ∧ (js x).vm.classes[cell.cls]? = some k) →
  j_W x H locs cells slots Q (F0 (jm x) q.2.2 ls [.ref a]) → j_WT x H locs cells slots Q (F0 (jm x) q.1 ls rest) a
/-- a method of the table is right -/
def j_mok (G : j_G) (tm : Nat → MethodName × Cond) (en : j_E) : Prop :=
  plainName en.1.1.cls = true ∧ ((en.1.2 = .code en.1.1 en.2.1.2.1 en.2.1.2.2.1 en.2.1.2.2.2.2.1 ∧ en.2.1.2.2.2.2.2 = []) ∨ en.1.2 = .codeWith en.1.1 en.2.1.2.1 en.2.1.2.2.1 en.2.1.2.2.2.2.1 en.2.1.2.2.2.2.2) ∧
  en.2.1.1 = en.1.1.cls ∧ (en.2.1.2.2.2.1 = true → en.1.1.name = "<init>") ∧ (∀ pc, j_ok G tm en.2.1 pc (en.2.2.1 pc)) ∧ (∀ q ∈ en.2.2.2, j_hok G en.2.1 q) ∧ (en.2.2.2 = [] → en.2.1.2.2.2.2.2 = [])
set_option maxHeartbeats 1000000 in
theorem j_sim {G : j_G} {l : Launch} {tb : Nat → Option j_E} {tm : Nat → MethodName × Cond} (htm : ∀ k en, tb k = some en → tm k = en.1) (hok : ∀ k en, tb k = some en → j_mok G tm en) (hst : ∀ e, l.admits e → e.platform.stackTraces = false) :
    ∀ (d k : Nat) (as : List Value) (mem : j_M) (o : j_O) (mo : j_M), j_ex tb d k as mem o mo → mem.1 ≤ mo.1 ∧ mem.2.1 ≤ mo.2.1 ∧ j_met G l d (tm k).1 (tm k).2 as mem o mo := by
  intro d
  induction d with
  | zero => intro k as mem o mo h; exact h.elim
  | succ d ih =>
    intro k as mem0 o mo h
    obtain ⟨en, hen, hsc, hev⟩ := h
    obtain ⟨⟨y, w⟩, ⟨own, cc, nL, ii, ret, hh⟩, code, hn⟩ := en
    have htk := htm k _ hen
    obtain ⟨hy, hw, how, hii, hpc, hhn, hhe⟩ := hok k _ hen
    dsimp only at hy hw how hii hpc hhn hhe hsc hev htk
    rw [htk]
    dsimp only
    have key := hev (fun pc lc st mem => mem.1 ≤ mo.1 ∧ mem.2.1 ≤ mo.2.1 ∧ ∀ (x : j_X) (H : Heap) (locs : List Loc) (ls : Array Slot), j_cx G (own, cc, nL, ii, ret, hh) x → jl x = l → jR x = j_rm (d + 1) mem0 mo →
      mem0.1 ≤ mem.1 → mem0.2.1 ≤ mem.2.1 → j_R G mem H → j_H G ls nL lc → j_B G locs →
      j_W x H locs (mem.1 - mem0.1) (mem.2.1 - mem0.2.1) (j_MQ (jb x) (j_Qc G o mo) (ja x) (js x) (mo.1 - mem0.1) (mo.2.1 - mem0.2.1) (fun q => G.2.2.2.1.size ≤ q)) (F0 (jm x) pc ls (st.map (rn G))))
      (by
        rintro pc lc st mem pc' lc' st' mem' hc ⟨a1, a2, a3⟩
        obtain ⟨b1, b2, b3⟩ := hpc pc lc st mem _ hc
        refine ⟨Nat.le_trans b1 a1, Nat.le_trans b2 a2, fun x H locs ls hx hl hRm m1 m2 hR hH hB => ?_⟩
        have e1 : (mem.1 - mem0.1) + (mem'.1 - mem.1) = mem'.1 - mem0.1 := by omega
        have e2 : (mem.2.1 - mem0.2.1) + (mem'.2.1 - mem.2.1) = mem'.2.1 - mem0.2.1 := by omega
        refine b3 x H locs _ _ _ ls hx hR hH hB (by rw [e1, hRm]; show _ ≤ mo.1 - mem0.1; omega) (by rw [e2, hRm]; show _ ≤ mo.2.1 - mem0.2.1; omega) fun H' locs' ls' hR' hH' hB' => ?_
        rw [e1, e2]
        exact a3 x H' locs' ls' hx hl hRm (Nat.le_trans m1 b1) (Nat.le_trans m2 b2) hR' hH' hB')
      (by
        rintro pc lc st mem v hc rfl rfl
        have b3 := hpc pc lc st mo _ hc
        refine ⟨Nat.le_refl _, Nat.le_refl _, fun x H locs ls hx hl hRm m1 m2 hR hH hB => ?_⟩
        exact b3 x H locs _ _ ls (j_Qc G (.inl v) mo) (fun q => G.2.2.2.1.size ≤ q) hx (fun t ht _ => ⟨rfl, by rw [ht]; exact hR⟩) hB)
      (by
        rintro pc lc st mem k' as' r v mem' hc hC ⟨a1, a2, a3⟩
        obtain ⟨b1, b2, b3⟩ := ih k' as' mem _ mem' hC
        have b4 := hpc pc lc st mem _ hc
        refine ⟨Nat.le_trans b1 a1, Nat.le_trans b2 a2, fun x H locs ls hx hl hRm m1 m2 hR hH hB => ?_⟩
        have e1 : (mem.1 - mem0.1) + (mem'.1 - mem.1) = mem'.1 - mem0.1 := by omega
        have e2 : (mem.2.1 - mem0.2.1) + (mem'.2.1 - mem.2.1) = mem'.2.1 - mem0.2.1 := by omega
        refine b4 d _ mem' x H locs _ _ _ ls (by rw [hl]; exact b3) b1 b2 hx (by rw [hRm]; exact Nat.le_refl _) (by rw [hRm]; exact Nat.le_refl _) hR hH hB (by rw [e1, hRm]; show _ ≤ mo.1 - mem0.1; omega) (by rw [e2, hRm]; show _ ≤ mo.2.1 - mem0.2.1; omega) fun H' locs' hR' hB' => ?_
        rw [e1, e2]
        exact a3 x H' locs' ls hx hl hRm (Nat.le_trans m1 b1) (Nat.le_trans m2 b2) hR' hH hB')
      (by
        rintro pc lc st mem k' as' r z mem' h' hc hC hmem ⟨a1, a2, a3⟩
        obtain ⟨b1, b2, b3⟩ := ih k' as' mem _ mem' hC
        have b4 := hpc pc lc st mem _ hc
        refine ⟨Nat.le_trans b1 a1, Nat.le_trans b2 a2, fun x H locs ls hx hl hRm m1 m2 hR hH hB => ?_⟩
        have e1 : (mem.1 - mem0.1) + (mem'.1 - mem.1) = mem'.1 - mem0.1 := by omega
        have e2 : (mem.2.1 - mem0.2.1) + (mem'.2.1 - mem.2.1) = mem'.2.1 - mem0.2.1 := by omega
        refine b4 d _ mem' x H locs _ _ _ ls (by rw [hl]; exact b3) b1 b2 hx (by rw [hRm]; exact Nat.le_refl _) (by rw [hRm]; exact Nat.le_refl _) hR hH hB (by rw [e1, hRm]; show _ ≤ mo.1 - mem0.1; omega) (by rw [e2, hRm]; show _ ≤ mo.2.1 - mem0.2.1; omega) fun H' locs' hR' hB' => ?_
        intro hex
        rw [e1, e2]
        exact hhn _ hmem x H' locs' _ _ _ ls _ _ hx hex (a3 x H' locs' ls hx hl hRm (Nat.le_trans m1 b1) (Nat.le_trans m2 b2) hR' hH hB'))
      (by
        rintro pc lc st mem k' as' r z hc hC hne rfl
        obtain ⟨b1, b2, b3⟩ := ih k' as' mem _ mo hC
        have b4 := hpc pc lc st mem _ hc
        refine ⟨b1, b2, fun x H locs ls hx hl hRm m1 m2 hR hH hB => ?_⟩
        have e1 : (mem.1 - mem0.1) + (mo.1 - mem.1) = mo.1 - mem0.1 := by omega
        have e2 : (mem.2.1 - mem0.2.1) + (mo.2.1 - mem.2.1) = mo.2.1 - mem0.2.1 := by omega
        refine b4 d _ mo x H locs _ _ _ ls (by rw [hl]; exact b3) b1 b2 hx (by rw [hRm]; exact Nat.le_refl _) (by rw [hRm]; exact Nat.le_refl _) hR hH hB (by rw [e1, hRm]; show _ ≤ mo.1 - mem0.1; omega) (by rw [e2, hRm]; show _ ≤ mo.2.1 - mem0.2.1; omega) fun H' locs' hR' hB' => ?_
        intro hex
        rw [e1, e2]
        obtain ⟨cell, kc, c1, c2, c3, c4⟩ := hex
        intro T hT X
        have htab := hx.2.2.2.2.2.2.2.2.2.2.1
        dsimp only at htab
        rw [hhe hne] at htab
        have hout : ∀ z ∈ (jc x).exceptionTable.toList, covers z pc = false := by
          intro z' hz
          rw [List.map_eq_nil_iff.mp htab] at hz
          cases hz
        obtain ⟨w1, w2, w3, w4, w5⟩ := X.leaveThrown (adr G z.2) (g := F0 (jm x) pc ls (r.map (rn G))) rfl rfl rfl hout hx.2.2.2.2.2.2.2.2.2.1
        refine ⟨_, w1, _, w2, w3, ⟨⟨rfl, ?_⟩, ?_⟩, locs', ⟨w4, w5⟩, hB'⟩
        · have al : (js x).vm.Alike (T.setFrames (.throwing (adr G z.2) :: jb x)).vm := X.warmed.alike
          obtain ⟨k'', hk'', -⟩ := al.2.2 _ _ c4
          exact ⟨cell, k'', by show T.heap[adr G z.2]? = some cell; rw [hT]; exact c1, c2, by rw [al.findClass]; exact c3, hk''⟩
        · show j_R G mo T.heap
          rw [hT]
          exact hR')
      (by
        rintro pc lc st mem z hc h6 hne rfl rfl
        have b4 := hpc pc lc st mem _ hc
        refine ⟨Nat.le_succ _, Nat.le_add_right _ _, fun x H locs ls hx hl hRm m1 m2 hR hH hB => ?_⟩
        have e1 : (mem.1 + 1, mem.2.1 + 6, va_up mem.2.2 mem.1 none).1 - mem0.1 = (mem.1 - mem0.1) + 1 := by show mem.1 + 1 - mem0.1 = _; omega
        have e2 : (mem.1 + 1, mem.2.1 + 6, va_up mem.2.2 mem.1 none).2.1 - mem0.2.1 = (mem.2.1 - mem0.2.1) + 6 := by show mem.2.1 + 6 - mem0.2.1 = _; omega
        rw [e1, e2]
        refine b4 x H locs _ _ ls (j_Qc G (.inr (z, mem.1)) (mem.1 + 1, mem.2.1 + 6, va_up mem.2.2 mem.1 none)) (fun q => G.2.2.2.1.size ≤ q) hx hR hB hH.1 (by rw [hRm]; exact h6) (by rw [hRm]; show _ ≤ 64 * (d + 1); omega)
          (by rw [hRm]; show _ ≤ mem.1 + 1 - mem0.1; omega) (by rw [hRm]; show _ ≤ mem.2.1 + 6 - mem0.2.1; omega) hB (fun t hRt hWt hex => ⟨⟨rfl, hex⟩, hRt⟩))
    obtain ⟨k1, k2, k3⟩ := key
    refine ⟨k1, k2, ?_⟩
    refine MetFree.of_bodyS (code := cc) (maxLocals := nL) (ret := ret) hy ?_ ?_
    · intro args s m hpre hnm
      have hwb : w.before args s = true := atoms_spec (ws := w :: lwg) hpre _ List.mem_cons_self
      rcases hw with ⟨rfl, -⟩ | rfl
      · obtain ⟨meth, c, h1, h2, h3, h4, h5, h6, -, -⟩ := Cond.code_spec hnm hwb
        exact ⟨meth, c, h1, h2, h3, h4, h5, h6⟩
      · obtain ⟨m9, meth, c, hn9, h1, h2, h3, h4, -, h5, h6, -⟩ := Cond.codeWith_spec hwb
        cases hnm.symm.trans hn9
        exact ⟨meth, c, h1, h2, h3, h4, h5, h6⟩
    · intro p e s m args below meth c s₁ B hml hP _
      have hh0 : s₁.heap = s.heap := by rw [B.state]; rfl
      obtain ⟨rfl, hR, hK⟩ := hP
      have hts : ∀ w' ∈ w :: lwg, w'.before (as.map (rn G)).toArray s = true := atoms_spec (ws := w :: lwg) B.pre
      have htab : c.exceptionTable.toList.map (fun h => (h.startPc, h.endPc, h.handlerPc, h.catchType)) = hh := by
        have hwb := hts _ List.mem_cons_self
        rcases hw with ⟨rfl, rfl⟩ | rfl
        · have hno := BodyLoose.noHandlers B hwb
          have : c.exceptionTable = #[] := by simpa using hno
          rw [this]
          rfl
        · obtain ⟨m9, meth', c', hn9, h1, h2, -, -, h5, -⟩ := Cond.codeWith_spec hwb
          cases B.named.symm.trans hn9
          cases B.method.symm.trans h1
          cases (Stand.of_body B).code.symm.trans h2
          exact h5
      have hcx : j_cx G (own, cc, nL, ii, ret, hh) (p, l, e, j_rm (d + 1) mem0 mo, s, m, (as.map (rn G)).toArray, below, meth, c) :=
        ⟨B.exec, B.bytes, hml, by show s.vm.findClass own = _; rw [how]; exact findClass_of_methodNamed B.named, fun w' hw' => hts w' (List.mem_cons_of_mem _ hw'), hK, ⟨by show 1 ≤ d + 1; omega, by show 64 ≤ 64 * (d + 1); omega⟩,
          fun hi => ((name_of_methodNamed B.named B.method).1).trans (hii hi), B.returns, B.notSynchronized, htab, hst e B.admits⟩
      have hH := j_H.entry G as (n := nL) hsc
      have k4 := k3 (p, l, e, j_rm (d + 1) mem0 mo, s, m, (as.map (rn G)).toArray, below, meth, c) s.heap [] _ hcx rfl rfl (Nat.le_refl _) (Nat.le_refl _) hR hH (fun q hq => by cases hq)
      simp only [Nat.sub_self] at k4
      have k5 : W p l e (j_rm (d + 1) mem0 mo) s m (as.map (rn G)).toArray below meth c s.heap [] 0 0 (j_MQ below (j_Qc G o mo) (as.map (rn G)).toArray s (mo.1 - mem0.1) (mo.2.1 - mem0.2.1) (fun q => G.2.2.2.1.size ≤ q)) (entryFrame m (as.map (rn G)).toArray nL) := by
        rw [lg_entry_eq]
        exact k4
      obtain ⟨t, a1, oc, b1, b2, b3, b4⟩ := k5 s₁ hh0 (Stand.of_body B)
      exact ⟨t, oc, a1, b1, b2, b3, b4⟩
end
section
/-! MORE ROWS (own text) -/
section MORE
variable {G : j_G} {tm : Nat → MethodName × Cond} {i : j_I} {pc : Nat}
/-- Object.<init> -/
def j_oi (n : Nat) : j_S := fun lc st mem => match st with
  | .ref _ :: r => bif Nat.ble (j_sc r) 8 then some (.inl (n, lc, r, mem)) else none
  | _ => none
theorem r_objInit {ix : Nat} (hl : Cond.methodLink i.1 ix Lib.objectInit ∈ lwg) (hi : Cond.instanceMethod Lib.objectInit ∈ lwg) (hcd : Cond.code Lib.objectInit ⟨#[0xb1]⟩ 1 none ∈ lwg) (hd : decode i.2.1 pc = .ok (.invokespecial ix, 3)) : j_ok G tm i pc (j_oi (pc + 3)) := by
  intro lc st mem act ha
  unfold j_oi at ha
  split at ha
  next a r =>
    cases hcs : Nat.ble (j_sc r) 8 with
    | false => rw [hcs] at ha; cases ha
    | true =>
      simp only [hcs, cond_true, Option.some.injEq] at ha
      subst ha
      have hsc := Nat.le_of_ble_eq_true hcs
      refine ⟨Nat.le_refl _, Nat.le_refl _, fun x H locs cells slots Q ls hc hR hH hB h1 h2 kk => ?_⟩
      have k1 := kk H locs ls hR hH hB
      simp only [Nat.sub_self, Nat.add_zero] at k1
      obtain ⟨hx, hb, hml, hown, hts, hK, hrm, -⟩ := hc
      exact W.objInit hx hb hown (hts _ hl) (hts _ hi) (hts _ hcd) rfl (by rw [hml]; exact hH.1) rfl hd hrm.1 (by rw [j_sc_rn]; show 2 * 0 + _ + 12 ≤ _; omega) k1
  next => cases ha
/-- jumps by a number -/
def j_jp (f : List Value → Option (Nat × List Value)) : j_S := fun lc st mem => match f st with
  | some (t, r) => some (.inl (t, lc, r, mem))
  | none => none
def f_sw (lo : Int) (tb : List Nat) (df : Nat) (st : List Value) : Option (Nat × List Value) := match st with
  | .int x :: r => some (bif decide (x.toInt < lo) then df else (tb[(x.toInt - lo).toNat]?).getD df, r)
  | _ => none
theorem r_tableswitch {dflt lo hi : Int} {offs : Array Int} {len : Nat} {tb : List Nat} {df : Nat} (hd : decode i.2.1 pc = .ok (.tableswitch dflt lo hi offs, len)) (hdf : (pc : Int) + dflt = (df : Int)) (hlen : lo + (tb.length : Int) = hi + 1)
    (ho : offs.toList.map (fun o => (pc : Int) + o) = tb.map (fun t : Nat => (t : Int))) : j_ok G tm i pc (j_jp (f_sw lo tb df)) := by
  intro lc st mem act ha
  unfold j_jp f_sw at ha
  split at ha
  next t r h =>
    split at h
    next y r' =>
      cases ha
      simp only [Option.some.injEq, Prod.mk.injEq] at h
      obtain ⟨h, rfl⟩ := h
      refine ⟨Nat.le_refl _, Nat.le_refl _, fun x H locs cells slots Q ls hc hR hH hB h1 h2 kk => ?_⟩
      have k1 := kk H locs ls hR hH hB
      simp only [Nat.sub_self, Nat.add_zero] at k1
      by_cases hlo : y.toInt < lo
      · rw [decide_eq_true hlo] at h
        subst h
        exact lv_tableOut hc.1 hc.2.1 hd (Or.inl hlo) hdf k1
      · rw [decide_eq_false hlo] at h
        simp only [cond_false] at h
        cases hq : tb[(y.toInt - lo).toNat]? with
        | none =>
          rw [hq] at h
          have h : df = t := h
          subst h
          have hge : tb.length ≤ (y.toInt - lo).toNat := List.getElem?_eq_none_iff.mp hq
          exact lv_tableOut hc.1 hc.2.1 hd (Or.inr (by omega)) hdf k1
        | some t' =>
          rw [hq] at h
          have h : t' = t := h
          subst h
          have hlt : (y.toInt - lo).toNat < tb.length := (List.getElem?_eq_some_iff.mp hq).1
          have e1 : (tb.map (fun t : Nat => (t : Int)))[(y.toInt - lo).toNat]? = some (t' : Int) := by rw [List.getElem?_map, hq]; rfl
          rw [← ho, List.getElem?_map] at e1
          cases hof : offs.toList[(y.toInt - lo).toNat]? with
          | none => rw [hof] at e1; cases e1
          | some off =>
            rw [hof] at e1
            have e1 : (pc : Int) + off = (t' : Int) := Option.some.inj e1
            exact lv_tableIn hc.1 hc.2.1 hd hlo (by omega) (by rw [← Array.getElem?_toList]; exact hof) e1 k1
    next => cases h
  next => cases ha
/-- the two statics that are read -/
theorem r_getstatic {ix : Nat} {C n ds : String} {a : Nat} (hz : ∀ U, j_K G U → va_Z C n ds (.ref (adr G a)) (fun q => G.2.2.2.1.size ≤ q) U G.2.2.2.1) (hl : Cond.fieldLink i.1 ix C n ds ∈ lwg) (hd : decode i.2.1 pc = .ok (.getstatic ix, 3)) : j_ok G tm i pc (j_st (f_psh (.ref a)) (pc + 3)) := by
  intro lc st mem act ha
  cases ha
  refine ⟨Nat.le_refl _, Nat.le_refl _, fun x H locs cells slots Q ls hc hR hH hB h1 h2 kk => ?_⟩
  have k1 := kk H locs ls hR hH hB
  simp only [Nat.sub_self, Nat.add_zero] at k1
  obtain ⟨hx, hb, hml, hown, hts, hK, -⟩ := hc
  obtain ⟨cf, kf, fi, f, b, cell, g1, g2, g3, g4, g5, g6, g7, g8⟩ := hz _ hK
  exact W.gets hx hb hown (hts _ hl) g1 g2 g3 g4 (by rw [hR.2.2.1 b (Array.getElem?_eq_some_iff.mp g5).1]; exact g5) (fun e => by rw [e] at g6; cases g6) g7 rfl hd k1
theorem z_allowed (U : State) (hK : j_K G U) : va_Z "LevelTables" "ALLOWED" "[I" (.ref (adr G 1)) (fun q => G.2.2.2.1.size ≤ q) U G.2.2.2.1 := hK.2.2.2.2.2.2.1
theorem z_empty (U : State) (hK : j_K G U) : va_Z "java/util/ArrayList" "DEFAULTCAPACITY_EMPTY_ELEMENTDATA" "[Ljava/lang/Object;" (.ref (adr G 2)) (fun q => G.2.2.2.1.size ≤ q) U G.2.2.2.1 := hK.2.2.2.2.2.2.2.1
/-- a cast of an object to its own class, of an array to its own -/
def j_cc (os ars : List Nat) (n : Nat) : j_S := fun lc st mem => match st with
  | .null :: r => some (.inl (n, lc, .null :: r, mem))
  | .ref a :: r => bif (match mem.2.2 a with
      | some (.inr (c, _)) => os.contains c
      | some (.inl (c, _)) => ars.contains c && Nat.ble 4 a
      | none => false) then some (.inl (n, lc, .ref a :: r, mem)) else none
  | _ => none
theorem r_checkcast {os ars : List Nat} {ix : Nat} {nm : String} (hl : Cond.classLink i.1 ix nm ∈ lwg) (ho : ∀ c ∈ os, ∃ (T : u_T) (N : Nat), cls[c]? = some (nm, T, N)) (har : ∀ c ∈ ars, ∃ C, aty[c]? = some (.object C) ∧ "[" ++ (FieldType.object C).toString = nm) (hd : decode i.2.1 pc = .ok (.checkcast ix, 3)) : j_ok G tm i pc (j_cc os ars (pc + 3)) := by
  intro lc st mem act ha
  unfold j_cc at ha
  split at ha
  next r =>
    cases ha
    refine ⟨Nat.le_refl _, Nat.le_refl _, fun x H locs cells slots Q ls hc hR hH hB h1 h2 kk => ?_⟩
    have k1 := kk H locs ls hR hH hB
    simp only [Nat.sub_self, Nat.add_zero] at k1
    exact lv_castN hc.1 hc.2.1 hd k1
  next a r =>
    cases hcs : (match mem.2.2 a with
      | some (.inr (c, _)) => os.contains c
      | some (.inl (c, _)) => ars.contains c && Nat.ble 4 a
      | none => false) with
    | false => rw [hcs] at ha; cases ha
    | true =>
      rw [hcs] at ha
      cases ha
      refine ⟨Nat.le_refl _, Nat.le_refl _, fun x H locs cells slots Q ls hc hR hH hB h1 h2 kk => ?_⟩
      have k1 := kk H locs ls hR hH hB
      simp only [Nat.sub_self, Nat.add_zero] at k1
      obtain ⟨hx, hb, hml, hown, hts, hK, -⟩ := hc
      split at hcs
      next c fs hm =>
        obtain ⟨T, N, e1⟩ := ho c (List.contains_iff_mem.mp hcs)
        obtain ⟨-, -, r0, g1, cell, q1, q2, q3, -⟩ := hR.obj hm
        have hKn := hK.1 c _ e1
        exact va_castS hx hb hown (hts _ hl) hKn.2 ⟨cell, q1, by rw [q3]; rfl, by rw [q2]; exact hKn.2.1⟩ hd k1
      next c v hm =>
        obtain ⟨len, z⟩ := v
        simp only [Bool.and_eq_true, Nat.ble_eq] at hcs
        obtain ⟨C, e1, e2⟩ := har c (List.contains_iff_mem.mp hcs.1)
        obtain ⟨hl4, hcell⟩ := hR.ar4 hm hcs.2
        have hP : va_P G.1 cls [(adr G a, .inl (G.2.1 c, rnq G (len, z)))] H := fun k q h => by
          have hz : k < 1 := (List.getElem?_eq_some_iff.mp h).1
          rw [show k = 0 by omega] at h
          cases h
          show H[adr G a]? = some (vp_cell (G.2.1 c) (rnq G (len, z)))
          rw [j_cell]
          exact hcell
        exact va_castA hx hb hown (hts _ hl) hP 0 rfl (va_nmO (hK.2.1 c _ e1).2 e2) hd k1
      next => cases hcs
  next => cases ha
/-- the class object of Object[]: a constant, and what getClass gives of such an array -/
theorem r_mirror {ix : Nat} (hl : Cond.classLink i.1 ix "[Ljava/lang/Object;" ∈ lwg) (hd : decode i.2.1 pc = .ok (.ldc ix, 2)) : j_ok G tm i pc (j_st (f_psh (.ref 3)) (pc + 2)) :=
  j_ok_st fun st st' h x H locs cells slots Q ls hc k => by
    cases h
    exact va_ldcM hc.1 hc.2.1 hc.2.2.2.1 (hc.2.2.2.2.1 _ hl) hc.2.2.2.2.2.1.2.2.2.2.2.2.2.2.1 hd k
end MORE
end
section
/-! ARRAYS OF REFERENCES, OF BYTES AND BOOLEANS; CONSTRUCTORS OF NEST MATES (own text) -/
section KINDS
variable {G : j_G} {tm : Nat → MethodName × Cond} {i : j_I} {pc : Nat}
/-- what stands nowhere in the code that is reached -/
def j_no : j_S := fun _ _ _ => none
theorem r_no : j_ok G tm i pc j_no := fun _ _ _ _ h => by cases h
def j_alb (n : Nat) : j_S := fun lc st mem => match st with
  | .int a :: .ref b :: r => match mem.2.2 b with
    | some (.inl (k, len, .inl f)) => bif ((k == 2) || (k == 8)) && j_in a len then some (.inl (n, lc, .int (f a.toNatClampNeg) :: r, mem)) else none
    | _ => none
  | _ => none
theorem r_baload2 (hd : decode i.2.1 pc = .ok (.baload, 1)) : j_ok G tm i pc (j_alb (pc + 1)) := by
  intro lc st mem act ha
  unfold j_alb at ha
  split at ha
  next a b r =>
    split at ha
    next k len f hm =>
      cases hcs : ((k == 2) || (k == 8)) && j_in a len with
      | false => rw [hcs] at ha; cases ha
      | true =>
        rw [hcs] at ha
        cases ha
        simp only [Bool.and_eq_true, Bool.or_eq_true, beq_iff_eq] at hcs
        obtain ⟨hk, hin⟩ := hcs
        refine ⟨Nat.le_refl _, Nat.le_refl _, fun x H locs cells slots Q ls hc hR hH hB h1 h2 kk => ?_⟩
        have k1 := kk H locs ls hR hH hB
        simp only [Nat.sub_self, Nat.add_zero] at k1
        rcases hk with rfl | rfl
        · obtain ⟨cell, q1, q2, q3, q4, q5⟩ := hR.arr hc.2.2.2.2.2.1 hm (ty := .byte) rfl
          exact W.bald (v := .int (f a.toNatClampNeg)) hc.1 hc.2.1 q1 q2 q3 (j_in_sz hin q4.1) (by rw [q5 _ (j_in_lt hin)]; rfl) rfl rfl hd k1
        · obtain ⟨cell, q1, q2, q3, q4, q5⟩ := hR.arr hc.2.2.2.2.2.1 hm (ty := .boolean) rfl
          exact W.zald (v := .int (f a.toNatClampNeg)) hc.1 hc.2.1 q1 q2 q3 (j_in_sz hin q4.1) (by rw [q5 _ (j_in_lt hin)]; rfl) rfl rfl hd k1
    next => cases ha
  next => cases ha
def j_nb (k : Nat) (y : Int32) : Int32 := bif k == 2 then vp_nar .byte y else vp_nar .boolean y
def j_abz (n : Nat) : j_S := fun lc st mem => match st with
  | .int y :: .int a :: .ref b :: r => match mem.2.2 b with
    | some (.inl (k, len, .inl f)) => bif ((k == 2) || (k == 8)) && j_in a len && Nat.ble 4 b then some (.inl (n, lc, r, j_set mem b (.inl (k, len, .inl (upd f a.toNatClampNeg (j_nb k y)))))) else none
    | _ => none
  | _ => none
theorem r_bastore2 (hd : decode i.2.1 pc = .ok (.bastore, 1)) : j_ok G tm i pc (j_abz (pc + 1)) := by
  intro lc st mem act ha
  unfold j_abz at ha
  split at ha
  next y a b r =>
    split at ha
    next k len f hm =>
      cases hcs : ((k == 2) || (k == 8)) && j_in a len && Nat.ble 4 b with
      | false => rw [hcs] at ha; cases ha
      | true =>
        rw [hcs] at ha
        cases ha
        simp only [Bool.and_eq_true, Bool.or_eq_true, beq_iff_eq, Nat.ble_eq] at hcs
        obtain ⟨⟨hk, hin⟩, h4⟩ := hcs
        refine ⟨Nat.le_refl _, Nat.le_refl _, fun x H locs cells slots Q ls hc hR hH hB h1 h2 kk => ?_⟩
        obtain ⟨hl, hcell⟩ := hR.ar4 hm h4
        have fin' : ∀ (H' : Heap), H'[adr G b]? = some ((arrV (G.2.1 k) len (j_cn G (.inl f))).setSlot a.toNatClampNeg (.int (j_nb k y))) → H'.size = H.size → (∀ q, q ≠ adr G b → H'[q]? = H[q]?) → j_W x H' (locs ++ [⟨adr G b, a.toNatClampNeg⟩]) cells slots Q (F0 (jm x) (pc + 1) ls (r.map (rn G))) := by
          intro H' z1 z2 z3
          have hat' : va_at G.1 cls (adr G b, rnc G (.inl (k, len, .inl (upd f a.toNatClampNeg (j_nb k y))))) H' := by
            show H'[adr G b]? = some (vp_cell (G.2.1 k) (rnq G (len, .inl (upd f a.toNatClampNeg (j_nb k y)))))
            rw [j_cell, z1, arrV_store]
            congr 2
            funext q
            by_cases hq : q = a.toNatClampNeg
            · subst hq; simp [updV, upd, j_cn]
            · simp [updV, upd, j_cn, hq]
          have k1 := kk H' (locs ++ [⟨adr G b, a.toNatClampNeg⟩]) ls (hR.set h4 hl z2 z3 hat') hH (fun q hq => by
            rcases List.mem_append.mp hq with hq | hq
            · exact hB q hq
            · rw [List.mem_singleton.mp hq]
              show _ ≤ adr G b
              rw [adr_new h4]
              omega)
          simp only [j_set, Nat.sub_self, Nat.add_zero] at k1
          exact k1
        rcases hk with rfl | rfl
        · exact W.bast hc.1 hc.2.1 hcell ((hc.2.2.2.2.2.1.2.1 2 _ rfl).1 len _) (fun q => by cases q) (by rw [arrV_size]; exact j_in_vp hin) rfl rfl hd fin'
        · exact W.zast hc.1 hc.2.1 hcell ((hc.2.2.2.2.2.1.2.1 8 _ rfl).1 len _) (fun q => by cases q) (by rw [arrV_size]; exact j_in_vp hin) rfl rfl hd fin'
    next => cases ha
  next => cases ha
/-- reading a reference -/
def j_alq (n : Nat) : j_S := fun lc st mem => match st with
  | .int a :: .ref b :: r => match mem.2.2 b with
    | some (.inl (k, len, .inr (.inr (.inr (.inr f))))) => bif Nat.ble 3 k && Nat.ble k 7 && j_in a len then some (.inl (n, lc, va_rf (f a.toNatClampNeg) :: r, mem)) else none
    | _ => none
  | _ => none
theorem j_refty {k : Nat} (h3 : 3 ≤ k) (h7 : k ≤ 7) : ∃ ty, aty[k]? = some ty ∧ ty.isReference = true := by
  have : k = 3 ∨ k = 4 ∨ k = 5 ∨ k = 6 ∨ k = 7 := by omega
  rcases this with rfl | rfl | rfl | rfl | rfl <;> exact ⟨_, rfl, rfl⟩
theorem r_aaload2 (hd : decode i.2.1 pc = .ok (.aaload, 1)) : j_ok G tm i pc (j_alq (pc + 1)) := by
  intro lc st mem act ha
  unfold j_alq at ha
  split at ha
  next a b r =>
    split at ha
    next k len f hm =>
      cases hcs : Nat.ble 3 k && Nat.ble k 7 && j_in a len with
      | false => rw [hcs] at ha; cases ha
      | true =>
        rw [hcs] at ha
        cases ha
        simp only [Bool.and_eq_true, Nat.ble_eq] at hcs
        obtain ⟨⟨hk3, hk7⟩, hin⟩ := hcs
        obtain ⟨ty, ht, href⟩ := j_refty hk3 hk7
        refine ⟨Nat.le_refl _, Nat.le_refl _, fun x H locs cells slots Q ls hc hR hH hB h1 h2 kk => ?_⟩
        have k1 := kk H locs ls hR hH hB
        simp only [Nat.sub_self, Nat.add_zero] at k1
        obtain ⟨cell, q1, q2, q3, q4, q5⟩ := hR.arr hc.2.2.2.2.2.1 hm ht
        rw [List.map_cons, rn_rf] at k1
        exact W.aald hc.1 hc.2.1 q1 q2 href q3 (j_in_sz hin q4.1) (by rw [q5 _ (j_in_lt hin)]; rfl) rfl rfl hd k1
    next => cases ha
  next => cases ha
/-- which class an array of references is over -/
def j_el (t : Nat) : String := match t with
  | 3 => "LevelTables$Version"
  | 4 => "LevelTables$Run"
  | 5 => "LevelTables$Level"
  | _ => "java/lang/Object"
theorem j_asg {U : State} {A : Array Value} (hts : ∀ w ∈ lwg, w.before A U = true) (hK : j_K G U) {t k : Nat} {fs : List Value} (h : j_fit t (some (.inr (k, fs))) = true) : ∃ (C : String) (T : u_T) (N : Nat) (kA kC kE : Class) (comp : ClassId) (ty : FieldType), cls[k]? = some (C, T, N) ∧ U.vm.classes[G.2.1 t]? = some kA ∧ kA.kind = .array comp ty ∧ ty.isReference = true ∧ aty[t]? = some ty ∧ U.vm.classes[G.1.1 k]? = some kC ∧ U.vm.classes[comp]? = some kE ∧ U.vm.assignable (G.1.1 k) comp = true := by
  have go : ∀ (C : String) (T : u_T) (N : Nat) (E : String), cls[k]? = some (C, T, N) → aty[t]? = some (.object E) → (∀ a b : ClassId, U.vm.findClass C = some a → U.vm.findClass E = some b → U.vm.assignable a b = true) → ∃ (C : String) (T : u_T) (N : Nat) (kA kC kE : Class) (comp : ClassId) (ty : FieldType), cls[k]? = some (C, T, N) ∧ U.vm.classes[G.2.1 t]? = some kA ∧ kA.kind = .array comp ty ∧ ty.isReference = true ∧ aty[t]? = some ty ∧ U.vm.classes[G.1.1 k]? = some kC ∧ U.vm.classes[comp]? = some kE ∧ U.vm.assignable (G.1.1 k) comp = true := by
    intro C T N E h1 h2 h3
    obtain ⟨kA, comp, r1, r2, r3, -⟩ := (hK.2.1 t _ h2).2
    obtain ⟨hfc, kC, hkC, -⟩ := (hK.1 k _ h1).2
    obtain ⟨kE, hkE, -⟩ := Vm.findClass_spec r3
    exact ⟨C, T, N, kA, kC, kE, comp, _, h1, r1, r2, rfl, h2, hkC, hkE, h3 _ _ hfc r3⟩
  have same : ∀ (C : String) (a b : ClassId), U.vm.findClass C = some a → U.vm.findClass C = some b → U.vm.assignable a b = true := by
    intro C a b h1 h2
    cases h1.symm.trans h2
    exact va_asg _ _
  have word : ∀ (C E : String), Cond.castable C E ∈ lwn → ∀ a b : ClassId, U.vm.findClass C = some a → U.vm.findClass E = some b → U.vm.assignable a b = true := by
    intro C E hw a b h1 h2
    obtain ⟨c0, t0, f1, f2, f3⟩ := Cond.castable_spec (hK.use (A := A) hw)
    cases h1.symm.trans f1
    cases h2.symm.trans f2
    exact f3
  simp only [j_fit, Bool.or_eq_true, Bool.and_eq_true, beq_iff_eq] at h
  rcases h with (((⟨rfl, rfl⟩ | ⟨rfl, rfl⟩) | ⟨rfl, rfl⟩) | ⟨rfl, rfl⟩) | ⟨rfl, rfl⟩
  · exact go _ _ _ _ rfl rfl (same _)
  · exact go _ _ _ _ rfl rfl (word _ _ k_c4)
  · exact go _ _ _ _ rfl rfl (word _ _ k_c5)
  · exact go _ _ _ _ rfl rfl (same _)
  · exact go _ _ _ _ rfl rfl (word _ _ k_c9)
theorem r_aastore2 (hd : decode i.2.1 pc = .ok (.aastore, 1)) : j_ok G tm i pc (j_aq (pc + 1)) := by
  intro lc st mem act ha
  have fin' : ∀ (x : j_X) (H : Heap) (locs : List Loc) (cells slots : Nat) (Q : State → Prop) (ls : Array Slot) (r : List Value) (b k len : Nat) (a : Int32) (f : Nat → Option Nat) (w : Option Nat), j_R G mem H → j_B G locs → 4 ≤ b → b < mem.1 →
      (∀ (H' : Heap) (locs' : List Loc), j_R G (j_set mem b (.inl (k, len, .inr (.inr (.inr (.inr (va_up f a.toNatClampNeg w))))))) H' → j_B G locs' → j_W x H' locs' cells slots Q (F0 (jm x) (pc + 1) ls (r.map (rn G)))) →
      ∀ (H' : Heap), H'[adr G b]? = some ((arrV (G.2.1 k) len (j_cn G (.inr (.inr (.inr (.inr f)))))).setSlot a.toNatClampNeg (va_rf (w.map (adr G)))) → H'.size = H.size → (∀ q, q ≠ adr G b → H'[q]? = H[q]?) → j_W x H' (locs ++ [⟨adr G b, a.toNatClampNeg⟩]) cells slots Q (F0 (jm x) (pc + 1) ls (r.map (rn G))) := by
    intro x H locs cells slots Q ls r b k len a f w hR hB h4 hl kk H' z1 z2 z3
    have hat' : va_at G.1 cls (adr G b, rnc G (.inl (k, len, .inr (.inr (.inr (.inr (va_up f a.toNatClampNeg w))))))) H' := by
      show H'[adr G b]? = some (vp_cell (G.2.1 k) (rnq G (len, .inr (.inr (.inr (.inr (va_up f a.toNatClampNeg w)))))))
      rw [j_cell, z1, arrV_store]
      congr 2
      funext q
      by_cases hq : q = a.toNatClampNeg
      · subst hq; simp [updV, va_up, j_cn]
      · simp [updV, va_up, j_cn, hq]
    exact kk H' _ (hR.set h4 hl z2 z3 hat') (fun q hq => by
      rcases List.mem_append.mp hq with hq | hq
      · exact hB q hq
      · rw [List.mem_singleton.mp hq]
        show _ ≤ adr G b
        rw [adr_new h4]
        omega)
  unfold j_aq at ha
  split at ha
  next v a b r =>
    split at ha
    next k len f hm =>
      cases hcs : j_fit k (mem.2.2 v) && j_in a len && Nat.ble 4 b && Nat.ble 4 v with
      | false => rw [hcs] at ha; cases ha
      | true =>
        rw [hcs] at ha
        cases ha
        simp only [Bool.and_eq_true, Nat.ble_eq] at hcs
        obtain ⟨⟨⟨hfit, hin⟩, h4⟩, hv4⟩ := hcs
        refine ⟨Nat.le_refl _, Nat.le_refl _, fun x H locs cells slots Q ls hc hR hH hB h1 h2 kk => ?_⟩
        obtain ⟨hl, hcell⟩ := hR.ar4 hm h4
        have hkk : ∀ (H' : Heap) (locs' : List Loc), j_R G (j_set mem b (.inl (k, len, .inr (.inr (.inr (.inr (va_up f a.toNatClampNeg (some v)))))))) H' → j_B G locs' → j_W x H' locs' cells slots Q (F0 (jm x) (pc + 1) ls (r.map (rn G))) := by
          intro H' locs' hR' hB'
          have k1 := kk H' locs' ls hR' hH hB'
          simp only [j_set, Nat.sub_self, Nat.add_zero] at k1
          exact k1
        have hlt := j_in_lt hin
        have h0 : ¬ a < 0 := fun q => j_in_vp hin (Or.inl q)
        have hf := fin' x H locs cells slots Q ls r b k len a f (some v) hR hB h4 hl hkk
        cases hmv : mem.2.2 v with
        | none => rw [hmv] at hfit; cases hfit
        | some cv =>
          rw [hmv] at hfit
          cases cv with
          | inr o =>
            obtain ⟨c, fs⟩ := o
            obtain ⟨C, T, N, kA, kC, kE, comp, ty, e1, e2, e3, e4, e5, e6, e7, e8⟩ := j_asg hc.2.2.2.2.1 hc.2.2.2.2.2.1 hfit
            obtain ⟨-, -, r0, g1, cellV, q1, q2, q3, -⟩ := hR.obj hmv
            exact W.aast hc.1 hc.2.1 hcell (fun q h => by cases h) (fun h => by cases h) e2 e3 e4 e7 ⟨h0, by rw [arrV_size]; exact hlt⟩ q1 (fun q h => by rw [q3] at h; cases h) (by rw [q2]; exact e6) (by rw [q2]; exact e8) rfl rfl hd hf
          | inl o =>
            obtain ⟨c, len2, z⟩ := o
            simp only [j_fit, Bool.and_eq_true, beq_iff_eq] at hfit
            obtain ⟨rfl, rfl⟩ := hfit
            obtain ⟨kA, comp, e2, e3, e4⟩ := hc.2.2.2.2.2.1.2.2.2.2.2.2.2.2.2.1
            obtain ⟨-, hcv⟩ := hR.ar4 hmv hv4
            have e5 : (js x).vm.findClass "[J" = some (G.2.1 1) := (hc.2.2.2.2.2.1.2.1 1 .long rfl).2
            cases e4.symm.trans e5
            obtain ⟨kE, hkE, -⟩ := Vm.findClass_spec e4
            exact W.aast hc.1 hc.2.1 hcell (fun q h => by cases h) (fun h => by cases h) e2 e3 rfl hkE ⟨h0, by rw [arrV_size]; exact hlt⟩ hcv (fun q h => by cases h) hkE (va_asg _ _) rfl rfl hd hf
    next => cases ha
  next a b r =>
    split at ha
    next k len f hm =>
      cases hcs : (k == 6) && j_in a len && Nat.ble 4 b with
      | false => rw [hcs] at ha; cases ha
      | true =>
        rw [hcs] at ha
        cases ha
        simp only [Bool.and_eq_true, beq_iff_eq, Nat.ble_eq] at hcs
        obtain ⟨⟨rfl, hin⟩, h4⟩ := hcs
        refine ⟨Nat.le_refl _, Nat.le_refl _, fun x H locs cells slots Q ls hc hR hH hB h1 h2 kk => ?_⟩
        obtain ⟨hl, hcell⟩ := hR.ar4 hm h4
        have hkk : ∀ (H' : Heap) (locs' : List Loc), j_R G (j_set mem b (.inl (6, len, .inr (.inr (.inr (.inr (va_up f a.toNatClampNeg none))))))) H' → j_B G locs' → j_W x H' locs' cells slots Q (F0 (jm x) (pc + 1) ls (r.map (rn G))) := by
          intro H' locs' hR' hB'
          have k1 := kk H' locs' ls hR' hH hB'
          simp only [j_set, Nat.sub_self, Nat.add_zero] at k1
          exact k1
        have hf := fin' x H locs cells slots Q ls r b 6 len a f none hR hB h4 hl hkk
        exact va_WaastN (C := "java/lang/Object") hc.1 hc.2.1 hcell ((hc.2.2.2.2.2.1.2.1 6 _ rfl).1 len _) (fun q => by cases q) (by rw [arrV_size]; exact j_in_vp hin) rfl rfl hd hf
    next => cases ha
  next => cases ha
/-- a new array of references -/
theorem r_anewarray {t ix : Nat} {C : String} (ht : aty[t]? = some (.object C)) (hz : j_ze t = .inr (.inr (.inr (.inr (fun _ => none))))) (hl : Cond.classLink i.1 ix C ∈ lwg) (ho : Cond.arrayOver (.object C) ∈ lwn) (hd : decode i.2.1 pc = .ok (.anewarray ix, 3)) : j_ok G tm i pc (j_na t (pc + 3)) := by
  intro lc st mem act ha
  unfold j_na at ha
  split at ha
  next a r =>
    cases hcs : !(decide (a < 0)) && Nat.ble a.toNatClampNeg 60000000 with
    | false => rw [hcs] at ha; cases ha
    | true =>
      rw [hcs] at ha
      cases ha
      simp only [Bool.and_eq_true, Bool.not_eq_true', decide_eq_false_iff_not, Nat.ble_eq] at hcs
      refine ⟨Nat.le_succ _, Nat.le_add_right _ _, fun x H locs cells slots Q ls hx hR hH hB h1 h2 kk => ?_⟩
      generalize hmm : j_new mem a.toNatClampNeg (some (.inl (t, a.toNatClampNeg, j_ze t))) = mm at h1 h2 kk
      have e1 : mm.1 - mem.1 = 1 := by rw [← hmm]; show mem.1 + 1 - mem.1 = 1; omega
      have e2 : mm.2.1 - mem.2.1 = a.toNatClampNeg := by rw [← hmm]; show mem.2.1 + a.toNatClampNeg - mem.2.1 = _; omega
      rw [e1] at h1 kk
      rw [e2] at h2 kk
      obtain ⟨hex, hb, hml, hown, hts, hK, -⟩ := hx
      refine W.anew hex hb hown (hts _ hl) (hK.use ho) rfl hd rfl hcs.1 (by omega) h1 h2 fun cA kA comp f1 f2 f3 f4 => ?_
      have hcA : G.2.1 t = cA := by
        obtain ⟨-, -, -, -, -, g4⟩ := (hK.2.1 t _ ht).2
        exact Option.some.inj (g4.symm.trans f1)
      have hat : ∀ c0, some (Sum.inl (t, a.toNatClampNeg, j_ze t) : j_C) = some c0 → va_at G.1 cls (adr G mem.1, rnc G c0) (H.push ({ cls := cA, slots := Array.replicate a.toNatClampNeg .null, vm := .none } : Cell)) := by
        intro c0 h0
        cases h0
        show (H.push _)[adr G mem.1]? = some (vp_cell (G.2.1 t) (rnq G (a.toNatClampNeg, j_ze t)))
        rw [j_cell, hR.top, hcA, Array.getElem?_push_size, arrV_new, hz]
        rfl
      have k1 := kk _ locs ls (by rw [← hmm]; exact hR.push (by rw [Array.size_push]) (fun q hq => by rw [Array.getElem?_push, if_neg (Nat.ne_of_lt hq)]) hat) hH hB
      rw [List.map_cons, show rn G (.ref mem.1) = .ref (adr G mem.1) from rfl, hR.top] at k1
      exact k1
  next => cases ha
theorem r_anewarrayJ {ix : Nat} (hl : Cond.classLink i.1 ix "[J" ∈ lwg) (ho : Cond.arrayOver (.array .long) ∈ lwn) (hd : decode i.2.1 pc = .ok (.anewarray ix, 3)) : j_ok G tm i pc (j_na 7 (pc + 3)) := by
  intro lc st mem act ha
  unfold j_na at ha
  split at ha
  next a r =>
    cases hcs : !(decide (a < 0)) && Nat.ble a.toNatClampNeg 60000000 with
    | false => rw [hcs] at ha; cases ha
    | true =>
      rw [hcs] at ha
      cases ha
      simp only [Bool.and_eq_true, Bool.not_eq_true', decide_eq_false_iff_not, Nat.ble_eq] at hcs
      refine ⟨Nat.le_succ _, Nat.le_add_right _ _, fun x H locs cells slots Q ls hx hR hH hB h1 h2 kk => ?_⟩
      generalize hmm : j_new mem a.toNatClampNeg (some (.inl (7, a.toNatClampNeg, j_ze 7))) = mm at h1 h2 kk
      have e1 : mm.1 - mem.1 = 1 := by rw [← hmm]; show mem.1 + 1 - mem.1 = 1; omega
      have e2 : mm.2.1 - mem.2.1 = a.toNatClampNeg := by rw [← hmm]; show mem.2.1 + a.toNatClampNeg - mem.2.1 = _; omega
      rw [e1] at h1 kk
      rw [e2] at h2 kk
      obtain ⟨hex, hb, hml, hown, hts, hK, -⟩ := hx
      refine W.anewA (t := .long) hex hb hown (hts _ hl) (hK.use ho) rfl hd rfl hcs.1 (by omega) h1 h2 fun cA kA comp f1 f2 f3 f4 => ?_
      have hcA : G.2.1 7 = cA := Option.some.inj ((hK.2.1 7 _ rfl).2.symm.trans f1)
      have hat : ∀ c0, some (Sum.inl (7, a.toNatClampNeg, j_ze 7) : j_C) = some c0 → va_at G.1 cls (adr G mem.1, rnc G c0) (H.push ({ cls := cA, slots := Array.replicate a.toNatClampNeg .null, vm := .none } : Cell)) := by
        intro c0 h0
        cases h0
        show (H.push _)[adr G mem.1]? = some (vp_cell (G.2.1 7) (rnq G (a.toNatClampNeg, j_ze 7)))
        rw [j_cell, hR.top, hcA, Array.getElem?_push_size, arrV_new]
        rfl
      have k1 := kk _ locs ls (by rw [← hmm]; exact hR.push (by rw [Array.size_push]) (fun q hq => by rw [Array.getElem?_push, if_neg (Nat.ne_of_lt hq)]) hat) hH hB
      rw [List.map_cons, show rn G (.ref mem.1) = .ref (adr G mem.1) from rfl, hR.top] at k1
      exact k1
  next => cases ha
end KINDS
end
section
/-! constructors of nest mates (own text) -/
section NEST
variable {G : j_G} {tm : Nat → MethodName × Cond} {i : j_I} {pc : Nat}
theorem r_invIN {k ix na : Nat} {host : String} (hl0 : Cond.methodLinkNest i.1 ix (tm k).1 host ∈ lwn) (hin0 : Cond.instanceMethod (tm k).1 ∈ lwg) (hy1 : (tm k).1.name = "<init>") {bytes : ByteArray} {maxL : Nat} (hw0 : (tm k).2 = .code (tm k).1 bytes maxL none) (hcw : j_cwd (tm k).1 (tm k).2) (hnm : (tm k).1.cls ≠ "java/lang/invoke/MethodHandle" ∧ (tm k).1.cls ≠ "java/lang/invoke/VarHandle") (hpar : (parseMethodDescriptor (tm k).1.desc).map (fun d => d.parameters.length) = some na) (hd : decode i.2.1 pc = .ok (.invokespecial ix, 3)) : j_ok G tm i pc (j_ci k na) := by
  intro lc st mem act ha
  unfold j_ci at ha
  split at ha
  next b r hdr =>
        cases hcs : Nat.ble (j_sc r) 8 && ((st.take na).length == na) with
        | false => rw [hcs] at ha; cases ha
        | true =>
          simp only [hcs, cond_true, Option.some.injEq] at ha
          subst ha
          simp only [Bool.and_eq_true, Nat.ble_eq, beq_iff_eq] at hcs
          obtain ⟨hsc, hlen⟩ := hcs
          intro d o mo x H locs cells slots Q ls hM hm1 hm2 hcx hf hl hR hH hB hc hs kk
          obtain ⟨hx, hb, hml, hown, hts, hK, -⟩ := hcx
          intro T0 hT X
          have hpl : (je x).platform.magicAccessors = ({} : Platform).magicAccessors := by rw [X.admits.platform]
          have hsz : ls.size = (jc x).maxLocals := by rw [hml]; exact hH.1
          have hwb : (Cond.code (tm k).1 bytes maxL none).before (ja x) (js x) = true := by rw [← hw0]; exact hts _ hcw.1
          obtain ⟨mk, methM, cM, kP, vm₁, hnamed, hmethM, hcodeM, -, hlocalsM, -, hkP, -, hW₁, hstep₁⟩ := Steps.initColdArgsNest (e := je x) (below := jb x) X.here hx X.warmed hpl hown hy1 hnm (hK.use hl0) (hts _ hin0) hwb (f := F0 (jm x) pc ls (st.map (rn G))) rfl (argsL := (st.take na).reverse.map (rn G)) (a := adr G b) (rest := r.map (rn G))
            (fun sig h => by
              rw [List.length_map, List.length_reverse, hlen]
              rw [h] at hpar
              exact (Option.some.inj hpar).symm) (j_stk hdr) (by rw [hb]; exact hd)
          have X₁ := X.noted hW₁
          obtain ⟨T', locs', X', hB', hR', hend⟩ := j_call (G := G) (x := x) (g := { F0 (jm x) pc ls (st.map (rn G)) with stack := r.map (rn G) }) X₁ hM hts hK hcw (by show j_R G mem T0.heap; rw [hT]; exact hR) hf hl hc hs rfl hsz (by rw [hb]; exact hd) (by rw [j_sc_rn]; show 2 * 0 + _ ≤ _; omega) (X₁.named hnamed) hB
          have k1 := kk T'.heap locs' hR' hB'
          cases o with
          | inl v =>
            obtain ⟨t, a1, b1⟩ := k1 T' rfl X'
            refine ⟨t, hstep₁ _ fun acts => ?_, b1⟩
            rw [doInvoke_state]
            rw [List.map_append] at a1
            exact hend.trans a1
          | inr z =>
            obtain ⟨hend, hcell⟩ := hend
            obtain ⟨t, a1, b1⟩ := k1 hcell T' rfl X'
            refine ⟨t, hstep₁ _ fun acts => ?_, b1⟩
            rw [doInvoke_state]
            exact hend.trans a1
  next => cases ha
end NEST
end
section
/-! Math.min, Math.max (own text) -/
section MATHS
variable {G : j_G} {tm : Nat → MethodName × Cond} {i : j_I} {pc : Nat}
def j_mx (n : Nat) : j_S := fun lc st mem => match st with
  | .int y :: .int x :: r => bif Nat.ble (j_sc r) 8 then some (.inl (n, lc, .int (if x < y then y else x) :: r, mem)) else none
  | _ => none
def j_mn (n : Nat) : j_S := fun lc st mem => match st with
  | .int y :: .int x :: r => bif Nat.ble (j_sc r) 8 then some (.inl (n, lc, .int (if y < x then y else x) :: r, mem)) else none
  | _ => none
theorem r_mmax {ix : Nat} (hl : Cond.methodLink i.1 ix Lib.Math.max.name ∈ lwg) (hs0 : Cond.static Lib.Math.max.name ∈ lwg) (hini : Cond.initialized "java/lang/Math" ∈ lwg) (hcd : Cond.code Lib.Math.max.name Lib.Math.max.code 2 (some .int) ∈ lwg) (hd : decode i.2.1 pc = .ok (.invokestatic ix, 3)) : j_ok G tm i pc (j_mx (pc + 3)) := by
  intro lc st mem act ha
  unfold j_mx at ha
  split at ha
  next y x r =>
    cases hcs : Nat.ble (j_sc r) 8 with
    | false => rw [hcs] at ha; cases ha
    | true =>
      rw [hcs] at ha
      cases ha
      have hsc := Nat.le_of_ble_eq_true hcs
      refine ⟨Nat.le_refl _, Nat.le_refl _, fun x H locs cells slots Q ls hc hR hH hB h1 h2 kk => ?_⟩
      have k1 := kk H locs ls hR hH hB
      simp only [Nat.sub_self, Nat.add_zero] at k1 h1 h2
      obtain ⟨hx, hb, hml, hown, hts, hK, hrm, -⟩ := hc
      exact va_mmax hx hb (by rw [hml]; exact hH.1.symm) hown (hts _ hl) (hts _ hs0) (hts _ hini) (hts _ hcd) hrm.1 (by rw [j_sc_rn]; omega) h1 h2 hd k1
  next => cases ha
theorem r_mmin {ix : Nat} (hl : Cond.methodLink i.1 ix Lib.Math.min.name ∈ lwg) (hs0 : Cond.static Lib.Math.min.name ∈ lwg) (hini : Cond.initialized "java/lang/Math" ∈ lwg) (hcd : Cond.code Lib.Math.min.name Lib.Math.min.code 2 (some .int) ∈ lwg) (hd : decode i.2.1 pc = .ok (.invokestatic ix, 3)) : j_ok G tm i pc (j_mn (pc + 3)) := by
  intro lc st mem act ha
  unfold j_mn at ha
  split at ha
  next y x r =>
    cases hcs : Nat.ble (j_sc r) 8 with
    | false => rw [hcs] at ha; cases ha
    | true =>
      rw [hcs] at ha
      cases ha
      have hsc := Nat.le_of_ble_eq_true hcs
      refine ⟨Nat.le_refl _, Nat.le_refl _, fun x H locs cells slots Q ls hc hR hH hB h1 h2 kk => ?_⟩
      have k1 := kk H locs ls hR hH hB
      simp only [Nat.sub_self, Nat.add_zero] at k1 h1 h2
      obtain ⟨hx, hb, hml, hown, hts, hK, hrm, -⟩ := hc
      exact va_mmin hx hb (by rw [hml]; exact hH.1.symm) hown (hts _ hl) (hts _ hs0) (hts _ hini) (hts _ hcd) hrm.1 (by rw [j_sc_rn]; omega) h1 h2 hd k1
  next => cases ha
end MATHS
end
section
/-! System.arraycopy (own text) -/
abbrev j_Z : Type := (Nat → Int32) ⊕ (Nat → Int64) ⊕ (Nat → UInt32) ⊕ (Nat → UInt64) ⊕ (Nat → Option Nat)
def j_cpw (i : j_I) (ix : Nat) : Prop := Cond.methodLink i.1 ix arraycopyName ∈ lwg ∧ Cond.native arraycopyName ∈ lwg ∧ Cond.static arraycopyName ∈ lwg ∧ Cond.initialized "java/lang/System" ∈ lwg
section COPY
variable {G : j_G} {tm : Nat → MethodName × Cond} {i : j_I} {pc : Nat}
theorem j_nn (z : Int32) (hz : ¬ z < 0) : z.toInt = (z.toNatClampNeg : Int) := by
  have hz0 : (0 : Int) ≤ z.toInt := by
    have := Int32.not_lt.mp hz
    simpa using Int32.le_iff_toInt_le.mp this
  show z.toInt = ((z.toInt.toNat : Nat) : Int)
  omega
theorem j_copy {x : j_X} {H : Heap} {locs : List Loc} {cells slots : Nat} {Q : State → Prop} {ls : Array Slot} {rest : List Value} {mem : j_M} {ix a b k n0 n1 : Nat} {z0 z1 z2 : j_Z} {ty : FieldType} {sp dp n : Int32} (hcx : j_cx G i x) (hR : j_R G mem H) (hls : ls.size = i.2.2.1)
    (hm0 : mem.2.2 a = some (.inl (k, n0, z0))) (hm1 : mem.2.2 b = some (.inl (k, n1, z1))) (h4a : 4 ≤ a) (h4b : 4 ≤ b) (ht : aty[k]? = some ty) (hw : j_cpw i ix) (h1 : ¬ sp < 0) (h2 : ¬ dp < 0) (h3 : ¬ n < 0) (h4 : sp.toNatClampNeg + n.toNatClampNeg ≤ n0) (h5 : dp.toNatClampNeg + n.toNatClampNeg ≤ n1)
    (hz : j_cn G z2 = va_cpy (j_cn G z0) (j_cn G z1) sp.toNatClampNeg dp.toNatClampNeg n.toNatClampNeg)
    (hvals : ∀ (T : State) (vm' : Vm) (comp : ClassId) (kA : Class), T.heap = H → (js x).vm.Alike vm' → (js x).vm.classes[G.2.1 k]? = some kA → kA.kind = .array comp ty → ∀ q, q < n.toNatClampNeg → fits ty (j_cn G z0 (sp.toNatClampNeg + q)) = true ∧ (T.setVm vm').takes comp (j_cn G z0 (sp.toNatClampNeg + q)))
    (hB : j_B G locs) (hsc : (rest.map fun v => v.category).sum ≤ 8) (hd : decode i.2.1 pc = .ok (.invokestatic ix, 3))
    (kk : ∀ (H' : Heap) (locs' : List Loc), j_R G (j_set mem b (.inl (k, n1, z2))) H' → j_B G locs' → j_W x H' locs' cells slots Q (F0 (jm x) (pc + 3) ls rest)) :
    j_W x H locs cells slots Q (F0 (jm x) pc ls (.int n :: .int dp :: .ref (adr G b) :: .int sp :: .ref (adr G a) :: rest)) := by
  obtain ⟨hx, hb, hml, hown, hts, hK, hrm, -⟩ := hcx
  obtain ⟨w1, w2, w3, w4⟩ := hw
  obtain ⟨hl0, hc0⟩ := hR.ar4 hm0 h4a
  obtain ⟨hl1, hc1⟩ := hR.ar4 hm1 h4b
  obtain ⟨-, k0, hk0, cm0, hkk0⟩ := (hK.2.1 k _ ht).1 n0 (j_cn G z0)
  obtain ⟨-, k1, hk1, cm1, hkk1⟩ := (hK.2.1 k _ ht).1 n1 (j_cn G z1)
  have hfw : nativeFrameWords "java/lang/System" "arraycopy" 5 ≤ 40 := by decide
  intro T hT X
  obtain ⟨vm', X', step⟩ := X.arraycopy hx hown (hts _ w1) (hts _ w2) (hts _ w3) (hts _ w4) (src := adr G a) (dst := adr G b) (cs := arrV (G.2.1 k) n0 (j_cn G z0)) (cd := arrV (G.2.1 k) n1 (j_cn G z1)) (srcPos := sp) (destPos := dp) (n := n) (by rw [hT]; exact hc0) (by rw [hT]; exact hc1)
    (fun _ h => by cases h) (fun _ h => by cases h) (fun h => by cases h) (fun h => by cases h) hk0 hk1 hkk0 hkk1 (by simp) h1 h2 h3
    (by rw [j_nn sp h1, j_nn n h3, arrV_size]; omega) (by rw [j_nn dp h2, j_nn n h3, arrV_size]; omega)
    (fun vm₁ hal q hq => by
      have e : (arrV (G.2.1 k) n0 (j_cn G z0)).slots.getD (sp.toNatClampNeg + q) .null = j_cn G z0 (sp.toNatClampNeg + q) := by
        rw [Array.getD_eq_getD_getElem?, arrV_read _ _ (by omega)]
        rfl
      rw [e]
      exact hvals T vm₁ cm1 k1 hT hal hk1 hkk1 q hq)
    (g := F0 (jm x) pc ls (.int n :: .int dp :: .ref (adr G b) :: .int sp :: .ref (adr G a) :: rest)) rfl (by rw [hml]; exact hls) (rest := rest) rfl (by rw [hb]; exact hd) hrm.1 (by show 2 * 0 + _ + _ ≤ _; omega)
  have e1 : copied (arrV (G.2.1 k) n0 (j_cn G z0)) (arrV (G.2.1 k) n1 (j_cn G z1)) sp dp n = arrV (G.2.1 k) n1 (j_cn G z2) := by
    rw [hz]
    exact va_copied (fun v => v) (G.2.1 k) (G.2.1 k) (j_cn G z0) (j_cn G z1) h4
  rw [e1] at X' step
  have hlt : adr G b < H.size := (Array.getElem?_eq_some_iff.mp hc1).1
  have hheap : ((T.setVm vm').setCell (adr G b) (arrV (G.2.1 k) n1 (j_cn G z2))).heap = H.setIfInBounds (adr G b) (arrV (G.2.1 k) n1 (j_cn G z2)) := by rw [← hT]; rfl
  have oq : ∀ q : Nat, q ≠ adr G b → (H.setIfInBounds (adr G b) (arrV (G.2.1 k) n1 (j_cn G z2)))[q]? = H[q]? := fun q hq => by simp [Array.getElem?_setIfInBounds, Ne.symm hq]
  have hat' : va_at G.1 cls (adr G b, rnc G (.inl (k, n1, z2))) (H.setIfInBounds (adr G b) (arrV (G.2.1 k) n1 (j_cn G z2))) := by
    show (H.setIfInBounds (adr G b) _)[adr G b]? = some (vp_cell (G.2.1 k) (rnq G (n1, z2)))
    rw [j_cell]
    simp [Array.getElem?_setIfInBounds, hlt]
  obtain ⟨t, a1, b1⟩ := kk _ _ (hR.set h4b hl1 (by simp) oq hat') (fun q hq => by
      rcases List.mem_append.mp hq with h | h
      · exact hB q h
      · obtain ⟨z, -, hz⟩ := List.mem_map.mp h
        rw [← hz]
        show _ ≤ adr G b
        rw [adr_new h4b]
        omega) _ hheap X'
  exact ⟨t, step t a1, b1⟩
def j_cpk (sp dp n : Int32) (n0 n1 a b : Nat) (r : List Value) : Bool := !(decide (sp < 0)) && !(decide (dp < 0)) && !(decide (n < 0)) && Nat.ble (sp.toNatClampNeg + n.toNatClampNeg) n0 && Nat.ble (dp.toNatClampNeg + n.toNatClampNeg) n1 && Nat.ble 4 a && Nat.ble 4 b && Nat.ble (j_sc r) 8
def j_cpl (n : Nat) : j_S := fun lc st mem => match st with
  | .int c :: .int dp :: .ref b :: .int sp :: .ref a :: r => match mem.2.2 a, mem.2.2 b with
    | some (.inl (k0, n0, .inr (.inl f))), some (.inl (k1, n1, .inr (.inl g))) => bif (k0 == 1) && (k1 == 1) && j_cpk sp dp c n0 n1 a b r then some (.inl (n, lc, r, j_set mem b (.inl (1, n1, .inr (.inl (va_cpy f g sp.toNatClampNeg dp.toNatClampNeg c.toNatClampNeg)))))) else none
    | _, _ => none
  | _ => none
def j_cpi (n : Nat) : j_S := fun lc st mem => match st with
  | .int c :: .int dp :: .ref b :: .int sp :: .ref a :: r => match mem.2.2 a, mem.2.2 b with
    | some (.inl (k0, n0, .inl f)), some (.inl (k1, n1, .inl g)) => bif (k0 == 0) && (k1 == 0) && j_cpk sp dp c n0 n1 a b r then some (.inl (n, lc, r, j_set mem b (.inl (0, n1, .inl (va_cpy f g sp.toNatClampNeg dp.toNatClampNeg c.toNatClampNeg))))) else none
    | _, _ => none
  | _ => none
theorem j_cpk_of {sp dp n : Int32} {n0 n1 a b : Nat} {r : List Value} (h : j_cpk sp dp n n0 n1 a b r = true) : (¬ sp < 0) ∧ (¬ dp < 0) ∧ (¬ n < 0) ∧ sp.toNatClampNeg + n.toNatClampNeg ≤ n0 ∧ dp.toNatClampNeg + n.toNatClampNeg ≤ n1 ∧ 4 ≤ a ∧ 4 ≤ b ∧ j_sc r ≤ 8 := by
  simp only [j_cpk, Bool.and_eq_true, Bool.not_eq_true', decide_eq_false_iff_not, Nat.ble_eq] at h
  obtain ⟨⟨⟨⟨⟨⟨⟨h1, h2⟩, h3⟩, h4⟩, h5⟩, h6⟩, h7⟩, h8⟩ := h
  exact ⟨h1, h2, h3, h4, h5, h6, h7, h8⟩
theorem r_copyl {ix : Nat} (hw : j_cpw i ix) (hd : decode i.2.1 pc = .ok (.invokestatic ix, 3)) : j_ok G tm i pc (j_cpl (pc + 3)) := by
  intro lc st mem act ha
  unfold j_cpl at ha
  split at ha
  next c dp b sp a r =>
    split at ha
    next k0 n0 f k1 n1 g hm0 hm1 =>
      cases hcs : (k0 == 1) && (k1 == 1) && j_cpk sp dp c n0 n1 a b r with
      | false => rw [hcs] at ha; cases ha
      | true =>
        simp only [hcs, cond_true, Option.some.injEq] at ha
        subst ha
        simp only [Bool.and_eq_true, beq_iff_eq] at hcs
        obtain ⟨⟨rfl, rfl⟩, hk⟩ := hcs
        obtain ⟨g1, g2, g3, g4, g5, g6, g7, g8⟩ := j_cpk_of hk
        refine ⟨Nat.le_refl _, Nat.le_refl _, fun x H locs cells slots Q ls hc hR hH hB h1 h2 kk => ?_⟩
        refine j_copy (z2 := .inr (.inl (va_cpy f g sp.toNatClampNeg dp.toNatClampNeg c.toNatClampNeg))) hc hR hH.1 hm0 hm1 g6 g7 (ty := .long) rfl hw g1 g2 g3 g4 g5 ?_ (fun T vm' comp kA _ _ _ _ q hq => ⟨rfl, trivial⟩) hB (by rw [j_sc_rn]; exact g8) hd fun H' locs' hR' hB' => ?_
        · funext q
          show Value.long (va_cpy f g _ _ _ q) = va_cpy (fun j => Value.long (f j)) (fun j => Value.long (g j)) _ _ _ q
          unfold va_cpy
          split <;> rfl
        · have k1 := kk H' locs' ls hR' hH hB'
          simp only [j_set, Nat.sub_self, Nat.add_zero] at k1
          exact k1
    next => cases ha
  next => cases ha
theorem r_copyi {ix : Nat} (hw : j_cpw i ix) (hd : decode i.2.1 pc = .ok (.invokestatic ix, 3)) : j_ok G tm i pc (j_cpi (pc + 3)) := by
  intro lc st mem act ha
  unfold j_cpi at ha
  split at ha
  next c dp b sp a r =>
    split at ha
    next k0 n0 f k1 n1 g hm0 hm1 =>
      cases hcs : (k0 == 0) && (k1 == 0) && j_cpk sp dp c n0 n1 a b r with
      | false => rw [hcs] at ha; cases ha
      | true =>
        simp only [hcs, cond_true, Option.some.injEq] at ha
        subst ha
        simp only [Bool.and_eq_true, beq_iff_eq] at hcs
        obtain ⟨⟨rfl, rfl⟩, hk⟩ := hcs
        obtain ⟨g1, g2, g3, g4, g5, g6, g7, g8⟩ := j_cpk_of hk
        refine ⟨Nat.le_refl _, Nat.le_refl _, fun x H locs cells slots Q ls hc hR hH hB h1 h2 kk => ?_⟩
        refine j_copy (z2 := .inl (va_cpy f g sp.toNatClampNeg dp.toNatClampNeg c.toNatClampNeg)) hc hR hH.1 hm0 hm1 g6 g7 (ty := .int) rfl hw g1 g2 g3 g4 g5 ?_ (fun T vm' comp kA _ _ _ _ q hq => ⟨rfl, trivial⟩) hB (by rw [j_sc_rn]; exact g8) hd fun H' locs' hR' hB' => ?_
        · funext q
          show Value.int (va_cpy f g _ _ _ q) = va_cpy (fun j => Value.int (f j)) (fun j => Value.int (g j)) _ _ _ q
          unfold va_cpy
          split <;> rfl
        · have k1 := kk H' locs' ls hR' hH hB'
          simp only [j_set, Nat.sub_self, Nat.add_zero] at k1
          exact k1
    next => cases ha
  next => cases ha
end COPY
end
section
/-! System.arraycopy of Object[]; getClass of Object[] (own text) -/
section OBJS
variable {G : j_G} {tm : Nat → MethodName × Cond} {i : j_I} {pc : Nat}
def j_allq (mem : j_M) (f : Nat → Option Nat) (sp n : Nat) : Bool := (List.range n).all fun q => match f (sp + q) with
  | none => true
  | some y => j_fit 6 (mem.2.2 y) && Nat.ble 4 y
def j_cpq (n : Nat) : j_S := fun lc st mem => match st with
  | .int c :: .int dp :: .ref b :: .int sp :: .ref a :: r => match mem.2.2 a, mem.2.2 b with
    | some (.inl (k0, n0, .inr (.inr (.inr (.inr f))))), some (.inl (k1, n1, .inr (.inr (.inr (.inr g))))) => bif (k0 == 6) && (k1 == 6) && j_cpk sp dp c n0 n1 a b r && j_allq mem f sp.toNatClampNeg c.toNatClampNeg then some (.inl (n, lc, r, j_set mem b (.inl (6, n1, .inr (.inr (.inr (.inr (va_cpy f g sp.toNatClampNeg dp.toNatClampNeg c.toNatClampNeg)))))))) else none
    | _, _ => none
  | _ => none
theorem r_copyq {ix : Nat} (hw : j_cpw i ix) (hd : decode i.2.1 pc = .ok (.invokestatic ix, 3)) : j_ok G tm i pc (j_cpq (pc + 3)) := by
  intro lc st mem act ha
  unfold j_cpq at ha
  split at ha
  next c dp b sp a r =>
    split at ha
    next k0 n0 f k1 n1 g hm0 hm1 =>
      cases hcs : (k0 == 6) && (k1 == 6) && j_cpk sp dp c n0 n1 a b r && j_allq mem f sp.toNatClampNeg c.toNatClampNeg with
      | false => rw [hcs] at ha; cases ha
      | true =>
        rw [hcs] at ha
        cases ha
        simp only [Bool.and_eq_true, beq_iff_eq] at hcs
        obtain ⟨⟨⟨rfl, rfl⟩, hk⟩, hall⟩ := hcs
        obtain ⟨g1, g2, g3, g4, g5, g6, g7, g8⟩ := j_cpk_of hk
        refine ⟨Nat.le_refl _, Nat.le_refl _, fun x H locs cells slots Q ls hc hR hH hB h1 h2 kk => ?_⟩
        refine j_copy (z2 := .inr (.inr (.inr (.inr (va_cpy f g sp.toNatClampNeg dp.toNatClampNeg c.toNatClampNeg))))) hc hR hH.1 hm0 hm1 g6 g7 (ty := .object "java/lang/Object") rfl hw g1 g2 g3 g4 g5 ?_ (fun T vm' comp kA hT hal hkA hkind q hq => ?_) hB (by rw [j_sc_rn]; exact g8) hd fun H' locs' hR' hB' => ?_
        · funext q
          show va_rf ((va_cpy f g _ _ _ q).map (adr G)) = va_cpy (fun j => va_rf ((f j).map (adr G))) (fun j => va_rf ((g j).map (adr G))) _ _ _ q
          unfold va_cpy
          split <;> rfl
        · show fits _ (va_rf ((f (sp.toNatClampNeg + q)).map (adr G))) = true ∧ (T.setVm vm').takes comp (va_rf ((f (sp.toNatClampNeg + q)).map (adr G)))
          have hq' := List.all_eq_true.mp hall q (List.mem_range.mpr hq)
          cases hf : f (sp.toNatClampNeg + q) with
          | none => exact ⟨rfl, trivial⟩
          | some y =>
            rw [hf] at hq'
            simp only [Bool.and_eq_true, Nat.ble_eq] at hq'
            obtain ⟨hfit, hy4⟩ := hq'
            cases hmy : mem.2.2 y with
            | none => rw [hmy] at hfit; cases hfit
            | some cy =>
              rw [hmy] at hfit
              cases cy with
              | inl o => simp [j_fit] at hfit
              | inr o =>
                obtain ⟨cc, fs⟩ := o
                obtain ⟨C, T0, N, kA', kC, kE, comp', ty, e1, e2, e3, e4, e5, e6, e7, e8⟩ := j_asg hc.2.2.2.2.1 hc.2.2.2.2.2.1 hfit
                obtain ⟨-, -, r0, gg1, cellV, q1, q2, q3, -⟩ := hR.obj hmy
                cases hkA.symm.trans e2
                cases hkind.symm.trans e3
                obtain ⟨kC', hkC', -⟩ := hal.2.2 _ _ e6
                obtain ⟨kE', hkE', -⟩ := hal.2.2 _ _ e7
                refine ⟨rfl, cellV, (show T.heap[adr G y]? = some cellV by rw [hT]; exact q1), (fun z h => by rw [q3] at h; cases h), ⟨kC', by show vm'.classes[cellV.cls]? = some kC'; rw [q2]; exact hkC'⟩, ⟨kE', hkE'⟩, ?_⟩
                show vm'.assignable _ _ = true
                rw [hal.assignable, q2]
                exact e8
        · have k1 := kk H' locs' ls hR' hH hB'
          simp only [j_set, Nat.sub_self, Nat.add_zero] at k1
          exact k1
    next => cases ha
  next => cases ha
def j_gc (n : Nat) : j_S := fun lc st mem => match st with
  | .ref a :: r => match mem.2.2 a with
    | some (.inl (k, _, _)) => bif (k == 6) && Nat.ble 4 a && Nat.ble (j_sc r) 8 then some (.inl (n, lc, .ref 3 :: r, mem)) else none
    | _ => none
  | _ => none
theorem r_getClass {ix : Nat} (hl : Cond.methodLink i.1 ix ⟨"java/lang/Object", "getClass", "()Ljava/lang/Class;"⟩ ∈ lwg) (hdc : Cond.declares ⟨"java/lang/Object", "getClass", "()Ljava/lang/Class;"⟩ ∈ lwn)
    (hsel : Cond.selects "[Ljava/lang/Object;" ⟨"java/lang/Object", "getClass", "()Ljava/lang/Class;"⟩ ⟨"java/lang/Object", "getClass", "()Ljava/lang/Class;"⟩ ∈ lwg) (hi : Cond.instanceMethod ⟨"java/lang/Object", "getClass", "()Ljava/lang/Class;"⟩ ∈ lwg) (hn : Cond.native ⟨"java/lang/Object", "getClass", "()Ljava/lang/Class;"⟩ ∈ lwg) (hd : decode i.2.1 pc = .ok (.invokevirtual ix, 3)) : j_ok G tm i pc (j_gc (pc + 3)) := by
  intro lc st mem act ha
  unfold j_gc at ha
  split at ha
  next a r =>
    split at ha
    next k len z hm =>
      cases hcs : (k == 6) && Nat.ble 4 a && Nat.ble (j_sc r) 8 with
      | false => rw [hcs] at ha; cases ha
      | true =>
        rw [hcs] at ha
        cases ha
        simp only [Bool.and_eq_true, beq_iff_eq, Nat.ble_eq] at hcs
        obtain ⟨⟨rfl, h4⟩, hsc⟩ := hcs
        refine ⟨Nat.le_refl _, Nat.le_refl _, fun x H locs cells slots Q ls hc hR hH hB h1 h2 kk => ?_⟩
        have k1 := kk H locs ls hR hH hB
        simp only [Nat.sub_self, Nat.add_zero] at k1
        obtain ⟨hx, hb, hml, hown, hts, hK, hrm, -⟩ := hc
        obtain ⟨hl4, hcell⟩ := hR.ar4 hm h4
        have e2 := va_nmO (hK.2.1 6 _ rfl).2 (nm := "[Ljava/lang/Object;") rfl
        exact va_getC (C := "[Ljava/lang/Object;") hx hb (by rw [hml]; exact hH.1.symm) hown (hts _ hl) (hK.use hdc) (hts _ hsel) (hts _ hi) (hts _ hn) hK.2.2.2.2.2.2.2.2.1 ⟨_, hcell, rfl, e2⟩ hrm.1 (by rw [j_sc_rn]; omega) hd k1
    next => cases ha
  next => cases ha
end OBJS
end
section
/-! THROWS AND HANDLERS (own text) -/
/-- the walk, begun anew where it stands -/
theorem j_rebase {p : Program} {l : Launch} {e : Env} {R : Room} {s : State} {m : MethodId} {args : Array Value} {below : List Frame} {meth : Method} {c : Code} {T : State} {locs : List Loc} {cells slots : Nat}
    (X : Stand p l e R s m args below meth c T locs cells slots) (hc : cells ≤ R.cells) (hs : slots ≤ R.slots) :
    Stand p l e { R with cells := R.cells - cells, slots := R.slots - slots } (T.setFrames (.invoking m args :: below)) m args below meth c T [] 0 0 := by
  obtain ⟨g₀, hfr⟩ := X.frames_eq
  have hcur : T.cur < T.threads.size := State.cur_lt_of_frames hfr
  obtain ⟨th, hth, -⟩ := State.frames_cons hfr
  have hf' : (T.setFrames (.invoking m args :: below)).frames = .invoking m args :: below := State.frames_setFrames _ hcur
  have hm' : T.vm.method? m = some meth := X.method'
  have hlim : e.platform.stackLimits (T.setFrames (.invoking m args :: below)).me = e.platform.stackLimits s.me := by rw [State.stackLimits_setFrames]; exact X.limits
  have hby : (T.setFrames (.invoking m args :: below)).me.stackBytes = s.me.stackBytes := by rw [State.stackBytes_setFrames]; exact X.bytes
  have hroom : (T.setFrames (.invoking m args :: below)).hasRoom e.platform { R with cells := R.cells - cells, slots := R.slots - slots } = true := by
    have h := X.room
    have hh := X.heapHas (a := R.cells - cells) (b := R.slots - slots) (by omega) (by omega)
    have hb := X.book
    have l1 := State.localsInUse_invoking X.frames X.method X.code
    have l2 := State.localsInUse_invoking (s := T.setFrames (.invoking m args :: below)) hf' hm' X.code
    simp only [State.hasRoom, Bool.and_eq_true, decide_eq_true_eq] at h ⊢
    rw [l2, hf', hlim, hby]
    rw [l1, X.frames] at h
    exact ⟨⟨⟨⟨h.1.1.1.1, h.1.1.1.2⟩, hh.1⟩, hh.2⟩, hb⟩
  have hhears : (T.setFrames (.invoking m args :: below)).hears m below = true := by
    have h := X.hears
    have al := X.warmed.alike
    cases below with
    | nil =>
      simp only [State.hears] at h ⊢
      show (T.vm.method? m).any _ = true
      rw [hm']
      rw [X.method] at h
      exact h
    | cons f r =>
      cases f <;> simp only [State.hears] at h ⊢
      all_goals first
        | rfl
        | (rename_i g; rw [State.code?_eq] at h ⊢; show ((T.vm.method? g.method).bind _ |>.bind _).isSome = true; rw [al.method?]; exact h)
        | (show (T.vm.method? m).any _ = true; rw [hm']; rw [X.method] at h; exact h)
  refine ⟨X.admits, X.cas, X.clock, hf', hroom, hhears, hm', X.code, X.here, X.tail, State.WarmedH.refl (T.setFrames (.invoking m args :: below)), by rw [State.stackLimits_setFrames], by rw [State.stackBytes_setFrames], ?_⟩
  obtain ⟨th', hth', -⟩ := State.frames_cons hf'
  have h := (State.sameButNew.refl (T.setFrames (.invoking m args :: below)) hth').setFrames T.frames (State.cur_lt_of_frames hf')
  have e1 : (T.setFrames (.invoking m args :: below)).setFrames T.frames = T := by rw [State.setFrames_setFrames, State.setFrames_self hth]
  rw [e1] at h
  exact h
/-- the atoms of an exception's making, but its constructor's link -/
def j_xat (E : String) : List Cond := Jvm.Bundle.throwableAtoms ++ Jvm.Bundle.chain0Atoms E ["java/lang/RuntimeException", "java/lang/Exception"] ++
  [.instantiable E 6, .castable E E, .selects E Jvm.Bundle.tFill0 Jvm.Bundle.tFill0, .selects E Jvm.Bundle.tFill Jvm.Bundle.tFill,
   .lays E Jvm.Bundle.tN "cause" "Ljava/lang/Throwable;", .lays E Jvm.Bundle.tN "stackTrace" Jvm.Bundle.steD, .lays E Jvm.Bundle.tN "suppressedExceptions" Jvm.Bundle.listD, .lays E Jvm.Bundle.tN "detailMessage" "Ljava/lang/String;",
   .isRef (.static Jvm.Bundle.tN "UNASSIGNED_STACK" Jvm.Bundle.steD), .isRef (.static Jvm.Bundle.tN "SUPPRESSED_SENTINEL" Jvm.Bundle.listD),
   .fieldLink Jvm.Bundle.tN 198 Jvm.Bundle.tN "backtrace" "Ljava/lang/Object;", .lays Jvm.Bundle.tN Jvm.Bundle.tN "backtrace" "Ljava/lang/Object;", .lays E Jvm.Bundle.tN "backtrace" "Ljava/lang/Object;"]
def j_xok (E : String) : Prop := ∀ a ∈ j_xat E, a ∈ lwg ∨ a ∈ lwn ∨ a = .isRef (.static Jvm.Bundle.tN "UNASSIGNED_STACK" Jvm.Bundle.steD) ∨ a = .isRef (.static Jvm.Bundle.tN "SUPPRESSED_SENTINEL" Jvm.Bundle.listD) ∨ a = .laysStatic Jvm.Bundle.tN "UNASSIGNED_STACK" Jvm.Bundle.steD ∨ a = .laysStatic Jvm.Bundle.tN "SUPPRESSED_SENTINEL" Jvm.Bundle.listD
theorem j_xat_of {own E : String} {ic : Nat} {a : Cond} (h : a ∈ Jvm.Bundle.ownAtoms0 own ic E ["java/lang/RuntimeException", "java/lang/Exception"]) : a = .methodLink own ic (Jvm.Bundle.init0 E) ∨ a ∈ j_xat E := by
  unfold Jvm.Bundle.ownAtoms0 at h
  unfold j_xat
  simp only [List.mem_append, List.mem_cons] at h ⊢
  rcases h with (h | h) | h
  · exact Or.inr (Or.inl (Or.inl h))
  · exact Or.inr (Or.inl (Or.inr h))
  · rcases h with h | h
    · exact Or.inl h
    · exact Or.inr (Or.inr h)
theorem j_isref {C n d : String} {u : Nat} {A : Nat → Prop} {U : State} {args : Array Value} (h : va_Z C n d (.ref u) A U U.heap) : (Cond.isRef (.static C n d)).before args U = true := by
  obtain ⟨cf, kf, fi, f, a, cell, h1, h2, h3, h4, h5, h6, h7, h8⟩ := h
  simp [Cond.before, Cond.holds, Cond.value, Term.eval, State.fieldNamed?, h1, h2, h4, h5, h6, h7]
/-- nothing old has changed -/
theorem j_same_old {s t : State} {k n : Nat} (h : s.sameButNew t [] k n) {q : Nat} (hq : q < s.heap.size) : t.heap[q]? = s.heap[q]? := by
  obtain ⟨-, -, -, -, -, h6⟩ := h
  have hc : s.heap[q]? = some s.heap[q] := Array.getElem?_eq_getElem hq
  obtain ⟨c', g1, g2, g3, g4⟩ := h6 q _ hc
  rw [g1, hc]
  congr 1
  rw [g2]
  have : c'.slots = (s.heap[q]).slots := Array.ext_getElem? (fun i => g4 i (by simp))
  rw [this]
def j_th (cn : Nat) : j_S := fun _ st _ => bif Nat.ble (j_sc st) 8 then some (.inr (.inr (.inr cn))) else none
section THROW
variable {G : j_G} {tm : Nat → MethodName × Cond} {i : j_I} {pc : Nat}
theorem r_throw {cn ix ic : Nat} {E : String} (hE : x_nm cn = E) (hfE : Jvm.Bundle.fit E = true) (hat : j_xok E) (hini : Cond.initialized E ∈ lwg) (hins : Cond.instantiable E 6 ∈ lwg) (hl : Cond.classLink i.1 ix E ∈ lwg) (hm : Cond.methodLink i.1 ic (Jvm.Bundle.init0 E) ∈ lwg) (hno : i.2.2.2.2.2 = [])
    (d0 : decode i.2.1 pc = .ok (.new ix, 3)) (d1 : decode i.2.1 (pc + 3) = .ok (.dup, 1)) (d2 : decode i.2.1 (pc + 4) = .ok (.invokespecial ic, 3)) (d3 : decode i.2.1 (pc + 7) = .ok (.athrow, 1)) : j_ok G tm i pc (j_th cn) := by
  intro lc st mem act ha
  unfold j_th at ha
  cases hcs : Nat.ble (j_sc st) 8 with
  | false => rw [hcs] at ha; cases ha
  | true =>
    rw [hcs] at ha
    cases ha
    have hsc := Nat.le_of_ble_eq_true hcs
    intro x H locs cells slots ls Qc free hc hR hB hls hf6 hl384 hc1 hs6 hfree hq
    obtain ⟨hx, hb, hml, hown, hts, hK, hrm, -, hret, hlk, htab, hstr⟩ := hc
    intro T hT X
    have X0 := j_rebase X (by omega) (by omega)
    generalize hs' : T.setFrames (.invoking (jm x) (ja x) :: jb x) = s' at X0
    have hvm' : s'.vm = T.vm := by rw [← hs']; rfl
    have hheap' : s'.heap = T.heap := by rw [← hs']; rfl
    have hWs : (js x).WarmedH s'.vm := by rw [hvm']; exact X.warmed
    have hts' : ∀ w ∈ lwg, w.before (ja x) s' = true := fun w hw => j_wd_at hWs hw (hts w hw)
    have hK' : j_K G s' := hK.moved hWs
    have hown' : s'.vm.findClass i.1 = some (jm x).cls := by rw [hWs.alike.findClass]; exact hown
    have hH' : ∀ q : Nat, q < G.2.2.2.1.size → ¬ (fun q => G.2.2.2.1.size ≤ q) q → s'.heap[q]? = G.2.2.2.1[q]? := fun q hq _ => by rw [hheap', hT]; exact hR.2.2.1 q hq
    have hatoms : ∀ a ∈ Jvm.Bundle.ownAtoms0 i.1 ic E ["java/lang/RuntimeException", "java/lang/Exception"], a.before (ja x) s' = true := by
      intro a ha
      rcases j_xat_of ha with rfl | ha
      · exact hts' _ hm
      · rcases hat a ha with h | h | rfl | rfl | rfl | rfl
        · exact hts' _ h
        · exact hK'.use h
        · obtain ⟨⟨u, hu⟩, -⟩ := hK'.2.2.2.2.2.2.2.2.2.2.1
          exact j_isref (hu.kept hH')
        · obtain ⟨⟨u, hu⟩, -⟩ := hK'.2.2.2.2.2.2.2.2.2.2.2.1
          exact j_isref (hu.kept hH')
        · exact hK'.2.2.2.2.2.2.2.2.2.2.1.2.use (fun q hq => hH' q hq (by omega))
        · exact hK'.2.2.2.2.2.2.2.2.2.2.2.1.2.use (fun q hq => hH' q hq (by omega))
    obtain ⟨cE, kE, hfc, hkE, -⟩ := Cond.instantiable_spec (hts' _ hins)
    have w : W (jp x) (jl x) (je x) { jR x with cells := (jR x).cells - cells, slots := (jR x).slots - slots } s' (jm x) (ja x) (jb x) (jt x) (jc x) T.heap [] 0 0
        (fun t => t.status = .running ∧ Ended t (jb x) (.threw T.heap.size) ∧ s'.WarmedH t.vm ∧ s'.sameButNew ({ t with vm := s'.vm } : State) [] 1 6 ∧ ∃ ce, t.heap[T.heap.size]? = some ce ∧ Jvm.Bundle.OwnCell (ja x) s' E T.heap.size .null ce) (F0 (jm x) pc ls (st.map (rn G))) := by
      refine W.newcK hx hb hown' (hts' _ hl) (hts' _ hins) (hts' _ hini) rfl d0 (by show 0 + 1 ≤ (jR x).cells - cells; omega) (by show 0 + 6 ≤ (jR x).slots - slots; omega) hfc rfl fun H1 kC hkC z1 z2 z3 => ?_
      refine lv_dup hx hb d1 rfl ?_
      intro T2 hT2 X2
      obtain ⟨U, u1, u2, u3, u4, u5, ce, u6, u7⟩ := X2.ctorThrow0 (W := T2) hx hstr hown' hfE (names := ["java/lang/RuntimeException", "java/lang/Exception"]) (by decide +kernel) hatoms (fun y hy => by cases hy) (a := T.heap.size) hfc hkC (by rw [hT2]; exact z1) (by rw [hheap']; exact Nat.le_refl _)
        (g := F0 (jm x) (pc + 3 + 1) ls (.ref T.heap.size :: .ref T.heap.size :: st.map (rn G))) rfl (by rw [hml]; exact hls) rfl rfl rfl (by rw [hb]; exact d2) (by rw [hb]; exact d3) (by
          rw [hno] at htab
          intro z hz
          rw [List.map_eq_nil_iff.mp htab] at hz
          cases hz) (by show 2 + 3 < (jR x).frames; omega) (by
          have e := j_sc_rn G st
          show 2 * 0 + (1 + ((st.map (rn G)).map fun v => v.category).sum) + _ ≤ (jR x).locals
          rw [e]
          show _ + (13 * (2 + 1) + 41) ≤ _
          omega) hlk
      exact ⟨U, u1, u2, u3, u4, u5, ce, u6, u7⟩
    obtain ⟨t, a1, b1, b2, b3, b4, ce, b5, b6⟩ := w T rfl X0
    have htop : adr G mem.1 = T.heap.size := by rw [hT]; exact hR.top
    have hW2 : T.WarmedH t.vm := by rw [← hs'] at b3; exact b3
    have hWt : (js x).WarmedH t.vm := State.WarmedH.trans X.warmed hW2
    have hsame : T.sameButNew ({ t with vm := T.vm } : State) [] 1 6 := by
      rw [← hs'] at b4
      obtain ⟨e1, r⟩ := b4
      refine ⟨?_, r⟩
      rw [State.setFrames_setFrames] at e1
      exact e1
    have hold : ∀ q : Nat, q < H.size → t.heap[q]? = H[q]? := fun q hq => by
      have := j_same_old hsame (q := q) (by rw [hT]; exact hq)
      rw [← hT]
      exact this
    have hsz : t.heap.size = H.size + 1 := by
      have g1 : t.heap.size ≤ T.heap.size + 1 := hsame.2.2.1
      have g2 : T.heap.size < t.heap.size := (Array.getElem?_eq_some_iff.mp b5).1
      rw [hT] at g1 g2
      omega
    have hRt : j_R G (mem.1 + 1, mem.2.1 + 6, va_up mem.2.2 mem.1 none) t.heap := hR.push (n := 6) (oc := none) hsz hold (fun c h => by cases h)
    refine ⟨t, a1, .threw (adr G mem.1), b1, by rw [htop]; exact b2, hq t hRt hWt ?_, locs, ⟨hWt, ?_⟩, hfree⟩
    · have hcl := b6.cls
      have al : s'.vm.Alike t.vm := b3.alike
      obtain ⟨k', hk', -⟩ := Vm.findClass_spec (show t.vm.findClass E = some ce.cls by rw [al.findClass]; exact hcl)
      exact ⟨ce, k', by rw [htop]; exact b5, (fun z h => by rw [b6.vm] at h; cases h), by rw [hE, al.findClass]; exact hcl, hk'⟩
    · have h2 := X.same.trans (hsame.setVm (js x).vm)
      rw [List.append_nil] at h2
      exact h2
end THROW
end
section
/-! HANDLERS (own text): a row of the table is passed, or takes the exception; its class may be linked there for the first time -/
def j_fnd (e : Env) (s : State) (f : JFrame) (a : Addr) (pc : Nat) (vm' : Vm) : Prop :=
  ∀ (Q : Handler → Pre) (E : CtlPost) (d : Bool) (acts : List Action), wp (findHandler f a) Q E e d acts s ↔ Q (.found pc) d acts (s.setVm vm')
theorem j_go_row {Q : Handler → Pre} {E : CtlPost} {e : Env} {d : Bool} {acts : List Action} {s : State} {f : JFrame} {a : Addr} {x : ExceptionTableEntry} {t : List ExceptionTableEntry} {c : ClassId} {cell : Cell} (hx : covers x f.pc = true) (h0 : x.catchType ≠ 0)
    (hl : s.vm.ClassLinks e.platform f.method.cls x.catchType c) (hcell : s.heap[a]? = some cell) (hobj : ∀ k, cell.vm ≠ .statics k) (hk : ∃ k, s.vm.classes[cell.cls]? = some k) (hc : ∃ k, s.vm.classes[c]? = some k) :
    wp (findHandler.go f a (x :: t)) Q E e d acts s ↔ if s.vm.assignable cell.cls c = true then Q (.found x.handlerPc) d acts (s.setVm (s.vm.noted f.method.cls x.catchType (.cls c))) else wp (findHandler.go f a t) Q E e d acts (s.setVm (s.vm.noted f.method.cls x.catchType (.cls c))) := by
  simp only [covers] at hx
  obtain ⟨g1, g2⟩ := (resolveClass_links e.toSetting hl).op (op := VmOp.resolveClass f.method.cls x.catchType) rfl
  have al : s.vm.Alike (s.vm.noted f.method.cls x.catchType (.cls c)) := (Vm.Alike.refl s.vm).noted _ _ _
  obtain ⟨k1, hk1⟩ := hk
  obtain ⟨k2, hk2⟩ := hc
  obtain ⟨k3, hk3, -⟩ := al.2.2 _ _ hk1
  obtain ⟨k4, hk4, -⟩ := al.2.2 _ _ hk2
  have ha := al.assignable
  cases hfit : s.vm.assignable cell.cls c <;>
    simp [findHandler.go, hx, h0, g1, g2, hcell, hobj, hk3, hk4, ha, hfit, VmOp.dirties, VmOp.acts]
theorem j_step_catch {e : Env} {s : State} {a : Addr} {f : JFrame} {r : List Frame} {pc : Nat} {vm' : Vm} (hfind : j_fnd e s f a pc vm') :
    (stepThrowing e s a (.java f :: r)).Is ((s.setVm vm').setFrames (.java { f with pc := pc, stack := [.ref a] } :: r)) [] := by
  simp only [stepThrowing, searchFrame, vmDo]
  generalize hr : Sem.go _ e false [] s = res
  obtain ⟨as, rfl, ha⟩ := Sem.eq_ok_of hr (a := Handler.found pc) (s' := s.setVm vm') (acts' := []) (by simp [hfind _ _ _ _])
  exact ⟨rfl, ha⟩
theorem j_caught {tb : Tables} {e : Env} {s target : State} {g : JFrame} {c : Code} {below : List Frame} {a : Addr} (h : At s g.method c below) {pc : Nat} {vm' : Vm} (hfind : j_fnd e ((s.setTop g).pushFrame (.throwing a)) g a pc vm')
    (hrest : Steps tb e below ((s.setVm vm').setTop { g with pc := pc, stack := [.ref a] }) target) : Steps tb e below ((s.setTop g).pushFrame (.throwing a)) target := by
  obtain ⟨hgo, hw⟩ := h.throwing a
  refine Steps.head hgo hw ?_
  rw [stepThread_throwing (frames_entered h.top _), (j_step_catch (s := (s.setTop g).pushFrame (.throwing a)) hfind).1]
  obtain ⟨g₀, hg⟩ := Option.isSome_iff_exists.mp h.top
  obtain ⟨r, hr⟩ := State.topJava?_eq_some.mp hg
  have hr' : (s.setVm vm').frames = .java g₀ :: r := hr
  rw [State.setTop_of_frames _ hr'] at hrest
  rw [State.pushFrame, State.setTop_of_frames _ hr]
  have e1 : ((((s.setFrames (.java g :: r)).setFrames (.throwing a :: (s.setFrames (.java g :: r)).frames)).setVm vm').setFrames (.java { g with pc := pc, stack := [.ref a] } :: s.frames.tail)) = (s.setVm vm').setFrames (.java { g with pc := pc, stack := [.ref a] } :: r) := by
    show (((s.setVm vm').setFrames _).setFrames _).setFrames _ = _
    rw [State.setFrames_setFrames, State.setFrames_setFrames, hr]
    rfl
  rw [e1]
  exact hrest
/-- the search through the rows: those that are passed (not over the pc, or of another class), then the one that takes it -/
def j_pss (pl : Platform) (s₀ : State) (d : ClassId) (pc : Nat) (thrown : ClassId) (y : ExceptionTableEntry) : Prop := covers y pc = false ∨ (y.catchType ≠ 0 ∧ ∃ c, s₀.vm.ClassLinks pl d y.catchType c ∧ s₀.vm.assignable thrown c = false)
theorem j_search {e : Env} {s₀ : State} {f : JFrame} {a : Addr} {cell : Cell} (hobj : ∀ k, cell.vm ≠ .statics k) (hk0 : ∃ k, s₀.vm.classes[cell.cls]? = some k) (x : ExceptionTableEntry) (rest : List ExceptionTableEntry) (hx : covers x f.pc = true) (h0 : x.catchType ≠ 0) {c : ClassId} (hl : s₀.vm.ClassLinks e.platform f.method.cls x.catchType c) (hfit : s₀.vm.assignable cell.cls c = true) :
    ∀ (pre : List ExceptionTableEntry) (S : State), s₀.WarmedH S.vm → S.heap[a]? = some cell → (∀ y ∈ pre, j_pss e.platform s₀ f.method.cls f.pc cell.cls y) →
      ∃ vm', s₀.WarmedH vm' ∧ ∀ (Q : Handler → Pre) (E : CtlPost) (d : Bool) (acts : List Action), wp (findHandler.go f a (pre ++ x :: rest)) Q E e d acts S ↔ Q (.found x.handlerPc) d acts (S.setVm vm') := by
  obtain ⟨k0, hk0⟩ := hk0
  have row : ∀ (S : State) (y : ExceptionTableEntry) (c : ClassId), s₀.WarmedH S.vm → s₀.vm.ClassLinks e.platform f.method.cls y.catchType c → s₀.WarmedH (S.vm.noted f.method.cls y.catchType (.cls c)) ∧ S.vm.ClassLinks e.platform f.method.cls y.catchType c ∧ (∃ k, S.vm.classes[cell.cls]? = some k) ∧ (∃ k, S.vm.classes[c]? = some k) ∧ S.vm.assignable cell.cls c = s₀.vm.assignable cell.cls c := by
    intro S y c hW hl
    obtain ⟨dk, _, _, kt, hd, _, _, _, _, hkt, _, hopen⟩ := hl.here
    obtain ⟨k1, hk1, -⟩ := hW.alike.2.2 _ _ hk0
    obtain ⟨k2, hk2, -⟩ := hW.alike.2.2 _ _ hkt
    exact ⟨hW.noted hd hopen (State.rightAt_cls hl), hW.classLinks hl, ⟨k1, hk1⟩, ⟨k2, hk2⟩, by rw [hW.alike.assignable]⟩
  intro pre
  induction pre with
  | nil =>
    intro S hW hcell _
    obtain ⟨r1, r2, r3, r4, r5⟩ := row S x c hW hl
    exact ⟨_, r1, fun Q E d acts => by rw [List.nil_append, j_go_row hx h0 r2 hcell hobj r3 r4, r5, if_pos hfit]⟩
  | cons y ys ih =>
    intro S hW hcell hpass
    have hrest : ∀ z ∈ ys, j_pss e.platform s₀ f.method.cls f.pc cell.cls z := fun z hz => hpass z (List.mem_cons_of_mem _ hz)
    cases hcov : covers y f.pc with
    | false =>
      obtain ⟨vm', w1, w2⟩ := ih S hW hcell hrest
      exact ⟨vm', w1, fun Q E d acts => by rw [List.cons_append, W.findHandler_go_skip hcov]; exact w2 Q E d acts⟩
    | true =>
      rcases hpass y List.mem_cons_self with h | ⟨h1, c', hl', hno⟩
      · rw [h] at hcov; cases hcov
      · obtain ⟨r1, r2, r3, r4, r5⟩ := row S y c' hW hl'
        obtain ⟨vm', w1, w2⟩ := ih (S.setVm (S.vm.noted f.method.cls y.catchType (.cls c'))) r1 hcell hrest
        exact ⟨vm', w1, fun Q E d acts => by
          rw [List.cons_append, j_go_row hcov h1 r2 hcell hobj r3 r4, r5, if_neg (by rw [hno]; decide)]
          exact w2 Q E d acts⟩
/-- a handler out of the words: the rows ahead of it (pc range, where to, the class that the entry names), then its own -/
theorem r_catch {G : j_G} {i : j_I} {pc cn h : Nat} {pre suf : List (Nat × Nat × Nat × Nat)} {y : Nat × Nat × Nat × Nat} (hsplit : i.2.2.2.2.2 = pre ++ y :: suf) (hin : (decide (y.1 ≤ pc) && decide (pc < y.2.1)) = true) (hh : y.2.2.1 = h) (h0 : y.2.2.2 ≠ 0)
    (hl : Cond.classLink i.1 y.2.2.2 (x_nm cn) ∈ lwg) (hcast : Cond.castable (x_nm cn) (x_nm cn) ∈ lwn) (hpre : ∀ z ∈ pre, z.2.2.2 ≠ 0 ∧ ∃ nm, Cond.classLink i.1 z.2.2.2 nm ∈ lwg ∧ (x_nm cn, nm) ∈ xnc) : j_hok G i (pc, cn, h) := by
  intro x H locs cells slots Q ls rest a hcx hex k
  obtain ⟨hx, hb, hml, hown, hts, hK, hrm, -, hret, hlk, htab, hstr⟩ := hcx
  obtain ⟨cell, kc, c1, c2, c3, c4⟩ := hex
  intro T hT X
  have hpl : (je x).platform.magicAccessors = ({} : Platform).magicAccessors := by rw [X.admits.platform]
  rw [hsplit] at htab
  obtain ⟨pr, rs, e1, e2, e3⟩ := List.map_eq_append_iff.mp htab
  obtain ⟨xr, sf, e4, e5, e6⟩ := List.map_eq_cons_iff.mp e3
  subst e4
  have f1 : covers xr pc = true := by
    have : (decide (xr.startPc ≤ pc) && decide (pc < xr.endPc)) = true := by
      have g1 : y.1 = xr.startPc := by rw [← e5]
      have g2 : y.2.1 = xr.endPc := by rw [← e5]
      rw [← g1, ← g2]
      exact hin
    simpa [covers] using this
  have f2 : xr.catchType = y.2.2.2 := by rw [← e5]
  have f3 : xr.handlerPc = h := by rw [← hh, ← e5]
  obtain ⟨cl, hcl, hlink⟩ := Cond.classLink_spec hown (hts _ hl) (je x).platform hpl
  cases hcl.symm.trans c3
  rw [← f2] at hlink
  obtain ⟨vm', w1, w2⟩ := j_search (e := je x) (s₀ := js x) (f := F0 (jm x) pc ls rest) (a := a) (cell := cell) c2 ⟨kc, c4⟩ xr sf f1 (by rw [f2]; exact h0) hlink (va_asg _ _) pr ((T.setTop (F0 (jm x) pc ls rest)).pushFrame (.throwing a)) (by rw [Stand.throwing_vm]; exact X.warmed) (by rw [Stand.throwing_heap, hT]; exact c1)
    (fun z hz => by
      have hz' : (z.startPc, z.endPc, z.handlerPc, z.catchType) ∈ pre := by rw [← e2]; exact List.mem_map.mpr ⟨z, hz, rfl⟩
      obtain ⟨g0, nm, g1, g2⟩ := hpre _ hz'
      obtain ⟨c6, hc6, hcl6⟩ := Cond.classLink_spec hown (hts _ g1) (je x).platform hpl
      obtain ⟨a8, b8, n1, n2, n3⟩ := hK.2.2.2.2.2.2.2.2.2.2.2.2.2 _ g2
      cases n1.symm.trans c3
      cases n2.symm.trans hc6
      exact Or.inr ⟨g0, _, hcl6, n3⟩)
  have X' := X.noted w1
  obtain ⟨t, a1, b1⟩ := k (T.setVm vm') hT X'
  refine ⟨t, j_caught X.here (pc := h) (vm' := vm') (fun Q E d acts => ?_) a1, b1⟩
  rw [W.findHandler_eq (meth := jt x) (code := jc x) (by rw [Stand.throwing_vm]; exact X.method') X.code, e1, ← f3]
  exact w2 Q E d acts
end
