section
-- ===== PART A: goes FIRST, ahead of the names: the tables' words, and 'selects' of the private methods out of them =====
/-- a private method of a class that the tables say can be made, by its rows of tables_1 -/
def lw_okq (q : MethodName × Nat) : Prop := (q.1.cls ≠ "java/lang/invoke/MethodHandle" ∧ q.1.cls ≠ "java/lang/invoke/VarHandle") ∧ Cond.instantiable q.1.cls q.2 ∈ tables_1 ∧ Cond.privateMethod q.1 ∈ tables_1 ∧ Cond.instanceMethod q.1 ∈ tables_1
theorem lw_p0 : lw_okq (⟨"LevelTables", "writeOut", "()V"⟩, 16) := ⟨⟨by decide +kernel, by decide +kernel⟩, List.mem_of_getElem? (i := 36) (by decide +kernel), List.mem_of_getElem? (i := 292) (by decide +kernel), List.mem_of_getElem? (i := 293) (by decide +kernel)⟩
theorem lw_p1 : lw_okq (⟨"LevelTables$Level", "tableWith", "(I)I"⟩, 4) := ⟨⟨by decide +kernel, by decide +kernel⟩, List.mem_of_getElem? (i := 134) (by decide +kernel), List.mem_of_getElem? (i := 342) (by decide +kernel), List.mem_of_getElem? (i := 343) (by decide +kernel)⟩
theorem lw_p2 : lw_okq (⟨"LevelTables$Chip", "hasRow", "(II)Z"⟩, 5) := ⟨⟨by decide +kernel, by decide +kernel⟩, List.mem_of_getElem? (i := 75) (by decide +kernel), List.mem_of_getElem? (i := 377) (by decide +kernel), List.mem_of_getElem? (i := 378) (by decide +kernel)⟩
theorem lw_p3 : lw_okq (⟨"LevelTables", "writeNeeded", "(I)V"⟩, 16) := ⟨⟨by decide +kernel, by decide +kernel⟩, List.mem_of_getElem? (i := 36) (by decide +kernel), List.mem_of_getElem? (i := 415) (by decide +kernel), List.mem_of_getElem? (i := 416) (by decide +kernel)⟩
theorem lw_p4 : lw_okq (⟨"LevelTables$Walk", "takeNext", "()Z"⟩, 8) := ⟨⟨by decide +kernel, by decide +kernel⟩, List.mem_of_getElem? (i := 177) (by decide +kernel), List.mem_of_getElem? (i := 431) (by decide +kernel), List.mem_of_getElem? (i := 432) (by decide +kernel)⟩
theorem lw_p5 : lw_okq (⟨"LevelTables", "nextMoment", "(LLevelTables$Version;I)I"⟩, 16) := ⟨⟨by decide +kernel, by decide +kernel⟩, List.mem_of_getElem? (i := 36) (by decide +kernel), List.mem_of_getElem? (i := 455) (by decide +kernel), List.mem_of_getElem? (i := 456) (by decide +kernel)⟩
theorem lw_p6 : lw_okq (⟨"LevelTables", "hasSomething", "(LLevelTables$Version;II)Z"⟩, 16) := ⟨⟨by decide +kernel, by decide +kernel⟩, List.mem_of_getElem? (i := 36) (by decide +kernel), List.mem_of_getElem? (i := 470) (by decide +kernel), List.mem_of_getElem? (i := 471) (by decide +kernel)⟩
theorem lw_p7 : lw_okq (⟨"java/util/ArrayList", "add", "(Ljava/lang/Object;[Ljava/lang/Object;I)V"⟩, 3) := ⟨⟨by decide +kernel, by decide +kernel⟩, List.mem_of_getElem? (i := 140) (by decide +kernel), List.mem_of_getElem? (i := 523) (by decide +kernel), List.mem_of_getElem? (i := 524) (by decide +kernel)⟩
theorem lw_p8 : lw_okq (⟨"java/util/ArrayList", "grow", "()[Ljava/lang/Object;"⟩, 3) := ⟨⟨by decide +kernel, by decide +kernel⟩, List.mem_of_getElem? (i := 140) (by decide +kernel), List.mem_of_getElem? (i := 527) (by decide +kernel), List.mem_of_getElem? (i := 528) (by decide +kernel)⟩
theorem lw_p9 : lw_okq (⟨"java/util/ArrayList", "grow", "(I)[Ljava/lang/Object;"⟩, 3) := ⟨⟨by decide +kernel, by decide +kernel⟩, List.mem_of_getElem? (i := 140) (by decide +kernel), List.mem_of_getElem? (i := 531) (by decide +kernel), List.mem_of_getElem? (i := 532) (by decide +kernel)⟩
theorem lw_p10 : lw_okq (⟨"LevelTables$Chip", "erase", "(I)V"⟩, 5) := ⟨⟨by decide +kernel, by decide +kernel⟩, List.mem_of_getElem? (i := 75) (by decide +kernel), List.mem_of_getElem? (i := 582) (by decide +kernel), List.mem_of_getElem? (i := 583) (by decide +kernel)⟩
theorem lw_p11 : lw_okq (⟨"java/util/ArrayList", "fastRemove", "([Ljava/lang/Object;I)V"⟩, 3) := ⟨⟨by decide +kernel, by decide +kernel⟩, List.mem_of_getElem? (i := 140) (by decide +kernel), List.mem_of_getElem? (i := 617) (by decide +kernel), List.mem_of_getElem? (i := 618) (by decide +kernel)⟩
theorem lw_p12 : lw_okq (⟨"LevelTables$Level", "renumber", "()V"⟩, 4) := ⟨⟨by decide +kernel, by decide +kernel⟩, List.mem_of_getElem? (i := 134) (by decide +kernel), List.mem_of_getElem? (i := 622) (by decide +kernel), List.mem_of_getElem? (i := 623) (by decide +kernel)⟩
theorem lw_p13 : lw_okq (⟨"java/util/ArrayList", "rangeCheckForAdd", "(I)V"⟩, 3) := ⟨⟨by decide +kernel, by decide +kernel⟩, List.mem_of_getElem? (i := 140) (by decide +kernel), List.mem_of_getElem? (i := 646) (by decide +kernel), List.mem_of_getElem? (i := 647) (by decide +kernel)⟩
theorem lw_p14 : lw_okq (⟨"java/lang/Throwable", "fillInStackTrace", "(I)Ljava/lang/Throwable;"⟩, 6) := ⟨⟨by decide +kernel, by decide +kernel⟩, List.mem_of_getElem? (i := 689) (by decide +kernel), List.mem_of_getElem? (i := 687) (by decide +kernel), List.mem_of_getElem? (i := 688) (by decide +kernel)⟩
theorem lw_p15 : lw_okq (⟨"java/util/ArrayList", "outOfBoundsMsg", "(I)Ljava/lang/String;"⟩, 3) := ⟨⟨by decide +kernel, by decide +kernel⟩, List.mem_of_getElem? (i := 140) (by decide +kernel), List.mem_of_getElem? (i := 692) (by decide +kernel), List.mem_of_getElem? (i := 693) (by decide +kernel)⟩
def lw_privs_1 : List (MethodName × Nat) := [(⟨"LevelTables", "writeOut", "()V"⟩, 16), (⟨"LevelTables$Level", "tableWith", "(I)I"⟩, 4), (⟨"LevelTables$Chip", "hasRow", "(II)Z"⟩, 5), (⟨"LevelTables", "writeNeeded", "(I)V"⟩, 16), (⟨"LevelTables$Walk", "takeNext", "()Z"⟩, 8), (⟨"LevelTables", "nextMoment", "(LLevelTables$Version;I)I"⟩, 16), (⟨"LevelTables", "hasSomething", "(LLevelTables$Version;II)Z"⟩, 16), (⟨"java/util/ArrayList", "add", "(Ljava/lang/Object;[Ljava/lang/Object;I)V"⟩, 3), (⟨"java/util/ArrayList", "grow", "()[Ljava/lang/Object;"⟩, 3), (⟨"java/util/ArrayList", "grow", "(I)[Ljava/lang/Object;"⟩, 3), (⟨"LevelTables$Chip", "erase", "(I)V"⟩, 5), (⟨"java/util/ArrayList", "fastRemove", "([Ljava/lang/Object;I)V"⟩, 3), (⟨"LevelTables$Level", "renumber", "()V"⟩, 4), (⟨"java/util/ArrayList", "rangeCheckForAdd", "(I)V"⟩, 3), (⟨"java/lang/Throwable", "fillInStackTrace", "(I)Ljava/lang/Throwable;"⟩, 6), (⟨"java/util/ArrayList", "outOfBoundsMsg", "(I)Ljava/lang/String;"⟩, 3)]
theorem lw_r1 : ∀ q ∈ lw_privs_1, lw_okq q := List.forall_mem_cons.mpr ⟨lw_p0, List.forall_mem_cons.mpr ⟨lw_p1, List.forall_mem_cons.mpr ⟨lw_p2, List.forall_mem_cons.mpr ⟨lw_p3, List.forall_mem_cons.mpr ⟨lw_p4, List.forall_mem_cons.mpr ⟨lw_p5, List.forall_mem_cons.mpr ⟨lw_p6, List.forall_mem_cons.mpr ⟨lw_p7, List.forall_mem_cons.mpr ⟨lw_p8, List.forall_mem_cons.mpr ⟨lw_p9, List.forall_mem_cons.mpr ⟨lw_p10, List.forall_mem_cons.mpr ⟨lw_p11, List.forall_mem_cons.mpr ⟨lw_p12, List.forall_mem_cons.mpr ⟨lw_p13, List.forall_mem_cons.mpr ⟨lw_p14, List.forall_mem_cons.mpr ⟨lw_p15, fun _ h => absurd h List.not_mem_nil⟩⟩⟩⟩⟩⟩⟩⟩⟩⟩⟩⟩⟩⟩⟩⟩
theorem lw_p16 : lw_okq (⟨"LevelTables", "pushDown", "(I)V"⟩, 16) := ⟨⟨by decide +kernel, by decide +kernel⟩, List.mem_of_getElem? (i := 36) (by decide +kernel), List.mem_of_getElem? (i := 973) (by decide +kernel), List.mem_of_getElem? (i := 974) (by decide +kernel)⟩
theorem lw_p17 : lw_okq (⟨"LevelTables", "mergeAll", "()V"⟩, 16) := ⟨⟨by decide +kernel, by decide +kernel⟩, List.mem_of_getElem? (i := 36) (by decide +kernel), List.mem_of_getElem? (i := 982) (by decide +kernel), List.mem_of_getElem? (i := 983) (by decide +kernel)⟩
theorem lw_p18 : lw_okq (⟨"LevelTables", "isSound", "()Z"⟩, 16) := ⟨⟨by decide +kernel, by decide +kernel⟩, List.mem_of_getElem? (i := 36) (by decide +kernel), List.mem_of_getElem? (i := 991) (by decide +kernel), List.mem_of_getElem? (i := 992) (by decide +kernel)⟩
theorem lw_p19 : lw_okq (⟨"LevelTables$Level", "isWhole", "(LLevelTables$Table;LLevelTables$Version;LLevelTables$Version;)Z"⟩, 4) := ⟨⟨by decide +kernel, by decide +kernel⟩, List.mem_of_getElem? (i := 134) (by decide +kernel), List.mem_of_getElem? (i := 1014) (by decide +kernel), List.mem_of_getElem? (i := 1015) (by decide +kernel)⟩
theorem lw_p20 : lw_okq (⟨"LevelTables", "countLiving", "()I"⟩, 16) := ⟨⟨by decide +kernel, by decide +kernel⟩, List.mem_of_getElem? (i := 36) (by decide +kernel), List.mem_of_getElem? (i := 1029) (by decide +kernel), List.mem_of_getElem? (i := 1030) (by decide +kernel)⟩
theorem lw_p21 : lw_okq (⟨"LevelTables", "addVersion", "(ZII)I"⟩, 16) := ⟨⟨by decide +kernel, by decide +kernel⟩, List.mem_of_getElem? (i := 36) (by decide +kernel), List.mem_of_getElem? (i := 1098) (by decide +kernel), List.mem_of_getElem? (i := 1099) (by decide +kernel)⟩
theorem lw_p22 : lw_okq (⟨"LevelTables", "readTapeFor", "(I)I"⟩, 16) := ⟨⟨by decide +kernel, by decide +kernel⟩, List.mem_of_getElem? (i := 36) (by decide +kernel), List.mem_of_getElem? (i := 1180) (by decide +kernel), List.mem_of_getElem? (i := 1181) (by decide +kernel)⟩
theorem lw_p23 : lw_okq (⟨"LevelTables", "show", "(Z)I"⟩, 16) := ⟨⟨by decide +kernel, by decide +kernel⟩, List.mem_of_getElem? (i := 36) (by decide +kernel), List.mem_of_getElem? (i := 1184) (by decide +kernel), List.mem_of_getElem? (i := 1185) (by decide +kernel)⟩
theorem lw_p24 : lw_okq (⟨"LevelTables", "reachSomething", "(I)Z"⟩, 16) := ⟨⟨by decide +kernel, by decide +kernel⟩, List.mem_of_getElem? (i := 36) (by decide +kernel), List.mem_of_getElem? (i := 1215) (by decide +kernel), List.mem_of_getElem? (i := 1216) (by decide +kernel)⟩
theorem lw_p25 : lw_okq (⟨"LevelTables$Version", "byteAt", "(I)J"⟩, 1) := ⟨⟨by decide +kernel, by decide +kernel⟩, List.mem_of_getElem? (i := 108) (by decide +kernel), List.mem_of_getElem? (i := 1242) (by decide +kernel), List.mem_of_getElem? (i := 1243) (by decide +kernel)⟩
theorem lw_p26 : lw_okq (⟨"LevelTablesModel", "fail", "(I)I"⟩, 12) := ⟨⟨by decide +kernel, by decide +kernel⟩, List.mem_of_getElem? (i := 1246) (by decide +kernel), List.mem_of_getElem? (i := 1298) (by decide +kernel), List.mem_of_getElem? (i := 1299) (by decide +kernel)⟩
theorem lw_p27 : lw_okq (⟨"LevelTablesModel", "keyed", "()Z"⟩, 12) := ⟨⟨by decide +kernel, by decide +kernel⟩, List.mem_of_getElem? (i := 1246) (by decide +kernel), List.mem_of_getElem? (i := 1310) (by decide +kernel), List.mem_of_getElem? (i := 1311) (by decide +kernel)⟩
theorem lw_p28 : lw_okq (⟨"LevelTablesModel", "enter", "(II)I"⟩, 12) := ⟨⟨by decide +kernel, by decide +kernel⟩, List.mem_of_getElem? (i := 1246) (by decide +kernel), List.mem_of_getElem? (i := 1314) (by decide +kernel), List.mem_of_getElem? (i := 1315) (by decide +kernel)⟩
theorem lw_p29 : lw_okq (⟨"LevelTablesModel", "compareTape", "(II)I"⟩, 12) := ⟨⟨by decide +kernel, by decide +kernel⟩, List.mem_of_getElem? (i := 1246) (by decide +kernel), List.mem_of_getElem? (i := 1318) (by decide +kernel), List.mem_of_getElem? (i := 1319) (by decide +kernel)⟩
theorem lw_p30 : lw_okq (⟨"LevelTablesModel", "compare", "(II)I"⟩, 12) := ⟨⟨by decide +kernel, by decide +kernel⟩, List.mem_of_getElem? (i := 1246) (by decide +kernel), List.mem_of_getElem? (i := 1342) (by decide +kernel), List.mem_of_getElem? (i := 1343) (by decide +kernel)⟩
theorem lw_p31 : lw_okq (⟨"LevelTablesModel", "stands", "(II)Z"⟩, 12) := ⟨⟨by decide +kernel, by decide +kernel⟩, List.mem_of_getElem? (i := 1246) (by decide +kernel), List.mem_of_getElem? (i := 1346) (by decide +kernel), List.mem_of_getElem? (i := 1347) (by decide +kernel)⟩
def lw_privs_2 : List (MethodName × Nat) := [(⟨"LevelTables", "pushDown", "(I)V"⟩, 16), (⟨"LevelTables", "mergeAll", "()V"⟩, 16), (⟨"LevelTables", "isSound", "()Z"⟩, 16), (⟨"LevelTables$Level", "isWhole", "(LLevelTables$Table;LLevelTables$Version;LLevelTables$Version;)Z"⟩, 4), (⟨"LevelTables", "countLiving", "()I"⟩, 16), (⟨"LevelTables", "addVersion", "(ZII)I"⟩, 16), (⟨"LevelTables", "readTapeFor", "(I)I"⟩, 16), (⟨"LevelTables", "show", "(Z)I"⟩, 16), (⟨"LevelTables", "reachSomething", "(I)Z"⟩, 16), (⟨"LevelTables$Version", "byteAt", "(I)J"⟩, 1), (⟨"LevelTablesModel", "fail", "(I)I"⟩, 12), (⟨"LevelTablesModel", "keyed", "()Z"⟩, 12), (⟨"LevelTablesModel", "enter", "(II)I"⟩, 12), (⟨"LevelTablesModel", "compareTape", "(II)I"⟩, 12), (⟨"LevelTablesModel", "compare", "(II)I"⟩, 12), (⟨"LevelTablesModel", "stands", "(II)Z"⟩, 12)]
theorem lw_r2 : ∀ q ∈ lw_privs_2, lw_okq q := List.forall_mem_cons.mpr ⟨lw_p16, List.forall_mem_cons.mpr ⟨lw_p17, List.forall_mem_cons.mpr ⟨lw_p18, List.forall_mem_cons.mpr ⟨lw_p19, List.forall_mem_cons.mpr ⟨lw_p20, List.forall_mem_cons.mpr ⟨lw_p21, List.forall_mem_cons.mpr ⟨lw_p22, List.forall_mem_cons.mpr ⟨lw_p23, List.forall_mem_cons.mpr ⟨lw_p24, List.forall_mem_cons.mpr ⟨lw_p25, List.forall_mem_cons.mpr ⟨lw_p26, List.forall_mem_cons.mpr ⟨lw_p27, List.forall_mem_cons.mpr ⟨lw_p28, List.forall_mem_cons.mpr ⟨lw_p29, List.forall_mem_cons.mpr ⟨lw_p30, List.forall_mem_cons.mpr ⟨lw_p31, fun _ h => absurd h List.not_mem_nil⟩⟩⟩⟩⟩⟩⟩⟩⟩⟩⟩⟩⟩⟩⟩⟩
theorem lw_p32 : lw_okq (⟨"LevelTablesModel", "present", "()I"⟩, 12) := ⟨⟨by decide +kernel, by decide +kernel⟩, List.mem_of_getElem? (i := 1246) (by decide +kernel), List.mem_of_getElem? (i := 1363) (by decide +kernel), List.mem_of_getElem? (i := 1364) (by decide +kernel)⟩
def lw_privs_3 : List (MethodName × Nat) := [(⟨"LevelTablesModel", "present", "()I"⟩, 12)]
theorem lw_r3 : ∀ q ∈ lw_privs_3, lw_okq q := List.forall_mem_cons.mpr ⟨lw_p32, fun _ h => absurd h List.not_mem_nil⟩
def lw_privs : List (MethodName × Nat) := lw_privs_1 ++ (lw_privs_2 ++ (lw_privs_3))
def lw_tbl : List Cond := k2_sels lw_privs ++ tables_1
theorem lw_privs_ok : ∀ q ∈ lw_privs, lw_okq q := by
  show ∀ q ∈ lw_privs_1 ++ (lw_privs_2 ++ (lw_privs_3)), lw_okq q
  exact List.forall_mem_append.mpr ⟨lw_r1, List.forall_mem_append.mpr ⟨lw_r2, lw_r3⟩⟩
end
section
/-! names: classes, fields, methods (written by wip/whole/gen.py out of the claim) -/
def lwg : List Cond := lw_tbl.filter goodWord
theorem lwg_of {w : Cond} (h : w ∈ tables_1) (g : goodWord w = true) : w ∈ lwg := List.mem_filter.mpr ⟨List.mem_append_right _ h, g⟩
theorem lwg_sel {q : MethodName × Nat} (h : q ∈ lw_privs) (g : goodWord (Cond.selects q.1.cls q.1 q.1) = true) : Cond.selects q.1.cls q.1 q.1 ∈ lwg := List.mem_filter.mpr ⟨List.mem_append_left _ (List.mem_map.mpr ⟨q, h, rfl⟩), g⟩
theorem lwg_all : ∀ w ∈ lwg, goodWord w = true := fun _ h => (List.mem_filter.mp h).2
theorem lwg_tbl : ∀ w ∈ lwg, w ∈ lw_tbl := fun _ h => (List.mem_filter.mp h).1
def j_all {α : Type} (P : α → Prop) : List α → Prop
  | [] => True
  | a :: r => P a ∧ j_all P r
theorem j_all_mem {α : Type} {P : α → Prop} : ∀ {l : List α}, j_all P l → ∀ a ∈ l, P a
  | [], _, a, h => by cases h
  | b :: r, h, a, ha => by
    rcases List.mem_cons.mp ha with rfl | ha
    · exact h.1
    · exact j_all_mem h.2 a ha
def R_LT : String := "LevelTables"
def F_LT : u_T := fun k => match k with
  | 0 => ("LevelTables", "isShown", "Z", false)
  | 1 => ("LevelTables", "living", "I", false)
  | 2 => ("LevelTables", "tape", "LLevelTables$Tape;", true)
  | 3 => ("LevelTables", "views", "LLevelTables$Views;", true)
  | 4 => ("LevelTables", "chip", "LLevelTables$Chip;", true)
  | 5 => ("LevelTables", "memory", "LLevelTables$Memory;", true)
  | 6 => ("LevelTables", "levels", "[LLevelTables$Level;", true)
  | 7 => ("LevelTables", "runs", "[LLevelTables$Run;", true)
  | 8 => ("LevelTables", "walk", "LLevelTables$Walk;", true)
  | 9 => ("LevelTables", "writer", "LLevelTables$Writer;", true)
  | 10 => ("LevelTables", "key", "LLevelTables$Version;", true)
  | 11 => ("LevelTables", "target", "LLevelTables$Version;", true)
  | 12 => ("LevelTables", "found", "LLevelTables$Version;", true)
  | 13 => ("LevelTables", "low", "LLevelTables$Version;", true)
  | 14 => ("LevelTables", "high", "LLevelTables$Version;", true)
  | _ => ("LevelTables", "shown", "LLevelTables$Version;", true)
def t_LT : Nat → FieldType := fun k => match k with
  | 0 => .boolean
  | 1 => .int
  | 2 => .object "LevelTables$Tape"
  | 3 => .object "LevelTables$Views"
  | 4 => .object "LevelTables$Chip"
  | 5 => .object "LevelTables$Memory"
  | 6 => .array (.object "LevelTables$Level")
  | 7 => .array (.object "LevelTables$Run")
  | 8 => .object "LevelTables$Walk"
  | 9 => .object "LevelTables$Writer"
  | 10 => .object "LevelTables$Version"
  | 11 => .object "LevelTables$Version"
  | 12 => .object "LevelTables$Version"
  | 13 => .object "LevelTables$Version"
  | 14 => .object "LevelTables$Version"
  | _ => .object "LevelTables$Version"
theorem n_LT : ∀ a, a < 16 → ∀ b, b < 16 → a ≠ b → (F_LT a).2.1 ≠ (F_LT b).2.1 := by decide +kernel
theorem t_LT_ok : ∀ k, k < 16 → parseFieldDescriptor (F_LT k).2.2.1 = some (t_LT k) := by decide +kernel
def R_Tp : String := "LevelTables$Tape"
def F_Tp : u_T := fun k => match k with
  | 0 => ("LevelTables$Tape", "length", "I", false)
  | _ => ("LevelTables$Tape", "bytes", "[B", true)
def t_Tp : Nat → FieldType := fun k => match k with
  | 0 => .int
  | _ => .array .byte
theorem n_Tp : ∀ a, a < 2 → ∀ b, b < 2 → a ≠ b → (F_Tp a).2.1 ≠ (F_Tp b).2.1 := by decide +kernel
theorem t_Tp_ok : ∀ k, k < 2 → parseFieldDescriptor (F_Tp k).2.2.1 = some (t_Tp k) := by decide +kernel
def R_Vi : String := "LevelTables$Views"
def F_Vi : u_T := fun k => match k with
  | 0 => ("LevelTables$Views", "present", "I", false)
  | _ => ("LevelTables$Views", "moments", "[I", true)
def t_Vi : Nat → FieldType := fun k => match k with
  | 0 => .int
  | _ => .array .int
theorem n_Vi : ∀ a, a < 2 → ∀ b, b < 2 → a ≠ b → (F_Vi a).2.1 ≠ (F_Vi b).2.1 := by decide +kernel
theorem t_Vi_ok : ∀ k, k < 2 → parseFieldDescriptor (F_Vi k).2.2.1 = some (t_Vi k) := by decide +kernel
def R_Ch : String := "LevelTables$Chip"
def F_Ch : u_T := fun k => match k with
  | 0 => ("LevelTables$Chip", "misused", "Z", false)
  | 1 => ("LevelTables$Chip", "blocks", "[[J", true)
  | 2 => ("LevelTables$Chip", "written", "[I", true)
  | 3 => ("LevelTables$Chip", "taken", "[I", true)
  | _ => ("LevelTables$Chip", "uses", "[I", true)
def t_Ch : Nat → FieldType := fun k => match k with
  | 0 => .boolean
  | 1 => .array (.array .long)
  | 2 => .array .int
  | 3 => .array .int
  | _ => .array .int
theorem n_Ch : ∀ a, a < 5 → ∀ b, b < 5 → a ≠ b → (F_Ch a).2.1 ≠ (F_Ch b).2.1 := by decide +kernel
theorem t_Ch_ok : ∀ k, k < 5 → parseFieldDescriptor (F_Ch k).2.2.1 = some (t_Ch k) := by decide +kernel
def R_Me : String := "LevelTables$Memory"
def F_Me : u_T := fun k => match k with
  | 0 => ("LevelTables$Run", "middle", "LLevelTables$Version;", true)
  | 1 => ("LevelTables$Memory", "count", "I", false)
  | _ => ("LevelTables$Memory", "rows", "[J", true)
def t_Me : Nat → FieldType := fun k => match k with
  | 0 => .object "LevelTables$Version"
  | 1 => .int
  | _ => .array .long
theorem n_Me : ∀ a, a < 3 → ∀ b, b < 3 → a ≠ b → (F_Me a).2.1 ≠ (F_Me b).2.1 := by decide +kernel
theorem t_Me_ok : ∀ k, k < 3 → parseFieldDescriptor (F_Me k).2.2.1 = some (t_Me k) := by decide +kernel
def R_Lv : String := "LevelTables$Level"
def F_Lv : u_T := fun k => match k with
  | 0 => ("LevelTables$Run", "middle", "LLevelTables$Version;", true)
  | 1 => ("LevelTables$Level", "count", "I", false)
  | 2 => ("LevelTables$Level", "chip", "LLevelTables$Chip;", true)
  | _ => ("LevelTables$Level", "tables", "Ljava/util/ArrayList;", true)
def t_Lv : Nat → FieldType := fun k => match k with
  | 0 => .object "LevelTables$Version"
  | 1 => .int
  | 2 => .object "LevelTables$Chip"
  | _ => .object "java/util/ArrayList"
theorem n_Lv : ∀ a, a < 4 → ∀ b, b < 4 → a ≠ b → (F_Lv a).2.1 ≠ (F_Lv b).2.1 := by decide +kernel
theorem t_Lv_ok : ∀ k, k < 4 → parseFieldDescriptor (F_Lv k).2.2.1 = some (t_Lv k) := by decide +kernel
def R_Wk : String := "LevelTables$Walk"
def F_Wk : u_T := fun k => match k with
  | 0 => ("LevelTables$Walk", "hasNext", "Z", false)
  | 1 => ("LevelTables$Walk", "until", "I", false)
  | 2 => ("LevelTables$Walk", "runs", "[LLevelTables$Run;", true)
  | 3 => ("LevelTables$Walk", "at", "[I", true)
  | 4 => ("LevelTables$Walk", "stop", "[I", true)
  | 5 => ("LevelTables$Walk", "heads", "[LLevelTables$Version;", true)
  | 6 => ("LevelTables$Walk", "version", "LLevelTables$Version;", true)
  | _ => ("LevelTables$Walk", "next", "LLevelTables$Version;", true)
def t_Wk : Nat → FieldType := fun k => match k with
  | 0 => .boolean
  | 1 => .int
  | 2 => .array (.object "LevelTables$Run")
  | 3 => .array .int
  | 4 => .array .int
  | 5 => .array (.object "LevelTables$Version")
  | 6 => .object "LevelTables$Version"
  | _ => .object "LevelTables$Version"
theorem n_Wk : ∀ a, a < 8 → ∀ b, b < 8 → a ≠ b → (F_Wk a).2.1 ≠ (F_Wk b).2.1 := by decide +kernel
theorem t_Wk_ok : ∀ k, k < 8 → parseFieldDescriptor (F_Wk k).2.2.1 = some (t_Wk k) := by decide +kernel
def R_Wr : String := "LevelTables$Writer"
def F_Wr : u_T := fun k => match k with
  | 0 => ("LevelTables$Writer", "count", "I", false)
  | 1 => ("LevelTables$Writer", "sum", "J", false)
  | 2 => ("LevelTables$Writer", "chip", "LLevelTables$Chip;", true)
  | 3 => ("LevelTables$Writer", "tables", "Ljava/util/ArrayList;", true)
  | _ => ("LevelTables$Writer", "blocks", "[I", true)
def t_Wr : Nat → FieldType := fun k => match k with
  | 0 => .int
  | 1 => .long
  | 2 => .object "LevelTables$Chip"
  | 3 => .object "java/util/ArrayList"
  | _ => .array .int
theorem n_Wr : ∀ a, a < 5 → ∀ b, b < 5 → a ≠ b → (F_Wr a).2.1 ≠ (F_Wr b).2.1 := by decide +kernel
theorem t_Wr_ok : ∀ k, k < 5 → parseFieldDescriptor (F_Wr k).2.2.1 = some (t_Wr k) := by decide +kernel
def R_Ve : String := "LevelTables$Version"
def F_Ve : u_T := fun k => match k with
  | _ => ("LevelTables$Version", "words", "[J", true)
def t_Ve : Nat → FieldType := fun k => match k with
  | _ => .array .long
theorem n_Ve : ∀ a, a < 1 → ∀ b, b < 1 → a ≠ b → (F_Ve a).2.1 ≠ (F_Ve b).2.1 := by decide +kernel
theorem t_Ve_ok : ∀ k, k < 1 → parseFieldDescriptor (F_Ve k).2.2.1 = some (t_Ve k) := by decide +kernel
def R_Tb : String := "LevelTables$Table"
def F_Tb : u_T := fun k => match k with
  | 0 => ("LevelTables$Table", "start", "I", false)
  | 1 => ("LevelTables$Table", "blocks", "[I", true)
  | 2 => ("LevelTables$Table", "count", "I", true)
  | _ => ("LevelTables$Table", "sum", "J", true)
def t_Tb : Nat → FieldType := fun k => match k with
  | 0 => .int
  | 1 => .array .int
  | 2 => .int
  | _ => .long
theorem n_Tb : ∀ a, a < 4 → ∀ b, b < 4 → a ≠ b → (F_Tb a).2.1 ≠ (F_Tb b).2.1 := by decide +kernel
theorem t_Tb_ok : ∀ k, k < 4 → parseFieldDescriptor (F_Tb k).2.2.1 = some (t_Tb k) := by decide +kernel
def R_AL : String := "java/util/ArrayList"
def F_AL : u_T := fun k => match k with
  | 0 => ("java/util/AbstractList", "modCount", "I", false)
  | 1 => ("java/util/ArrayList", "elementData", "[Ljava/lang/Object;", false)
  | _ => ("java/util/ArrayList", "size", "I", false)
def t_AL : Nat → FieldType := fun k => match k with
  | 0 => .int
  | 1 => .array (.object "java/lang/Object")
  | _ => .int
theorem n_AL : ∀ a, a < 3 → ∀ b, b < 3 → a ≠ b → (F_AL a).2.1 ≠ (F_AL b).2.1 := by decide +kernel
theorem t_AL_ok : ∀ k, k < 3 → parseFieldDescriptor (F_AL k).2.2.1 = some (t_AL k) := by decide +kernel
def R_Mo : String := "LevelTablesModel"
def F_Mo : u_T := fun k => match k with
  | 0 => ("LevelTablesModel", "failed", "I", false)
  | 1 => ("LevelTablesModel", "taped", "I", false)
  | 2 => ("LevelTablesModel", "made", "I", false)
  | 3 => ("LevelTablesModel", "standing", "I", false)
  | 4 => ("LevelTablesModel", "at", "I", false)
  | 5 => ("LevelTablesModel", "tape", "[B", true)
  | 6 => ("LevelTablesModel", "keys", "[B", true)
  | 7 => ("LevelTablesModel", "lengths", "[I", true)
  | 8 => ("LevelTablesModel", "places", "[I", true)
  | 9 => ("LevelTablesModel", "sizes", "[I", true)
  | 10 => ("LevelTablesModel", "open", "[Z", true)
  | _ => ("LevelTablesModel", "sees", "[I", true)
def t_Mo : Nat → FieldType := fun k => match k with
  | 0 => .int
  | 1 => .int
  | 2 => .int
  | 3 => .int
  | 4 => .int
  | 5 => .array .byte
  | 6 => .array .byte
  | 7 => .array .int
  | 8 => .array .int
  | 9 => .array .int
  | 10 => .array .boolean
  | _ => .array .int
theorem n_Mo : ∀ a, a < 12 → ∀ b, b < 12 → a ≠ b → (F_Mo a).2.1 ≠ (F_Mo b).2.1 := by decide +kernel
theorem t_Mo_ok : ∀ k, k < 12 → parseFieldDescriptor (F_Mo k).2.2.1 = some (t_Mo k) := by decide +kernel
def R_Ru : String := "LevelTables$Run"
def R_La : String := "LevelTablesLaw"
def R_Al : String := "java/util/AbstractList"
def R_Ac : String := "java/util/AbstractCollection"
def R_Ar : String := "java/util/Arrays"
def R_Ma : String := "java/lang/Math"
def R_Ob : String := "java/util/Objects"
def R_Pr : String := "jdk/internal/util/Preconditions"
def R_As : String := "jdk/internal/util/ArraysSupport"
abbrev cls : List vw_C := [(R_LT, F_LT, 16), (R_Tp, F_Tp, 2), (R_Vi, F_Vi, 2), (R_Ch, F_Ch, 5), (R_Me, F_Me, 3), (R_Lv, F_Lv, 4), (R_Wk, F_Wk, 8), (R_Wr, F_Wr, 5), (R_Ve, F_Ve, 1), (R_Tb, F_Tb, 4), (R_AL, F_AL, 3), (R_Mo, F_Mo, 12)]
abbrev aty : List FieldType := [.int, .long, .byte, .object "LevelTables$Version", .object "LevelTables$Run", .object "LevelTables$Level", .object "java/lang/Object", .array .long, .boolean]
abbrev a_Obj : Nat := 6
def x_nm (k : Nat) : String := match k with
  | 0 => "java/lang/IllegalArgumentException"
  | 1 => "java/lang/IllegalStateException"
  | 2 => "java/lang/IndexOutOfBoundsException"
  | _ => "java/util/NoSuchElementException"
abbrev b_AL_add_1 : ByteArray := prog_33_method_25_code
def y_AL_add_1 : MethodName := ⟨R_AL, "add", "(Ljava/lang/Object;)Z"⟩
abbrev b_AL_add_2 : ByteArray := prog_33_method_26_code
def y_AL_add_2 : MethodName := ⟨R_AL, "add", "(ILjava/lang/Object;)V"⟩
abbrev b_AL_add_3 : ByteArray := prog_33_method_24_code
def y_AL_add_3 : MethodName := ⟨R_AL, "add", "(Ljava/lang/Object;[Ljava/lang/Object;I)V"⟩
abbrev b_AL_clear : ByteArray := prog_33_method_40_code
def y_AL_clear : MethodName := ⟨R_AL, "clear", "()V"⟩
abbrev b_AL_elementData : ByteArray := prog_33_method_18_code
def y_AL_elementData : MethodName := ⟨R_AL, "elementData", "(I)Ljava/lang/Object;"⟩
abbrev b_AL_fastRemove : ByteArray := prog_33_method_39_code
def y_AL_fastRemove : MethodName := ⟨R_AL, "fastRemove", "([Ljava/lang/Object;I)V"⟩
abbrev b_AL_get : ByteArray := prog_33_method_20_code
def y_AL_get : MethodName := ⟨R_AL, "get", "(I)Ljava/lang/Object;"⟩
abbrev b_AL_grow_0 : ByteArray := prog_33_method_7_code
def y_AL_grow_0 : MethodName := ⟨R_AL, "grow", "()[Ljava/lang/Object;"⟩
abbrev b_AL_grow_1 : ByteArray := prog_33_method_6_code
def y_AL_grow_1 : MethodName := ⟨R_AL, "grow", "(I)[Ljava/lang/Object;"⟩
abbrev b_AL_init : ByteArray := prog_33_method_2_code
def y_AL_init : MethodName := ⟨R_AL, "<init>", "()V"⟩
abbrev b_AL_rangeCheckForAdd : ByteArray := prog_33_method_45_code
def y_AL_rangeCheckForAdd : MethodName := ⟨R_AL, "rangeCheckForAdd", "(I)V"⟩
abbrev b_AL_remove : ByteArray := prog_33_method_29_code
def y_AL_remove : MethodName := ⟨R_AL, "remove", "(I)Ljava/lang/Object;"⟩
abbrev b_AL_size : ByteArray := prog_33_method_8_code
def y_AL_size : MethodName := ⟨R_AL, "size", "()I"⟩
abbrev b_Ac_init : ByteArray := prog_31_method_1_code
def y_Ac_init : MethodName := ⟨R_Ac, "<init>", "()V"⟩
abbrev b_Al_init : ByteArray := prog_32_method_1_code
def y_Al_init : MethodName := ⟨R_Al, "<init>", "()V"⟩
abbrev b_Ar_copyOf_2aB : ByteArray := prog_34_method_121_code
def y_Ar_copyOf_2aB : MethodName := ⟨R_Ar, "copyOf", "([BI)[B"⟩
abbrev b_Ar_copyOf_2aI : ByteArray := prog_34_method_123_code
def y_Ar_copyOf_2aI : MethodName := ⟨R_Ar, "copyOf", "([II)[I"⟩
abbrev b_Ar_copyOf_2aLj : ByteArray := prog_34_method_119_code
def y_Ar_copyOf_2aLj : MethodName := ⟨R_Ar, "copyOf", "([Ljava/lang/Object;I)[Ljava/lang/Object;"⟩
abbrev b_Ar_copyOf_3 : ByteArray := prog_34_method_120_code
def y_Ar_copyOf_3 : MethodName := ⟨R_Ar, "copyOf", "([Ljava/lang/Object;ILjava/lang/Class;)[Ljava/lang/Object;"⟩
abbrev b_Ar_fill_2aI : ByteArray := prog_34_method_103_code
def y_Ar_fill_2aI : MethodName := ⟨R_Ar, "fill", "([II)V"⟩
abbrev b_Ar_fill_2aJ : ByteArray := prog_34_method_101_code
def y_Ar_fill_2aJ : MethodName := ⟨R_Ar, "fill", "([JJ)V"⟩
abbrev b_As_hugeLength : ByteArray := prog_41_method_28_code
def y_As_hugeLength : MethodName := ⟨R_As, "hugeLength", "(II)I"⟩
abbrev b_As_newLength : ByteArray := prog_41_method_27_code
def y_As_newLength : MethodName := ⟨R_As, "newLength", "(III)I"⟩
abbrev b_Ch_erase : ByteArray := prog_2_method_4_code
def y_Ch_erase : MethodName := ⟨R_Ch, "erase", "(I)V"⟩
abbrev b_Ch_forgetUses : ByteArray := prog_2_method_9_code
def y_Ch_forgetUses : MethodName := ⟨R_Ch, "forgetUses", "()V"⟩
abbrev b_Ch_hasRow : ByteArray := prog_2_method_8_code
def y_Ch_hasRow : MethodName := ⟨R_Ch, "hasRow", "(II)Z"⟩
abbrev b_Ch_init : ByteArray := prog_2_method_1_code
def y_Ch_init : MethodName := ⟨R_Ch, "<init>", "()V"⟩
abbrev b_Ch_isMisused : ByteArray := prog_2_method_2_code
def y_Ch_isMisused : MethodName := ⟨R_Ch, "isMisused", "()Z"⟩
abbrev b_Ch_read : ByteArray := prog_2_method_7_code
def y_Ch_read : MethodName := ⟨R_Ch, "read", "(IILLevelTables$Version;)V"⟩
abbrev b_Ch_release : ByteArray := prog_2_method_5_code
def y_Ch_release : MethodName := ⟨R_Ch, "release", "(I)V"⟩
abbrev b_Ch_take : ByteArray := prog_2_method_3_code
def y_Ch_take : MethodName := ⟨R_Ch, "take", "()I"⟩
abbrev b_Ch_use : ByteArray := prog_2_method_10_code
def y_Ch_use : MethodName := ⟨R_Ch, "use", "(I)Z"⟩
abbrev b_Ch_write : ByteArray := prog_2_method_6_code
def y_Ch_write : MethodName := ⟨R_Ch, "write", "(IILLevelTables$Version;)V"⟩
abbrev b_LT_addVersion : ByteArray := prog_1_method_16_code
def y_LT_addVersion : MethodName := ⟨R_LT, "addVersion", "(ZII)I"⟩
abbrev b_LT_check : ByteArray := prog_1_method_14_code
def y_LT_check : MethodName := ⟨R_LT, "check", "()I"⟩
abbrev b_LT_close : ByteArray := prog_1_method_7_code
def y_LT_close : MethodName := ⟨R_LT, "close", "(I)I"⟩
abbrev b_LT_countLiving : ByteArray := prog_1_method_26_code
def y_LT_countLiving : MethodName := ⟨R_LT, "countLiving", "()I"⟩
abbrev b_LT_current : ByteArray := prog_1_method_10_code
def y_LT_current : MethodName := ⟨R_LT, "current", "(I)I"⟩
abbrev b_LT_end : ByteArray := prog_1_method_3_code
def y_LT_end : MethodName := ⟨R_LT, "end", "(I)I"⟩
abbrev b_LT_feed : ByteArray := prog_1_method_2_code
def y_LT_feed : MethodName := ⟨R_LT, "feed", "(IIIII)I"⟩
abbrev b_LT_find : ByteArray := prog_1_method_8_code
def y_LT_find : MethodName := ⟨R_LT, "find", "(I)I"⟩
abbrev b_LT_flush : ByteArray := prog_1_method_12_code
def y_LT_flush : MethodName := ⟨R_LT, "flush", "()I"⟩
abbrev b_LT_hasSomething : ByteArray := prog_1_method_17_code
def y_LT_hasSomething : MethodName := ⟨R_LT, "hasSomething", "(LLevelTables$Version;II)Z"⟩
abbrev b_LT_init : ByteArray := prog_1_method_1_code
def y_LT_init : MethodName := ⟨R_LT, "<init>", "()V"⟩
abbrev b_LT_isSound : ByteArray := prog_1_method_25_code
def y_LT_isSound : MethodName := ⟨R_LT, "isSound", "()Z"⟩
abbrev b_LT_merge : ByteArray := prog_1_method_13_code
def y_LT_merge : MethodName := ⟨R_LT, "merge", "(Z)I"⟩
abbrev b_LT_mergeAll : ByteArray := prog_1_method_22_code
def y_LT_mergeAll : MethodName := ⟨R_LT, "mergeAll", "()V"⟩
abbrev b_LT_nextMoment : ByteArray := prog_1_method_24_code
def y_LT_nextMoment : MethodName := ⟨R_LT, "nextMoment", "(LLevelTables$Version;I)I"⟩
abbrev b_LT_open : ByteArray := prog_1_method_6_code
def y_LT_open : MethodName := ⟨R_LT, "open", "(I)I"⟩
abbrev b_LT_out : ByteArray := prog_1_method_5_code
def y_LT_out : MethodName := ⟨R_LT, "out", "()I"⟩
abbrev b_LT_pushDown : ByteArray := prog_1_method_21_code
def y_LT_pushDown : MethodName := ⟨R_LT, "pushDown", "(I)V"⟩
abbrev b_LT_put : ByteArray := prog_1_method_4_code
def y_LT_put : MethodName := ⟨R_LT, "put", "(II)I"⟩
abbrev b_LT_reachSomething : ByteArray := prog_1_method_18_code
def y_LT_reachSomething : MethodName := ⟨R_LT, "reachSomething", "(I)Z"⟩
abbrev b_LT_readTapeFor : ByteArray := prog_1_method_15_code
def y_LT_readTapeFor : MethodName := ⟨R_LT, "readTapeFor", "(I)I"⟩
abbrev b_LT_seek : ByteArray := prog_1_method_9_code
def y_LT_seek : MethodName := ⟨R_LT, "seek", "(IZ)I"⟩
abbrev b_LT_show : ByteArray := prog_1_method_19_code
def y_LT_show : MethodName := ⟨R_LT, "show", "(Z)I"⟩
abbrev b_LT_word : ByteArray := prog_1_method_11_code
def y_LT_word : MethodName := ⟨R_LT, "word", "(I)J"⟩
abbrev b_LT_writeNeeded : ByteArray := prog_1_method_23_code
def y_LT_writeNeeded : MethodName := ⟨R_LT, "writeNeeded", "(I)V"⟩
abbrev b_LT_writeOut : ByteArray := prog_1_method_20_code
def y_LT_writeOut : MethodName := ⟨R_LT, "writeOut", "()V"⟩
abbrev b_La_close : ByteArray := method_8_code
def y_La_close : MethodName := ⟨R_La, "close", "(LLevelTables;I[J)I"⟩
abbrev b_La_current : ByteArray := method_11_code
def y_La_current : MethodName := ⟨R_La, "current", "(LLevelTables;I[J)I"⟩
abbrev b_La_end : ByteArray := method_4_code
def y_La_end : MethodName := ⟨R_La, "end", "(LLevelTables;I[J)I"⟩
abbrev b_La_feed : ByteArray := method_3_code
def y_La_feed : MethodName := ⟨R_La, "feed", "(LLevelTables;IIIII[J)I"⟩
abbrev b_La_find : ByteArray := method_9_code
def y_La_find : MethodName := ⟨R_La, "find", "(LLevelTables;I[J)I"⟩
abbrev b_La_open : ByteArray := method_7_code
def y_La_open : MethodName := ⟨R_La, "open", "(LLevelTables;I[J)I"⟩
abbrev b_La_out : ByteArray := method_6_code
def y_La_out : MethodName := ⟨R_La, "out", "(LLevelTables;[J)I"⟩
abbrev b_La_put : ByteArray := method_5_code
def y_La_put : MethodName := ⟨R_La, "put", "(LLevelTables;II[J)I"⟩
abbrev b_La_seek : ByteArray := method_10_code
def y_La_seek : MethodName := ⟨R_La, "seek", "(LLevelTables;IZ[J)I"⟩
abbrev b_La_word : ByteArray := method_12_code
def y_La_word : MethodName := ⟨R_La, "word", "(LLevelTables;I[J)I"⟩
abbrev b_Lv_count : ByteArray := prog_3_method_2_code
def y_Lv_count : MethodName := ⟨R_Lv, "count", "()I"⟩
abbrev b_Lv_firstTableBeyond : ByteArray := prog_3_method_8_code
def y_Lv_firstTableBeyond : MethodName := ⟨R_Lv, "firstTableBeyond", "(LLevelTables$Version;)I"⟩
abbrev b_Lv_firstTableReaching : ByteArray := prog_3_method_7_code
def y_Lv_firstTableReaching : MethodName := ⟨R_Lv, "firstTableReaching", "(LLevelTables$Version;)I"⟩
abbrev b_Lv_init : ByteArray := prog_3_method_1_code
def y_Lv_init : MethodName := ⟨R_Lv, "<init>", "(LLevelTables$Chip;)V"⟩
abbrev b_Lv_insert : ByteArray := prog_3_method_10_code
def y_Lv_insert : MethodName := ⟨R_Lv, "insert", "(ILjava/util/ArrayList;)V"⟩
abbrev b_Lv_isSound : ByteArray := prog_3_method_12_code
def y_Lv_isSound : MethodName := ⟨R_Lv, "isSound", "(LLevelTables$Version;LLevelTables$Version;)Z"⟩
abbrev b_Lv_isWhole : ByteArray := prog_3_method_13_code
def y_Lv_isWhole : MethodName := ⟨R_Lv, "isWhole", "(LLevelTables$Table;LLevelTables$Version;LLevelTables$Version;)Z"⟩
abbrev b_Lv_load : ByteArray := prog_3_method_3_code
def y_Lv_load : MethodName := ⟨R_Lv, "load", "(ILLevelTables$Version;)V"⟩
abbrev b_Lv_remove : ByteArray := prog_3_method_9_code
def y_Lv_remove : MethodName := ⟨R_Lv, "remove", "(II)V"⟩
abbrev b_Lv_renumber : ByteArray := prog_3_method_11_code
def y_Lv_renumber : MethodName := ⟨R_Lv, "renumber", "()V"⟩
abbrev b_Lv_startOf : ByteArray := prog_3_method_5_code
def y_Lv_startOf : MethodName := ⟨R_Lv, "startOf", "(I)I"⟩
abbrev b_Lv_tableCount : ByteArray := prog_3_method_4_code
def y_Lv_tableCount : MethodName := ⟨R_Lv, "tableCount", "()I"⟩
abbrev b_Lv_tableWith : ByteArray := prog_3_method_6_code
def y_Lv_tableWith : MethodName := ⟨R_Lv, "tableWith", "(I)I"⟩
abbrev b_Ma_max : ByteArray := prog_23_method_65_code
def y_Ma_max : MethodName := ⟨R_Ma, "max", "(II)I"⟩
abbrev b_Ma_min : ByteArray := prog_23_method_69_code
def y_Ma_min : MethodName := ⟨R_Ma, "min", "(II)I"⟩
abbrev b_Me_clear : ByteArray := prog_4_method_5_code
def y_Me_clear : MethodName := ⟨R_Me, "clear", "()V"⟩
abbrev b_Me_count : ByteArray := prog_4_method_2_code
def y_Me_count : MethodName := ⟨R_Me, "count", "()I"⟩
abbrev b_Me_init : ByteArray := prog_4_method_1_code
def y_Me_init : MethodName := ⟨R_Me, "<init>", "()V"⟩
abbrev b_Me_insert : ByteArray := prog_4_method_4_code
def y_Me_insert : MethodName := ⟨R_Me, "insert", "(LLevelTables$Version;)V"⟩
abbrev b_Me_load : ByteArray := prog_4_method_3_code
def y_Me_load : MethodName := ⟨R_Me, "load", "(ILLevelTables$Version;)V"⟩
abbrev b_Mo_check : ByteArray := prog_13_method_22_code
def y_Mo_check : MethodName := ⟨R_Mo, "check", "()I"⟩
abbrev b_Mo_close : ByteArray := prog_13_method_11_code
def y_Mo_close : MethodName := ⟨R_Mo, "close", "(I)I"⟩
abbrev b_Mo_compare : ByteArray := prog_13_method_12_code
def y_Mo_compare : MethodName := ⟨R_Mo, "compare", "(II)I"⟩
abbrev b_Mo_compareTape : ByteArray := prog_13_method_13_code
def y_Mo_compareTape : MethodName := ⟨R_Mo, "compareTape", "(II)I"⟩
abbrev b_Mo_current : ByteArray := prog_13_method_17_code
def y_Mo_current : MethodName := ⟨R_Mo, "current", "(I)I"⟩
abbrev b_Mo_end : ByteArray := prog_13_method_5_code
def y_Mo_end : MethodName := ⟨R_Mo, "end", "(I)I"⟩
abbrev b_Mo_enter : ByteArray := prog_13_method_7_code
def y_Mo_enter : MethodName := ⟨R_Mo, "enter", "(II)I"⟩
abbrev b_Mo_fail : ByteArray := prog_13_method_3_code
def y_Mo_fail : MethodName := ⟨R_Mo, "fail", "(I)I"⟩
abbrev b_Mo_feed : ByteArray := prog_13_method_4_code
def y_Mo_feed : MethodName := ⟨R_Mo, "feed", "(IIIII)I"⟩
abbrev b_Mo_find : ByteArray := prog_13_method_15_code
def y_Mo_find : MethodName := ⟨R_Mo, "find", "(I)I"⟩
abbrev b_Mo_flush : ByteArray := prog_13_method_20_code
def y_Mo_flush : MethodName := ⟨R_Mo, "flush", "()I"⟩
abbrev b_Mo_init : ByteArray := prog_13_method_1_code
def y_Mo_init : MethodName := ⟨R_Mo, "<init>", "()V"⟩
abbrev b_Mo_keyed : ByteArray := prog_13_method_6_code
def y_Mo_keyed : MethodName := ⟨R_Mo, "keyed", "()Z"⟩
abbrev b_Mo_merge : ByteArray := prog_13_method_21_code
def y_Mo_merge : MethodName := ⟨R_Mo, "merge", "(Z)I"⟩
abbrev b_Mo_open : ByteArray := prog_13_method_10_code
def y_Mo_open : MethodName := ⟨R_Mo, "open", "(I)I"⟩
abbrev b_Mo_out : ByteArray := prog_13_method_9_code
def y_Mo_out : MethodName := ⟨R_Mo, "out", "()I"⟩
abbrev b_Mo_present : ByteArray := prog_13_method_19_code
def y_Mo_present : MethodName := ⟨R_Mo, "present", "()I"⟩
abbrev b_Mo_put : ByteArray := prog_13_method_8_code
def y_Mo_put : MethodName := ⟨R_Mo, "put", "(II)I"⟩
abbrev b_Mo_seek : ByteArray := prog_13_method_16_code
def y_Mo_seek : MethodName := ⟨R_Mo, "seek", "(IZ)I"⟩
abbrev b_Mo_stands : ByteArray := prog_13_method_14_code
def y_Mo_stands : MethodName := ⟨R_Mo, "stands", "(II)Z"⟩
abbrev b_Mo_thrown : ByteArray := prog_13_method_2_code
def y_Mo_thrown : MethodName := ⟨R_Mo, "thrown", "()I"⟩
abbrev b_Mo_word : ByteArray := prog_13_method_18_code
def y_Mo_word : MethodName := ⟨R_Mo, "word", "(I)J"⟩
abbrev b_Ob_checkIndex : ByteArray := prog_38_method_17_code
def y_Ob_checkIndex : MethodName := ⟨R_Ob, "checkIndex", "(II)I"⟩
abbrev b_Pr_checkIndex : ByteArray := prog_42_method_11_code
def y_Pr_checkIndex : MethodName := ⟨R_Pr, "checkIndex", "(IILjava/util/function/BiFunction;)I"⟩
abbrev b_Ru_firstNotBefore : ByteArray := prog_5_method_4_code
def y_Ru_firstNotBefore : MethodName := ⟨R_Ru, "firstNotBefore", "(LLevelTables$Version;)I"⟩
abbrev b_Ru_init : ByteArray := prog_5_method_1_code
def y_Ru_init : MethodName := ⟨R_Ru, "<init>", "()V"⟩
abbrev b_Tb_blockOf : ByteArray := prog_6_method_6_code
def y_Tb_blockOf : MethodName := ⟨R_Tb, "blockOf", "(I)I"⟩
abbrev b_Tb_count : ByteArray := prog_6_method_2_code
def y_Tb_count : MethodName := ⟨R_Tb, "count", "()I"⟩
abbrev b_Tb_init : ByteArray := prog_6_method_1_code
def y_Tb_init : MethodName := ⟨R_Tb, "<init>", "([IIJ)V"⟩
abbrev b_Tb_release : ByteArray := prog_6_method_7_code
def y_Tb_release : MethodName := ⟨R_Tb, "release", "(LLevelTables$Chip;)V"⟩
abbrev b_Tb_setStart : ByteArray := prog_6_method_5_code
def y_Tb_setStart : MethodName := ⟨R_Tb, "setStart", "(I)V"⟩
abbrev b_Tb_start : ByteArray := prog_6_method_4_code
def y_Tb_start : MethodName := ⟨R_Tb, "start", "()I"⟩
abbrev b_Tb_sum : ByteArray := prog_6_method_3_code
def y_Tb_sum : MethodName := ⟨R_Tb, "sum", "()J"⟩
abbrev b_Tb_usesItsBlocks : ByteArray := prog_6_method_8_code
def y_Tb_usesItsBlocks : MethodName := ⟨R_Tb, "usesItsBlocks", "(LLevelTables$Chip;)Z"⟩
abbrev b_Tp_append : ByteArray := prog_7_method_5_code
def y_Tp_append : MethodName := ⟨R_Tp, "append", "(I)V"⟩
abbrev b_Tp_cut : ByteArray := prog_7_method_4_code
def y_Tp_cut : MethodName := ⟨R_Tp, "cut", "(I)V"⟩
abbrev b_Tp_hasKey : ByteArray := prog_7_method_3_code
def y_Tp_hasKey : MethodName := ⟨R_Tp, "hasKey", "()Z"⟩
abbrev b_Tp_init : ByteArray := prog_7_method_1_code
def y_Tp_init : MethodName := ⟨R_Tp, "<init>", "()V"⟩
abbrev b_Tp_length : ByteArray := prog_7_method_2_code
def y_Tp_length : MethodName := ⟨R_Tp, "length", "()I"⟩
abbrev b_Tp_moveTo : ByteArray := prog_7_method_6_code
def y_Tp_moveTo : MethodName := ⟨R_Tp, "moveTo", "(LLevelTables$Version;)V"⟩
abbrev b_Ve_addTo : ByteArray := prog_8_method_16_code
def y_Ve_addTo : MethodName := ⟨R_Ve, "addTo", "(J)J"⟩
abbrev b_Ve_byteAt : ByteArray := prog_8_method_15_code
def y_Ve_byteAt : MethodName := ⟨R_Ve, "byteAt", "(I)J"⟩
abbrev b_Ve_compareKey : ByteArray := prog_8_method_12_code
def y_Ve_compareKey : MethodName := ⟨R_Ve, "compareKey", "(LLevelTables$Version;)I"⟩
abbrev b_Ve_copy : ByteArray := prog_8_method_8_code
def y_Ve_copy : MethodName := ⟨R_Ve, "copy", "(LLevelTables$Version;)V"⟩
abbrev b_Ve_describe : ByteArray := prog_8_method_11_code
def y_Ve_describe : MethodName := ⟨R_Ve, "describe", "(IZII)V"⟩
abbrev b_Ve_eightBytes : ByteArray := prog_8_method_14_code
def y_Ve_eightBytes : MethodName := ⟨R_Ve, "eightBytes", "(I)J"⟩
abbrev b_Ve_init : ByteArray := prog_8_method_1_code
def y_Ve_init : MethodName := ⟨R_Ve, "<init>", "()V"⟩
abbrev b_Ve_isBefore : ByteArray := prog_8_method_13_code
def y_Ve_isBefore : MethodName := ⟨R_Ve, "isBefore", "(LLevelTables$Version;)Z"⟩
abbrev b_Ve_isThere : ByteArray := prog_8_method_5_code
def y_Ve_isThere : MethodName := ⟨R_Ve, "isThere", "()Z"⟩
abbrev b_Ve_length : ByteArray := prog_8_method_3_code
def y_Ve_length : MethodName := ⟨R_Ve, "length", "()I"⟩
abbrev b_Ve_moment : ByteArray := prog_8_method_4_code
def y_Ve_moment : MethodName := ⟨R_Ve, "moment", "()I"⟩
abbrev b_Ve_place : ByteArray := prog_8_method_7_code
def y_Ve_place : MethodName := ⟨R_Ve, "place", "()I"⟩
abbrev b_Ve_setKey : ByteArray := prog_8_method_9_code
def y_Ve_setKey : MethodName := ⟨R_Ve, "setKey", "([BI)V"⟩
abbrev b_Ve_setMoment : ByteArray := prog_8_method_10_code
def y_Ve_setMoment : MethodName := ⟨R_Ve, "setMoment", "(I)V"⟩
abbrev b_Ve_size : ByteArray := prog_8_method_6_code
def y_Ve_size : MethodName := ⟨R_Ve, "size", "()I"⟩
abbrev b_Ve_words : ByteArray := prog_8_method_2_code
def y_Ve_words : MethodName := ⟨R_Ve, "words", "()[J"⟩
abbrev b_Vi_begin : ByteArray := prog_9_method_5_code
def y_Vi_begin : MethodName := ⟨R_Vi, "begin", "(I)V"⟩
abbrev b_Vi_finish : ByteArray := prog_9_method_6_code
def y_Vi_finish : MethodName := ⟨R_Vi, "finish", "(I)V"⟩
abbrev b_Vi_init : ByteArray := prog_9_method_1_code
def y_Vi_init : MethodName := ⟨R_Vi, "<init>", "()V"⟩
abbrev b_Vi_momentOf : ByteArray := prog_9_method_4_code
def y_Vi_momentOf : MethodName := ⟨R_Vi, "momentOf", "(I)I"⟩
abbrev b_Vi_need : ByteArray := prog_9_method_7_code
def y_Vi_need : MethodName := ⟨R_Vi, "need", "(II)Z"⟩
abbrev b_Vi_present : ByteArray := prog_9_method_2_code
def y_Vi_present : MethodName := ⟨R_Vi, "present", "()I"⟩
abbrev b_Vi_step : ByteArray := prog_9_method_3_code
def y_Vi_step : MethodName := ⟨R_Vi, "step", "()V"⟩
abbrev b_Wk_advance : ByteArray := prog_10_method_5_code
def y_Wk_advance : MethodName := ⟨R_Wk, "advance", "()Z"⟩
abbrev b_Wk_begin : ByteArray := prog_10_method_4_code
def y_Wk_begin : MethodName := ⟨R_Wk, "begin", "()V"⟩
abbrev b_Wk_clear : ByteArray := prog_10_method_2_code
def y_Wk_clear : MethodName := ⟨R_Wk, "clear", "()V"⟩
abbrev b_Wk_cover : ByteArray := prog_10_method_3_code
def y_Wk_cover : MethodName := ⟨R_Wk, "cover", "(III)V"⟩
abbrev b_Wk_init : ByteArray := prog_10_method_1_code
def y_Wk_init : MethodName := ⟨R_Wk, "<init>", "([LLevelTables$Run;)V"⟩
abbrev b_Wk_isSomethingAt : ByteArray := prog_10_method_9_code
def y_Wk_isSomethingAt : MethodName := ⟨R_Wk, "isSomethingAt", "(I)Z"⟩
abbrev b_Wk_takeNext : ByteArray := prog_10_method_6_code
def y_Wk_takeNext : MethodName := ⟨R_Wk, "takeNext", "()Z"⟩
abbrev b_Wk_until : ByteArray := prog_10_method_8_code
def y_Wk_until : MethodName := ⟨R_Wk, "until", "()I"⟩
abbrev b_Wk_version : ByteArray := prog_10_method_7_code
def y_Wk_version : MethodName := ⟨R_Wk, "version", "()LLevelTables$Version;"⟩
abbrev b_Wr_add : ByteArray := prog_11_method_4_code
def y_Wr_add : MethodName := ⟨R_Wr, "add", "(LLevelTables$Version;Z)V"⟩
abbrev b_Wr_begin : ByteArray := prog_11_method_3_code
def y_Wr_begin : MethodName := ⟨R_Wr, "begin", "()V"⟩
abbrev b_Wr_init : ByteArray := prog_11_method_1_code
def y_Wr_init : MethodName := ⟨R_Wr, "<init>", "(LLevelTables$Chip;)V"⟩
abbrev b_Wr_seal : ByteArray := prog_11_method_5_code
def y_Wr_seal : MethodName := ⟨R_Wr, "seal", "()V"⟩
abbrev b_Wr_tables : ByteArray := prog_11_method_2_code
def y_Wr_tables : MethodName := ⟨R_Wr, "tables", "()Ljava/util/ArrayList;"⟩
end
section
/-! words of the tables, by their places (written by wip/whole/gen.py) -/
theorem pt_1 : ∀ w ∈ tables_1_1, w ∈ tables_1 := fun w h => List.mem_append_left _ h
theorem pt_2 : ∀ w ∈ tables_1_2, w ∈ tables_1 := fun w h => List.mem_append_right _ (List.mem_append_left _ h)
theorem pt_3 : ∀ w ∈ tables_1_3, w ∈ tables_1 := fun w h => List.mem_append_right _ (List.mem_append_right _ (List.mem_append_left _ h))
theorem pt_4 : ∀ w ∈ tables_1_4, w ∈ tables_1 := fun w h => List.mem_append_right _ (List.mem_append_right _ (List.mem_append_right _ (List.mem_append_left _ h)))
theorem pt_5 : ∀ w ∈ tables_1_5, w ∈ tables_1 := fun w h => List.mem_append_right _ (List.mem_append_right _ (List.mem_append_right _ (List.mem_append_right _ (List.mem_append_left _ h))))
theorem pt_6 : ∀ w ∈ tables_1_6, w ∈ tables_1 := fun w h => List.mem_append_right _ (List.mem_append_right _ (List.mem_append_right _ (List.mem_append_right _ (List.mem_append_right _ h))))
/-- words that are carried one by one -/
def lwn : List Cond := [(Cond.methodLinkNest "LevelTables" (11 : Nat) ({ cls := "LevelTables$Tape", name := "<init>", desc := "()V" } : MethodName) "LevelTables"), (Cond.methodLinkNest "LevelTables" (25 : Nat) ({ cls := "LevelTables$Chip", name := "<init>", desc := "()V" } : MethodName) "LevelTables"), (Cond.arrayOver (FieldType.array FieldType.long)), (Cond.methodLinkNest "LevelTables" (32 : Nat) ({ cls := "LevelTables$Memory", name := "<init>", desc := "()V" } : MethodName) "LevelTables"), (Cond.methodLinkNest "LevelTables$Memory" (3 : Nat) ({ cls := "LevelTables$Run", name := "<init>", desc := "()V" } : MethodName) "LevelTables"), (Cond.methodLinkNest "LevelTables$Run" (9 : Nat) ({ cls := "LevelTables$Version", name := "<init>", desc := "()V" } : MethodName) "LevelTables"), (Cond.arrayOver (FieldType.object "LevelTables$Level")), (Cond.arrayOver (FieldType.object "LevelTables$Run")), (Cond.methodLinkNest "LevelTables" (51 : Nat) ({ cls := "LevelTables$Version", name := "<init>", desc := "()V" } : MethodName) "LevelTables"), (Cond.methodLinkNest "LevelTables$Level" (3 : Nat) ({ cls := "LevelTables$Run", name := "<init>", desc := "()V" } : MethodName) "LevelTables"), (Cond.arrayOver (FieldType.object "LevelTables$Version")), (Cond.methodLinkNest "LevelTables$Walk" (24 : Nat) ({ cls := "LevelTables$Version", name := "<init>", desc := "()V" } : MethodName) "LevelTables"), (Cond.declares ({ cls := "LevelTables$Run", name := "firstNotBefore", desc := "(LLevelTables$Version;)I" } : MethodName)), (Cond.declares ({ cls := "LevelTables$Run", name := "count", desc := "()I" } : MethodName)), (Cond.declares ({ cls := "LevelTables$Run", name := "load", desc := "(ILLevelTables$Version;)V" } : MethodName)), (Cond.arrayOver (FieldType.object "java/lang/Object")), (Cond.castable "java/lang/IndexOutOfBoundsException" "java/lang/IndexOutOfBoundsException"), (Cond.declares ({ cls := "java/lang/RuntimeException", name := "<init>", desc := "()V" } : MethodName)), (Cond.declares ({ cls := "java/lang/RuntimeException", name := "<init>", desc := "(Ljava/lang/String;)V" } : MethodName)), (Cond.declares ({ cls := "java/lang/Exception", name := "<init>", desc := "()V" } : MethodName)), (Cond.declares ({ cls := "java/lang/Exception", name := "<init>", desc := "(Ljava/lang/String;)V" } : MethodName)), (Cond.declares ({ cls := "java/lang/Throwable", name := "<init>", desc := "()V" } : MethodName)), (Cond.declares ({ cls := "java/lang/Throwable", name := "<init>", desc := "(Ljava/lang/String;)V" } : MethodName)), (Cond.castable "java/lang/IllegalArgumentException" "java/lang/IllegalArgumentException"), (Cond.castable "java/lang/IllegalStateException" "java/lang/IllegalStateException"), (Cond.castable "java/util/NoSuchElementException" "java/util/NoSuchElementException"), (Cond.declares ({ cls := "java/lang/Object", name := "getClass", desc := "()Ljava/lang/Class;" } : MethodName)), (Cond.castable "LevelTables$Table" "java/lang/Object"), (Cond.castable "LevelTables$Level" "LevelTables$Run"), (Cond.castable "LevelTables$Memory" "LevelTables$Run")]
theorem j_AOa_moved {u U : State} (hvm : u.vm.Alike U.vm) (h : va_Nw (.arrayOver (.array .long)) u) : va_Nw (.arrayOver (.array .long)) U := by
  obtain ⟨comp, c, k, h1, h2, h3, h4, h5⟩ := arrayOverA_spec h
  obtain ⟨k', hk', he⟩ := hvm.2.2 _ _ h3
  have hi : (U.vm.classes.findIdx? fun (x : Class) => match x.kind with | .array component _ => component == comp | _ => false) = some c := by
    rw [hvm.findIdx?_eq _ (fun _ => rfl)]; exact h2
  have hkind : k'.kind = .array comp (.array .long) := by rw [he]; exact h4
  have f1 : U.vm.findClass (FieldType.array .long).toString = some comp := by rw [hvm.findClass]; exact h1
  have f2 : U.vm.findClass ("[" ++ (FieldType.array .long).toString) = some c := by rw [hvm.findClass]; exact h5
  unfold va_Nw Cond.before Cond.holds
  simp only [Cond.value]
  rw [f1, Option.bind_some]
  refine (congrArg (fun o : Option Nat => (o.bind (fun c => (U.vm.classes[c]?).map fun (k : Class) => match k.kind with | .array _ ty => decide (ty = FieldType.array .long) && decide (U.vm.findClass ("[" ++ (FieldType.array .long).toString) = some c) | _ => false) == some true)) hi).trans ?_
  simp [hk', hkind, f2]
theorem lwn_us : ∀ w ∈ lwn, ∀ (A : Array Value) (U : State), va_Nw w U → w.before A U = true := j_all_mem ⟨(fun _ _ z => va_Nw.use rfl z), (fun _ _ z => va_Nw.use rfl z), (fun _ _ z => z), (fun _ _ z => va_Nw.use rfl z), (fun _ _ z => va_Nw.use rfl z), (fun _ _ z => va_Nw.use rfl z), (fun _ _ z => z), (fun _ _ z => z), (fun _ _ z => va_Nw.use rfl z), (fun _ _ z => va_Nw.use rfl z), (fun _ _ z => z), (fun _ _ z => va_Nw.use rfl z), (fun _ _ z => va_Nw.use rfl z), (fun _ _ z => va_Nw.use rfl z), (fun _ _ z => va_Nw.use rfl z), (fun _ _ z => z), (fun _ _ z => va_Nw.use rfl z), (fun _ _ z => va_Nw.use rfl z), (fun _ _ z => va_Nw.use rfl z), (fun _ _ z => va_Nw.use rfl z), (fun _ _ z => va_Nw.use rfl z), (fun _ _ z => va_Nw.use rfl z), (fun _ _ z => va_Nw.use rfl z), (fun _ _ z => va_Nw.use rfl z), (fun _ _ z => va_Nw.use rfl z), (fun _ _ z => va_Nw.use rfl z), (fun _ _ z => va_Nw.use rfl z), (fun _ _ z => va_Nw.use rfl z), (fun _ _ z => va_Nw.use rfl z), (fun _ _ z => va_Nw.use rfl z), trivial⟩
theorem lwn_mk : ∀ w ∈ lwn, ∀ (A : Array Value) (U : State), w.before A U = true → va_Nw w U := j_all_mem ⟨(fun _ _ z => va_Nw.of rfl z), (fun _ _ z => va_Nw.of rfl z), (fun _ _ z => z), (fun _ _ z => va_Nw.of rfl z), (fun _ _ z => va_Nw.of rfl z), (fun _ _ z => va_Nw.of rfl z), (fun _ _ z => z), (fun _ _ z => z), (fun _ _ z => va_Nw.of rfl z), (fun _ _ z => va_Nw.of rfl z), (fun _ _ z => z), (fun _ _ z => va_Nw.of rfl z), (fun _ _ z => va_Nw.of rfl z), (fun _ _ z => va_Nw.of rfl z), (fun _ _ z => va_Nw.of rfl z), (fun _ _ z => z), (fun _ _ z => va_Nw.of rfl z), (fun _ _ z => va_Nw.of rfl z), (fun _ _ z => va_Nw.of rfl z), (fun _ _ z => va_Nw.of rfl z), (fun _ _ z => va_Nw.of rfl z), (fun _ _ z => va_Nw.of rfl z), (fun _ _ z => va_Nw.of rfl z), (fun _ _ z => va_Nw.of rfl z), (fun _ _ z => va_Nw.of rfl z), (fun _ _ z => va_Nw.of rfl z), (fun _ _ z => va_Nw.of rfl z), (fun _ _ z => va_Nw.of rfl z), (fun _ _ z => va_Nw.of rfl z), (fun _ _ z => va_Nw.of rfl z), trivial⟩
theorem lwn_ok : ∀ w ∈ lwn, ∀ (s U : State), s.WarmedH U.vm → va_Nw w s → va_Nw w U := j_all_mem ⟨(fun _ _ h z => va_Nw.warmM h z), (fun _ _ h z => va_Nw.warmM h z), (fun _ _ h z => j_AOa_moved h.alike z), (fun _ _ h z => va_Nw.warmM h z), (fun _ _ h z => va_Nw.warmM h z), (fun _ _ h z => va_Nw.warmM h z), (fun _ _ h z => va_AO.moved h.alike z), (fun _ _ h z => va_AO.moved h.alike z), (fun _ _ h z => va_Nw.warmM h z), (fun _ _ h z => va_Nw.warmM h z), (fun _ _ h z => va_AO.moved h.alike z), (fun _ _ h z => va_Nw.warmM h z), (fun _ _ h z => va_Nw.warmD h z), (fun _ _ h z => va_Nw.warmD h z), (fun _ _ h z => va_Nw.warmD h z), (fun _ _ h z => va_AO.moved h.alike z), (fun _ _ h z => va_Nw.warmC h z), (fun _ _ h z => va_Nw.warmD h z), (fun _ _ h z => va_Nw.warmD h z), (fun _ _ h z => va_Nw.warmD h z), (fun _ _ h z => va_Nw.warmD h z), (fun _ _ h z => va_Nw.warmD h z), (fun _ _ h z => va_Nw.warmD h z), (fun _ _ h z => va_Nw.warmC h z), (fun _ _ h z => va_Nw.warmC h z), (fun _ _ h z => va_Nw.warmC h z), (fun _ _ h z => va_Nw.warmD h z), (fun _ _ h z => va_Nw.warmC h z), (fun _ _ h z => va_Nw.warmC h z), (fun _ _ h z => va_Nw.warmC h z), trivial⟩
theorem lwn_in : ∀ w ∈ lwn, w ∈ lw_tbl := j_all_mem ⟨List.mem_append_right _ (pt_1 _ (List.mem_of_getElem? (i := 45) rfl)), List.mem_append_right _ (pt_1 _ (List.mem_of_getElem? (i := 76) rfl)), List.mem_append_right _ (pt_1 _ (List.mem_of_getElem? (i := 81) rfl)), List.mem_append_right _ (pt_1 _ (List.mem_of_getElem? (i := 100) rfl)), List.mem_append_right _ (pt_1 _ (List.mem_of_getElem? (i := 103) rfl)), List.mem_append_right _ (pt_1 _ (List.mem_of_getElem? (i := 109) rfl)), List.mem_append_right _ (pt_1 _ (List.mem_of_getElem? (i := 129) rfl)), List.mem_append_right _ (pt_1 _ (List.mem_of_getElem? (i := 131) rfl)), List.mem_append_right _ (pt_1 _ (List.mem_of_getElem? (i := 133) rfl)), List.mem_append_right _ (pt_1 _ (List.mem_of_getElem? (i := 138) rfl)), List.mem_append_right _ (pt_1 _ (List.mem_of_getElem? (i := 183) rfl)), List.mem_append_right _ (pt_1 _ (List.mem_of_getElem? (i := 184) rfl)), List.mem_append_right _ (pt_2 _ (List.mem_of_getElem? (i := 84) rfl)), List.mem_append_right _ (pt_2 _ (List.mem_of_getElem? (i := 89) rfl)), List.mem_append_right _ (pt_2 _ (List.mem_of_getElem? (i := 96) rfl)), List.mem_append_right _ (pt_3 _ (List.mem_of_getElem? (i := 93) rfl)), List.mem_append_right _ (pt_3 _ (List.mem_of_getElem? (i := 171) rfl)), List.mem_append_right _ (pt_3 _ (List.mem_of_getElem? (i := 172) rfl)), List.mem_append_right _ (pt_3 _ (List.mem_of_getElem? (i := 173) rfl)), List.mem_append_right _ (pt_3 _ (List.mem_of_getElem? (i := 174) rfl)), List.mem_append_right _ (pt_3 _ (List.mem_of_getElem? (i := 175) rfl)), List.mem_append_right _ (pt_3 _ (List.mem_of_getElem? (i := 176) rfl)), List.mem_append_right _ (pt_3 _ (List.mem_of_getElem? (i := 177) rfl)), List.mem_append_right _ (pt_4 _ (List.mem_of_getElem? (i := 174) rfl)), List.mem_append_right _ (pt_5 _ (List.mem_of_getElem? (i := 153) rfl)), List.mem_append_right _ (pt_5 _ (List.mem_of_getElem? (i := 229) rfl)), List.mem_append_right _ (pt_6 _ (List.mem_of_getElem? (i := 191) rfl)), List.mem_append_right _ (pt_6 _ (List.mem_of_getElem? (i := 202) rfl)), List.mem_append_right _ (pt_6 _ (List.mem_of_getElem? (i := 204) rfl)), List.mem_append_right _ (pt_6 _ (List.mem_of_getElem? (i := 205) rfl)), trivial⟩
theorem k_45 : (Cond.methodLinkNest "LevelTables" (11 : Nat) ({ cls := "LevelTables$Tape", name := "<init>", desc := "()V" } : MethodName) "LevelTables") ∈ lwn := List.mem_of_getElem? (i := 0) rfl
theorem k_76 : (Cond.methodLinkNest "LevelTables" (25 : Nat) ({ cls := "LevelTables$Chip", name := "<init>", desc := "()V" } : MethodName) "LevelTables") ∈ lwn := List.mem_of_getElem? (i := 1) rfl
theorem k_81 : (Cond.arrayOver (FieldType.array FieldType.long)) ∈ lwn := List.mem_of_getElem? (i := 2) rfl
theorem k_100 : (Cond.methodLinkNest "LevelTables" (32 : Nat) ({ cls := "LevelTables$Memory", name := "<init>", desc := "()V" } : MethodName) "LevelTables") ∈ lwn := List.mem_of_getElem? (i := 3) rfl
theorem k_103 : (Cond.methodLinkNest "LevelTables$Memory" (3 : Nat) ({ cls := "LevelTables$Run", name := "<init>", desc := "()V" } : MethodName) "LevelTables") ∈ lwn := List.mem_of_getElem? (i := 4) rfl
theorem k_109 : (Cond.methodLinkNest "LevelTables$Run" (9 : Nat) ({ cls := "LevelTables$Version", name := "<init>", desc := "()V" } : MethodName) "LevelTables") ∈ lwn := List.mem_of_getElem? (i := 5) rfl
theorem k_129 : (Cond.arrayOver (FieldType.object "LevelTables$Level")) ∈ lwn := List.mem_of_getElem? (i := 6) rfl
theorem k_131 : (Cond.arrayOver (FieldType.object "LevelTables$Run")) ∈ lwn := List.mem_of_getElem? (i := 7) rfl
theorem k_133 : (Cond.methodLinkNest "LevelTables" (51 : Nat) ({ cls := "LevelTables$Version", name := "<init>", desc := "()V" } : MethodName) "LevelTables") ∈ lwn := List.mem_of_getElem? (i := 8) rfl
theorem k_138 : (Cond.methodLinkNest "LevelTables$Level" (3 : Nat) ({ cls := "LevelTables$Run", name := "<init>", desc := "()V" } : MethodName) "LevelTables") ∈ lwn := List.mem_of_getElem? (i := 9) rfl
theorem k_183 : (Cond.arrayOver (FieldType.object "LevelTables$Version")) ∈ lwn := List.mem_of_getElem? (i := 10) rfl
theorem k_184 : (Cond.methodLinkNest "LevelTables$Walk" (24 : Nat) ({ cls := "LevelTables$Version", name := "<init>", desc := "()V" } : MethodName) "LevelTables") ∈ lwn := List.mem_of_getElem? (i := 11) rfl
theorem k_324 : (Cond.declares ({ cls := "LevelTables$Run", name := "firstNotBefore", desc := "(LLevelTables$Version;)I" } : MethodName)) ∈ lwn := List.mem_of_getElem? (i := 12) rfl
theorem k_329 : (Cond.declares ({ cls := "LevelTables$Run", name := "count", desc := "()I" } : MethodName)) ∈ lwn := List.mem_of_getElem? (i := 13) rfl
theorem k_336 : (Cond.declares ({ cls := "LevelTables$Run", name := "load", desc := "(ILLevelTables$Version;)V" } : MethodName)) ∈ lwn := List.mem_of_getElem? (i := 14) rfl
theorem k_573 : (Cond.arrayOver (FieldType.object "java/lang/Object")) ∈ lwn := List.mem_of_getElem? (i := 15) rfl
theorem k_651 : (Cond.castable "java/lang/IndexOutOfBoundsException" "java/lang/IndexOutOfBoundsException") ∈ lwn := List.mem_of_getElem? (i := 16) rfl
theorem k_652 : (Cond.declares ({ cls := "java/lang/RuntimeException", name := "<init>", desc := "()V" } : MethodName)) ∈ lwn := List.mem_of_getElem? (i := 17) rfl
theorem k_653 : (Cond.declares ({ cls := "java/lang/RuntimeException", name := "<init>", desc := "(Ljava/lang/String;)V" } : MethodName)) ∈ lwn := List.mem_of_getElem? (i := 18) rfl
theorem k_654 : (Cond.declares ({ cls := "java/lang/Exception", name := "<init>", desc := "()V" } : MethodName)) ∈ lwn := List.mem_of_getElem? (i := 19) rfl
theorem k_655 : (Cond.declares ({ cls := "java/lang/Exception", name := "<init>", desc := "(Ljava/lang/String;)V" } : MethodName)) ∈ lwn := List.mem_of_getElem? (i := 20) rfl
theorem k_656 : (Cond.declares ({ cls := "java/lang/Throwable", name := "<init>", desc := "()V" } : MethodName)) ∈ lwn := List.mem_of_getElem? (i := 21) rfl
theorem k_657 : (Cond.declares ({ cls := "java/lang/Throwable", name := "<init>", desc := "(Ljava/lang/String;)V" } : MethodName)) ∈ lwn := List.mem_of_getElem? (i := 22) rfl
theorem k_894 : (Cond.castable "java/lang/IllegalArgumentException" "java/lang/IllegalArgumentException") ∈ lwn := List.mem_of_getElem? (i := 23) rfl
theorem k_1113 : (Cond.castable "java/lang/IllegalStateException" "java/lang/IllegalStateException") ∈ lwn := List.mem_of_getElem? (i := 24) rfl
theorem k_1189 : (Cond.castable "java/util/NoSuchElementException" "java/util/NoSuchElementException") ∈ lwn := List.mem_of_getElem? (i := 25) rfl
theorem k_1391 : (Cond.declares ({ cls := "java/lang/Object", name := "getClass", desc := "()Ljava/lang/Class;" } : MethodName)) ∈ lwn := List.mem_of_getElem? (i := 26) rfl
theorem k_1402 : (Cond.castable "LevelTables$Table" "java/lang/Object") ∈ lwn := List.mem_of_getElem? (i := 27) rfl
theorem k_1404 : (Cond.castable "LevelTables$Level" "LevelTables$Run") ∈ lwn := List.mem_of_getElem? (i := 28) rfl
theorem k_1405 : (Cond.castable "LevelTables$Memory" "LevelTables$Run") ∈ lwn := List.mem_of_getElem? (i := 29) rfl
theorem k_0 : (Cond.initialized "LevelTablesLaw") ∈ lwg := lwg_of (pt_1 _ (List.mem_of_getElem? (i := 0) rfl)) rfl
theorem k_1 : (Cond.initialized "LevelTables") ∈ lwg := lwg_of (pt_1 _ (List.mem_of_getElem? (i := 1) rfl)) rfl
theorem k_2 : (Cond.initialized "LevelTables$Tape") ∈ lwg := lwg_of (pt_1 _ (List.mem_of_getElem? (i := 2) rfl)) rfl
theorem k_3 : (Cond.initialized "LevelTables$Views") ∈ lwg := lwg_of (pt_1 _ (List.mem_of_getElem? (i := 3) rfl)) rfl
theorem k_4 : (Cond.initialized "java/util/Arrays") ∈ lwg := lwg_of (pt_1 _ (List.mem_of_getElem? (i := 4) rfl)) rfl
theorem k_5 : (Cond.initialized "LevelTables$Chip") ∈ lwg := lwg_of (pt_1 _ (List.mem_of_getElem? (i := 5) rfl)) rfl
theorem k_6 : (Cond.initialized "LevelTables$Run") ∈ lwg := lwg_of (pt_1 _ (List.mem_of_getElem? (i := 6) rfl)) rfl
theorem k_7 : (Cond.initialized "LevelTables$Memory") ∈ lwg := lwg_of (pt_1 _ (List.mem_of_getElem? (i := 7) rfl)) rfl
theorem k_8 : (Cond.initialized "LevelTables$Version") ∈ lwg := lwg_of (pt_1 _ (List.mem_of_getElem? (i := 8) rfl)) rfl
theorem k_9 : (Cond.initialized "LevelTables$Level") ∈ lwg := lwg_of (pt_1 _ (List.mem_of_getElem? (i := 9) rfl)) rfl
theorem k_10 : (Cond.initialized "java/util/AbstractCollection") ∈ lwg := lwg_of (pt_1 _ (List.mem_of_getElem? (i := 10) rfl)) rfl
theorem k_11 : (Cond.initialized "java/util/AbstractList") ∈ lwg := lwg_of (pt_1 _ (List.mem_of_getElem? (i := 11) rfl)) rfl
theorem k_12 : (Cond.initialized "java/util/ArrayList") ∈ lwg := lwg_of (pt_1 _ (List.mem_of_getElem? (i := 12) rfl)) rfl
theorem k_13 : (Cond.initialized "LevelTables$Walk") ∈ lwg := lwg_of (pt_1 _ (List.mem_of_getElem? (i := 13) rfl)) rfl
theorem k_14 : (Cond.initialized "LevelTables$Writer") ∈ lwg := lwg_of (pt_1 _ (List.mem_of_getElem? (i := 14) rfl)) rfl
theorem k_15 : (Cond.initialized "LevelTablesModel") ∈ lwg := lwg_of (pt_1 _ (List.mem_of_getElem? (i := 15) rfl)) rfl
theorem k_16 : (Cond.initialized "java/lang/Throwable") ∈ lwg := lwg_of (pt_1 _ (List.mem_of_getElem? (i := 16) rfl)) rfl
theorem k_19 : (Cond.initialized "java/lang/IndexOutOfBoundsException") ∈ lwg := lwg_of (pt_1 _ (List.mem_of_getElem? (i := 19) rfl)) rfl
theorem k_20 : (Cond.initialized "java/lang/IllegalArgumentException") ∈ lwg := lwg_of (pt_1 _ (List.mem_of_getElem? (i := 20) rfl)) rfl
theorem k_21 : (Cond.initialized "java/lang/IllegalStateException") ∈ lwg := lwg_of (pt_1 _ (List.mem_of_getElem? (i := 21) rfl)) rfl
theorem k_22 : (Cond.initialized "java/lang/System") ∈ lwg := lwg_of (pt_1 _ (List.mem_of_getElem? (i := 22) rfl)) rfl
theorem k_23 : (Cond.initialized "java/util/Objects") ∈ lwg := lwg_of (pt_1 _ (List.mem_of_getElem? (i := 23) rfl)) rfl
theorem k_24 : (Cond.initialized "jdk/internal/util/Preconditions") ∈ lwg := lwg_of (pt_1 _ (List.mem_of_getElem? (i := 24) rfl)) rfl
theorem k_25 : (Cond.initialized "java/util/NoSuchElementException") ∈ lwg := lwg_of (pt_1 _ (List.mem_of_getElem? (i := 25) rfl)) rfl
theorem k_26 : (Cond.initialized "LevelTables$Table") ∈ lwg := lwg_of (pt_1 _ (List.mem_of_getElem? (i := 26) rfl)) rfl
theorem k_27 : (Cond.initialized "java/lang/Math") ∈ lwg := lwg_of (pt_1 _ (List.mem_of_getElem? (i := 27) rfl)) rfl
theorem k_28 : (Cond.initialized "jdk/internal/util/ArraysSupport") ∈ lwg := lwg_of (pt_1 _ (List.mem_of_getElem? (i := 28) rfl)) rfl
theorem k_35 : (Cond.classLink "LevelTablesLaw" (8 : Nat) "LevelTables") ∈ lwg := lwg_of (pt_1 _ (List.mem_of_getElem? (i := 35) rfl)) rfl
theorem k_36 : (Cond.instantiable "LevelTables" (16 : Nat)) ∈ lwg := lwg_of (pt_1 _ (List.mem_of_getElem? (i := 36) rfl)) rfl
theorem k_37 : (Cond.methodLink "LevelTablesLaw" (53 : Nat) ({ cls := "LevelTables", name := "<init>", desc := "()V" } : MethodName)) ∈ lwg := lwg_of (pt_1 _ (List.mem_of_getElem? (i := 37) rfl)) rfl
theorem k_38 : (Cond.instanceMethod ({ cls := "LevelTables", name := "<init>", desc := "()V" } : MethodName)) ∈ lwg := lwg_of (pt_1 _ (List.mem_of_getElem? (i := 38) rfl)) rfl
theorem k_39 : (Cond.code ({ cls := "LevelTables", name := "<init>", desc := "()V" } : MethodName) prog_1_method_1_code (2 : Nat) (Option.none : Option Jvm.ClassFile.FieldType)) ∈ lwg := lwg_of (pt_1 _ (List.mem_of_getElem? (i := 39) rfl)) rfl
theorem k_40 : (Cond.methodLink "LevelTables" (3 : Nat) ({ cls := "java/lang/Object", name := "<init>", desc := "()V" } : MethodName)) ∈ lwg := lwg_of (pt_1 _ (List.mem_of_getElem? (i := 40) rfl)) rfl
theorem k_41 : (Cond.instanceMethod ({ cls := "java/lang/Object", name := "<init>", desc := "()V" } : MethodName)) ∈ lwg := lwg_of (pt_1 _ (List.mem_of_getElem? (i := 41) rfl)) rfl
theorem k_42 : (Cond.code ({ cls := "java/lang/Object", name := "<init>", desc := "()V" } : MethodName) object_method_1_code (1 : Nat) (Option.none : Option Jvm.ClassFile.FieldType)) ∈ lwg := lwg_of (pt_1 _ (List.mem_of_getElem? (i := 42) rfl)) rfl
theorem k_43 : (Cond.classLink "LevelTables" (9 : Nat) "LevelTables$Tape") ∈ lwg := lwg_of (pt_1 _ (List.mem_of_getElem? (i := 43) rfl)) rfl
theorem k_44 : (Cond.instantiable "LevelTables$Tape" (2 : Nat)) ∈ lwg := lwg_of (pt_1 _ (List.mem_of_getElem? (i := 44) rfl)) rfl
theorem k_46 : (Cond.instanceMethod ({ cls := "LevelTables$Tape", name := "<init>", desc := "()V" } : MethodName)) ∈ lwg := lwg_of (pt_1 _ (List.mem_of_getElem? (i := 46) rfl)) rfl
theorem k_47 : (Cond.code ({ cls := "LevelTables$Tape", name := "<init>", desc := "()V" } : MethodName) prog_7_method_1_code (1 : Nat) (Option.none : Option Jvm.ClassFile.FieldType)) ∈ lwg := lwg_of (pt_1 _ (List.mem_of_getElem? (i := 47) rfl)) rfl
theorem k_48 : (Cond.methodLink "LevelTables$Tape" (3 : Nat) ({ cls := "java/lang/Object", name := "<init>", desc := "()V" } : MethodName)) ∈ lwg := lwg_of (pt_1 _ (List.mem_of_getElem? (i := 48) rfl)) rfl
theorem k_49 : (Cond.fieldLink "LevelTables$Tape" (9 : Nat) "LevelTables$Tape" "bytes" "[B") ∈ lwg := lwg_of (pt_1 _ (List.mem_of_getElem? (i := 49) rfl)) rfl
theorem k_50 : (Cond.fieldLink "LevelTables$Tape" (15 : Nat) "LevelTables$Tape" "length" "I") ∈ lwg := lwg_of (pt_1 _ (List.mem_of_getElem? (i := 50) rfl)) rfl
theorem k_51 : (Cond.laysFinal "LevelTables$Tape" "LevelTables$Tape" "bytes" "[B") ∈ lwg := lwg_of (pt_1 _ (List.mem_of_getElem? (i := 51) rfl)) rfl
theorem k_53 : (Cond.lays "LevelTables$Tape" "LevelTables$Tape" "length" "I") ∈ lwg := lwg_of (pt_1 _ (List.mem_of_getElem? (i := 53) rfl)) rfl
theorem k_56 : (Cond.arrayClass FieldType.byte) ∈ lwg := lwg_of (pt_1 _ (List.mem_of_getElem? (i := 56) rfl)) rfl
theorem k_57 : (Cond.classLink "LevelTables" (16 : Nat) "LevelTables$Views") ∈ lwg := lwg_of (pt_1 _ (List.mem_of_getElem? (i := 57) rfl)) rfl
theorem k_58 : (Cond.instantiable "LevelTables$Views" (2 : Nat)) ∈ lwg := lwg_of (pt_1 _ (List.mem_of_getElem? (i := 58) rfl)) rfl
theorem k_59 : (Cond.methodLink "LevelTables" (18 : Nat) ({ cls := "LevelTables$Views", name := "<init>", desc := "()V" } : MethodName)) ∈ lwg := lwg_of (pt_1 _ (List.mem_of_getElem? (i := 59) rfl)) rfl
theorem k_60 : (Cond.instanceMethod ({ cls := "LevelTables$Views", name := "<init>", desc := "()V" } : MethodName)) ∈ lwg := lwg_of (pt_1 _ (List.mem_of_getElem? (i := 60) rfl)) rfl
theorem k_61 : (Cond.code ({ cls := "LevelTables$Views", name := "<init>", desc := "()V" } : MethodName) prog_9_method_1_code (1 : Nat) (Option.none : Option Jvm.ClassFile.FieldType)) ∈ lwg := lwg_of (pt_1 _ (List.mem_of_getElem? (i := 61) rfl)) rfl
theorem k_62 : (Cond.methodLink "LevelTables$Views" (3 : Nat) ({ cls := "java/lang/Object", name := "<init>", desc := "()V" } : MethodName)) ∈ lwg := lwg_of (pt_1 _ (List.mem_of_getElem? (i := 62) rfl)) rfl
theorem k_63 : (Cond.methodLink "LevelTables$Views" (15 : Nat) ({ cls := "java/util/Arrays", name := "fill", desc := "([II)V" } : MethodName)) ∈ lwg := lwg_of (pt_1 _ (List.mem_of_getElem? (i := 63) rfl)) rfl
theorem k_64 : (Cond.static ({ cls := "java/util/Arrays", name := "fill", desc := "([II)V" } : MethodName)) ∈ lwg := lwg_of (pt_1 _ (List.mem_of_getElem? (i := 64) rfl)) rfl
theorem k_65 : (Cond.code ({ cls := "java/util/Arrays", name := "fill", desc := "([II)V" } : MethodName) prog_34_method_103_code (4 : Nat) (Option.none : Option Jvm.ClassFile.FieldType)) ∈ lwg := lwg_of (pt_1 _ (List.mem_of_getElem? (i := 65) rfl)) rfl
theorem k_66 : (Cond.fieldLink "LevelTables$Views" (9 : Nat) "LevelTables$Views" "moments" "[I") ∈ lwg := lwg_of (pt_1 _ (List.mem_of_getElem? (i := 66) rfl)) rfl
theorem k_67 : (Cond.fieldLink "LevelTables$Views" (21 : Nat) "LevelTables$Views" "present" "I") ∈ lwg := lwg_of (pt_1 _ (List.mem_of_getElem? (i := 67) rfl)) rfl
theorem k_68 : (Cond.laysFinal "LevelTables$Views" "LevelTables$Views" "moments" "[I") ∈ lwg := lwg_of (pt_1 _ (List.mem_of_getElem? (i := 68) rfl)) rfl
theorem k_70 : (Cond.lays "LevelTables$Views" "LevelTables$Views" "present" "I") ∈ lwg := lwg_of (pt_1 _ (List.mem_of_getElem? (i := 70) rfl)) rfl
theorem k_73 : (Cond.arrayClass FieldType.int) ∈ lwg := lwg_of (pt_1 _ (List.mem_of_getElem? (i := 73) rfl)) rfl
theorem k_74 : (Cond.classLink "LevelTables" (23 : Nat) "LevelTables$Chip") ∈ lwg := lwg_of (pt_1 _ (List.mem_of_getElem? (i := 74) rfl)) rfl
theorem k_75 : (Cond.instantiable "LevelTables$Chip" (5 : Nat)) ∈ lwg := lwg_of (pt_1 _ (List.mem_of_getElem? (i := 75) rfl)) rfl
theorem k_77 : (Cond.instanceMethod ({ cls := "LevelTables$Chip", name := "<init>", desc := "()V" } : MethodName)) ∈ lwg := lwg_of (pt_1 _ (List.mem_of_getElem? (i := 77) rfl)) rfl
theorem k_78 : (Cond.code ({ cls := "LevelTables$Chip", name := "<init>", desc := "()V" } : MethodName) prog_2_method_1_code (1 : Nat) (Option.none : Option Jvm.ClassFile.FieldType)) ∈ lwg := lwg_of (pt_1 _ (List.mem_of_getElem? (i := 78) rfl)) rfl
theorem k_79 : (Cond.methodLink "LevelTables$Chip" (3 : Nat) ({ cls := "java/lang/Object", name := "<init>", desc := "()V" } : MethodName)) ∈ lwg := lwg_of (pt_1 _ (List.mem_of_getElem? (i := 79) rfl)) rfl
theorem k_80 : (Cond.classLink "LevelTables$Chip" (9 : Nat) "[J") ∈ lwg := lwg_of (pt_1 _ (List.mem_of_getElem? (i := 80) rfl)) rfl
theorem k_82 : (Cond.fieldLink "LevelTables$Chip" (11 : Nat) "LevelTables$Chip" "blocks" "[[J") ∈ lwg := lwg_of (pt_1 _ (List.mem_of_getElem? (i := 82) rfl)) rfl
theorem k_83 : (Cond.fieldLink "LevelTables$Chip" (17 : Nat) "LevelTables$Chip" "written" "[I") ∈ lwg := lwg_of (pt_1 _ (List.mem_of_getElem? (i := 83) rfl)) rfl
theorem k_84 : (Cond.fieldLink "LevelTables$Chip" (21 : Nat) "LevelTables$Chip" "taken" "[I") ∈ lwg := lwg_of (pt_1 _ (List.mem_of_getElem? (i := 84) rfl)) rfl
theorem k_85 : (Cond.fieldLink "LevelTables$Chip" (24 : Nat) "LevelTables$Chip" "uses" "[I") ∈ lwg := lwg_of (pt_1 _ (List.mem_of_getElem? (i := 85) rfl)) rfl
theorem k_86 : (Cond.fieldLink "LevelTables$Chip" (27 : Nat) "LevelTables$Chip" "misused" "Z") ∈ lwg := lwg_of (pt_1 _ (List.mem_of_getElem? (i := 86) rfl)) rfl
theorem k_87 : (Cond.laysFinal "LevelTables$Chip" "LevelTables$Chip" "blocks" "[[J") ∈ lwg := lwg_of (pt_1 _ (List.mem_of_getElem? (i := 87) rfl)) rfl
theorem k_89 : (Cond.laysFinal "LevelTables$Chip" "LevelTables$Chip" "written" "[I") ∈ lwg := lwg_of (pt_1 _ (List.mem_of_getElem? (i := 89) rfl)) rfl
theorem k_91 : (Cond.laysFinal "LevelTables$Chip" "LevelTables$Chip" "taken" "[I") ∈ lwg := lwg_of (pt_1 _ (List.mem_of_getElem? (i := 91) rfl)) rfl
theorem k_93 : (Cond.laysFinal "LevelTables$Chip" "LevelTables$Chip" "uses" "[I") ∈ lwg := lwg_of (pt_1 _ (List.mem_of_getElem? (i := 93) rfl)) rfl
theorem k_95 : (Cond.lays "LevelTables$Chip" "LevelTables$Chip" "misused" "Z") ∈ lwg := lwg_of (pt_1 _ (List.mem_of_getElem? (i := 95) rfl)) rfl
theorem k_98 : (Cond.classLink "LevelTables" (30 : Nat) "LevelTables$Memory") ∈ lwg := lwg_of (pt_1 _ (List.mem_of_getElem? (i := 98) rfl)) rfl
theorem k_99 : (Cond.instantiable "LevelTables$Memory" (3 : Nat)) ∈ lwg := lwg_of (pt_1 _ (List.mem_of_getElem? (i := 99) rfl)) rfl
theorem k_101 : (Cond.instanceMethod ({ cls := "LevelTables$Memory", name := "<init>", desc := "()V" } : MethodName)) ∈ lwg := lwg_of (pt_1 _ (List.mem_of_getElem? (i := 101) rfl)) rfl
theorem k_102 : (Cond.code ({ cls := "LevelTables$Memory", name := "<init>", desc := "()V" } : MethodName) prog_4_method_1_code (1 : Nat) (Option.none : Option Jvm.ClassFile.FieldType)) ∈ lwg := lwg_of (pt_1 _ (List.mem_of_getElem? (i := 102) rfl)) rfl
theorem k_104 : (Cond.instanceMethod ({ cls := "LevelTables$Run", name := "<init>", desc := "()V" } : MethodName)) ∈ lwg := lwg_of (pt_1 _ (List.mem_of_getElem? (i := 104) rfl)) rfl
theorem k_105 : (Cond.code ({ cls := "LevelTables$Run", name := "<init>", desc := "()V" } : MethodName) prog_5_method_1_code (1 : Nat) (Option.none : Option Jvm.ClassFile.FieldType)) ∈ lwg := lwg_of (pt_1 _ (List.mem_of_getElem? (i := 105) rfl)) rfl
theorem k_106 : (Cond.methodLink "LevelTables$Run" (1 : Nat) ({ cls := "java/lang/Object", name := "<init>", desc := "()V" } : MethodName)) ∈ lwg := lwg_of (pt_1 _ (List.mem_of_getElem? (i := 106) rfl)) rfl
theorem k_107 : (Cond.classLink "LevelTables$Run" (7 : Nat) "LevelTables$Version") ∈ lwg := lwg_of (pt_1 _ (List.mem_of_getElem? (i := 107) rfl)) rfl
theorem k_108 : (Cond.instantiable "LevelTables$Version" (1 : Nat)) ∈ lwg := lwg_of (pt_1 _ (List.mem_of_getElem? (i := 108) rfl)) rfl
theorem k_110 : (Cond.instanceMethod ({ cls := "LevelTables$Version", name := "<init>", desc := "()V" } : MethodName)) ∈ lwg := lwg_of (pt_1 _ (List.mem_of_getElem? (i := 110) rfl)) rfl
theorem k_111 : (Cond.code ({ cls := "LevelTables$Version", name := "<init>", desc := "()V" } : MethodName) prog_8_method_1_code (1 : Nat) (Option.none : Option Jvm.ClassFile.FieldType)) ∈ lwg := lwg_of (pt_1 _ (List.mem_of_getElem? (i := 111) rfl)) rfl
theorem k_112 : (Cond.methodLink "LevelTables$Version" (3 : Nat) ({ cls := "java/lang/Object", name := "<init>", desc := "()V" } : MethodName)) ∈ lwg := lwg_of (pt_1 _ (List.mem_of_getElem? (i := 112) rfl)) rfl
theorem k_113 : (Cond.fieldLink "LevelTables$Version" (9 : Nat) "LevelTables$Version" "words" "[J") ∈ lwg := lwg_of (pt_1 _ (List.mem_of_getElem? (i := 113) rfl)) rfl
theorem k_114 : (Cond.laysFinal "LevelTables$Version" "LevelTables$Version" "words" "[J") ∈ lwg := lwg_of (pt_1 _ (List.mem_of_getElem? (i := 114) rfl)) rfl
theorem k_117 : (Cond.arrayClass FieldType.long) ∈ lwg := lwg_of (pt_1 _ (List.mem_of_getElem? (i := 117) rfl)) rfl
theorem k_118 : (Cond.fieldLink "LevelTables$Memory" (9 : Nat) "LevelTables$Memory" "rows" "[J") ∈ lwg := lwg_of (pt_1 _ (List.mem_of_getElem? (i := 118) rfl)) rfl
theorem k_119 : (Cond.fieldLink "LevelTables$Memory" (15 : Nat) "LevelTables$Memory" "count" "I") ∈ lwg := lwg_of (pt_1 _ (List.mem_of_getElem? (i := 119) rfl)) rfl
theorem k_120 : (Cond.fieldLink "LevelTables$Run" (10 : Nat) "LevelTables$Run" "middle" "LLevelTables$Version;") ∈ lwg := lwg_of (pt_1 _ (List.mem_of_getElem? (i := 120) rfl)) rfl
theorem k_121 : (Cond.laysFinal "LevelTables$Memory" "LevelTables$Memory" "rows" "[J") ∈ lwg := lwg_of (pt_1 _ (List.mem_of_getElem? (i := 121) rfl)) rfl
theorem k_123 : (Cond.lays "LevelTables$Memory" "LevelTables$Memory" "count" "I") ∈ lwg := lwg_of (pt_1 _ (List.mem_of_getElem? (i := 123) rfl)) rfl
theorem k_125 : (Cond.laysFinal "LevelTables$Memory" "LevelTables$Run" "middle" "LLevelTables$Version;") ∈ lwg := lwg_of (pt_1 _ (List.mem_of_getElem? (i := 125) rfl)) rfl
theorem k_128 : (Cond.classLink "LevelTables" (37 : Nat) "LevelTables$Level") ∈ lwg := lwg_of (pt_1 _ (List.mem_of_getElem? (i := 128) rfl)) rfl
theorem k_130 : (Cond.classLink "LevelTables" (43 : Nat) "LevelTables$Run") ∈ lwg := lwg_of (pt_1 _ (List.mem_of_getElem? (i := 130) rfl)) rfl
theorem k_132 : (Cond.classLink "LevelTables" (49 : Nat) "LevelTables$Version") ∈ lwg := lwg_of (pt_1 _ (List.mem_of_getElem? (i := 132) rfl)) rfl
theorem k_134 : (Cond.instantiable "LevelTables$Level" (4 : Nat)) ∈ lwg := lwg_of (pt_1 _ (List.mem_of_getElem? (i := 134) rfl)) rfl
theorem k_135 : (Cond.methodLink "LevelTables" (71 : Nat) ({ cls := "LevelTables$Level", name := "<init>", desc := "(LLevelTables$Chip;)V" } : MethodName)) ∈ lwg := lwg_of (pt_1 _ (List.mem_of_getElem? (i := 135) rfl)) rfl
theorem k_136 : (Cond.instanceMethod ({ cls := "LevelTables$Level", name := "<init>", desc := "(LLevelTables$Chip;)V" } : MethodName)) ∈ lwg := lwg_of (pt_1 _ (List.mem_of_getElem? (i := 136) rfl)) rfl
theorem k_137 : (Cond.code ({ cls := "LevelTables$Level", name := "<init>", desc := "(LLevelTables$Chip;)V" } : MethodName) prog_3_method_1_code (2 : Nat) (Option.none : Option Jvm.ClassFile.FieldType)) ∈ lwg := lwg_of (pt_1 _ (List.mem_of_getElem? (i := 137) rfl)) rfl
theorem k_139 : (Cond.classLink "LevelTables$Level" (9 : Nat) "java/util/ArrayList") ∈ lwg := lwg_of (pt_1 _ (List.mem_of_getElem? (i := 139) rfl)) rfl
theorem k_140 : (Cond.instantiable "java/util/ArrayList" (3 : Nat)) ∈ lwg := lwg_of (pt_1 _ (List.mem_of_getElem? (i := 140) rfl)) rfl
theorem k_141 : (Cond.methodLink "LevelTables$Level" (11 : Nat) ({ cls := "java/util/ArrayList", name := "<init>", desc := "()V" } : MethodName)) ∈ lwg := lwg_of (pt_1 _ (List.mem_of_getElem? (i := 141) rfl)) rfl
theorem k_142 : (Cond.instanceMethod ({ cls := "java/util/ArrayList", name := "<init>", desc := "()V" } : MethodName)) ∈ lwg := lwg_of (pt_1 _ (List.mem_of_getElem? (i := 142) rfl)) rfl
theorem k_143 : (Cond.code ({ cls := "java/util/ArrayList", name := "<init>", desc := "()V" } : MethodName) prog_33_method_2_code (1 : Nat) (Option.none : Option Jvm.ClassFile.FieldType)) ∈ lwg := lwg_of (pt_1 _ (List.mem_of_getElem? (i := 143) rfl)) rfl
theorem k_144 : (Cond.methodLink "java/util/ArrayList" (1 : Nat) ({ cls := "java/util/AbstractList", name := "<init>", desc := "()V" } : MethodName)) ∈ lwg := lwg_of (pt_1 _ (List.mem_of_getElem? (i := 144) rfl)) rfl
theorem k_145 : (Cond.instanceMethod ({ cls := "java/util/AbstractList", name := "<init>", desc := "()V" } : MethodName)) ∈ lwg := lwg_of (pt_1 _ (List.mem_of_getElem? (i := 145) rfl)) rfl
theorem k_146 : (Cond.code ({ cls := "java/util/AbstractList", name := "<init>", desc := "()V" } : MethodName) prog_32_method_1_code (1 : Nat) (Option.none : Option Jvm.ClassFile.FieldType)) ∈ lwg := lwg_of (pt_1 _ (List.mem_of_getElem? (i := 146) rfl)) rfl
theorem k_147 : (Cond.methodLink "java/util/AbstractList" (1 : Nat) ({ cls := "java/util/AbstractCollection", name := "<init>", desc := "()V" } : MethodName)) ∈ lwg := lwg_of (pt_1 _ (List.mem_of_getElem? (i := 147) rfl)) rfl
theorem k_148 : (Cond.instanceMethod ({ cls := "java/util/AbstractCollection", name := "<init>", desc := "()V" } : MethodName)) ∈ lwg := lwg_of (pt_1 _ (List.mem_of_getElem? (i := 148) rfl)) rfl
theorem k_149 : (Cond.code ({ cls := "java/util/AbstractCollection", name := "<init>", desc := "()V" } : MethodName) prog_31_method_1_code (1 : Nat) (Option.none : Option Jvm.ClassFile.FieldType)) ∈ lwg := lwg_of (pt_1 _ (List.mem_of_getElem? (i := 149) rfl)) rfl
theorem k_150 : (Cond.methodLink "java/util/AbstractCollection" (1 : Nat) ({ cls := "java/lang/Object", name := "<init>", desc := "()V" } : MethodName)) ∈ lwg := lwg_of (pt_1 _ (List.mem_of_getElem? (i := 150) rfl)) rfl
theorem k_151 : (Cond.fieldLink "java/util/ArrayList" (39 : Nat) "java/util/ArrayList" "DEFAULTCAPACITY_EMPTY_ELEMENTDATA" "[Ljava/lang/Object;") ∈ lwg := lwg_of (pt_1 _ (List.mem_of_getElem? (i := 151) rfl)) rfl
theorem k_153 : (Cond.fieldLink "java/util/ArrayList" (9 : Nat) "java/util/ArrayList" "elementData" "[Ljava/lang/Object;") ∈ lwg := lwg_of (pt_1 _ (List.mem_of_getElem? (i := 153) rfl)) rfl
theorem k_154 : (Cond.fieldLink "java/util/ArrayList" (48 : Nat) "java/util/ArrayList" "size" "I") ∈ lwg := lwg_of (pt_1 _ (List.mem_of_getElem? (i := 154) rfl)) rfl
theorem k_155 : (Cond.fieldLink "java/util/AbstractList" (7 : Nat) "java/util/AbstractList" "modCount" "I") ∈ lwg := lwg_of (pt_1 _ (List.mem_of_getElem? (i := 155) rfl)) rfl
theorem k_156 : (Cond.fieldLink "java/util/ArrayList" (63 : Nat) "java/util/ArrayList" "modCount" "I") ∈ lwg := lwg_of (pt_1 _ (List.mem_of_getElem? (i := 156) rfl)) rfl
theorem k_157 : (Cond.sameField "java/util/ArrayList" "java/util/AbstractList" "modCount" "I") ∈ lwg := lwg_of (pt_1 _ (List.mem_of_getElem? (i := 157) rfl)) rfl
theorem k_158 : (Cond.lays "java/util/ArrayList" "java/util/ArrayList" "elementData" "[Ljava/lang/Object;") ∈ lwg := lwg_of (pt_1 _ (List.mem_of_getElem? (i := 158) rfl)) rfl
theorem k_160 : (Cond.lays "java/util/ArrayList" "java/util/ArrayList" "size" "I") ∈ lwg := lwg_of (pt_1 _ (List.mem_of_getElem? (i := 160) rfl)) rfl
theorem k_162 : (Cond.lays "java/util/ArrayList" "java/util/AbstractList" "modCount" "I") ∈ lwg := lwg_of (pt_1 _ (List.mem_of_getElem? (i := 162) rfl)) rfl
theorem k_165 : (Cond.fieldLink "LevelTables$Level" (18 : Nat) "LevelTables$Level" "chip" "LLevelTables$Chip;") ∈ lwg := lwg_of (pt_1 _ (List.mem_of_getElem? (i := 165) rfl)) rfl
theorem k_166 : (Cond.fieldLink "LevelTables$Level" (12 : Nat) "LevelTables$Level" "tables" "Ljava/util/ArrayList;") ∈ lwg := lwg_of (pt_1 _ (List.mem_of_getElem? (i := 166) rfl)) rfl
theorem k_167 : (Cond.fieldLink "LevelTables$Level" (22 : Nat) "LevelTables$Level" "count" "I") ∈ lwg := lwg_of (pt_1 _ (List.mem_of_getElem? (i := 167) rfl)) rfl
theorem k_168 : (Cond.laysFinal "LevelTables$Level" "LevelTables$Level" "chip" "LLevelTables$Chip;") ∈ lwg := lwg_of (pt_1 _ (List.mem_of_getElem? (i := 168) rfl)) rfl
theorem k_170 : (Cond.laysFinal "LevelTables$Level" "LevelTables$Level" "tables" "Ljava/util/ArrayList;") ∈ lwg := lwg_of (pt_1 _ (List.mem_of_getElem? (i := 170) rfl)) rfl
theorem k_172 : (Cond.lays "LevelTables$Level" "LevelTables$Level" "count" "I") ∈ lwg := lwg_of (pt_1 _ (List.mem_of_getElem? (i := 172) rfl)) rfl
theorem k_174 : (Cond.laysFinal "LevelTables$Level" "LevelTables$Run" "middle" "LLevelTables$Version;") ∈ lwg := lwg_of (pt_1 _ (List.mem_of_getElem? (i := 174) rfl)) rfl
theorem k_176 : (Cond.classLink "LevelTables" (74 : Nat) "LevelTables$Walk") ∈ lwg := lwg_of (pt_1 _ (List.mem_of_getElem? (i := 176) rfl)) rfl
theorem k_177 : (Cond.instantiable "LevelTables$Walk" (8 : Nat)) ∈ lwg := lwg_of (pt_1 _ (List.mem_of_getElem? (i := 177) rfl)) rfl
theorem k_178 : (Cond.methodLink "LevelTables" (76 : Nat) ({ cls := "LevelTables$Walk", name := "<init>", desc := "([LLevelTables$Run;)V" } : MethodName)) ∈ lwg := lwg_of (pt_1 _ (List.mem_of_getElem? (i := 178) rfl)) rfl
theorem k_179 : (Cond.instanceMethod ({ cls := "LevelTables$Walk", name := "<init>", desc := "([LLevelTables$Run;)V" } : MethodName)) ∈ lwg := lwg_of (pt_1 _ (List.mem_of_getElem? (i := 179) rfl)) rfl
theorem k_180 : (Cond.code ({ cls := "LevelTables$Walk", name := "<init>", desc := "([LLevelTables$Run;)V" } : MethodName) prog_10_method_1_code (3 : Nat) (Option.none : Option Jvm.ClassFile.FieldType)) ∈ lwg := lwg_of (pt_1 _ (List.mem_of_getElem? (i := 180) rfl)) rfl
theorem k_181 : (Cond.methodLink "LevelTables$Walk" (3 : Nat) ({ cls := "java/lang/Object", name := "<init>", desc := "()V" } : MethodName)) ∈ lwg := lwg_of (pt_1 _ (List.mem_of_getElem? (i := 181) rfl)) rfl
theorem k_182 : (Cond.classLink "LevelTables$Walk" (18 : Nat) "LevelTables$Version") ∈ lwg := lwg_of (pt_1 _ (List.mem_of_getElem? (i := 182) rfl)) rfl
theorem k_185 : (Cond.fieldLink "LevelTables$Walk" (32 : Nat) "LevelTables$Walk" "runs" "[LLevelTables$Run;") ∈ lwg := lwg_of (pt_1 _ (List.mem_of_getElem? (i := 185) rfl)) rfl
theorem k_186 : (Cond.fieldLink "LevelTables$Walk" (9 : Nat) "LevelTables$Walk" "at" "[I") ∈ lwg := lwg_of (pt_1 _ (List.mem_of_getElem? (i := 186) rfl)) rfl
theorem k_187 : (Cond.fieldLink "LevelTables$Walk" (15 : Nat) "LevelTables$Walk" "stop" "[I") ∈ lwg := lwg_of (pt_1 _ (List.mem_of_getElem? (i := 187) rfl)) rfl
theorem k_188 : (Cond.fieldLink "LevelTables$Walk" (20 : Nat) "LevelTables$Walk" "heads" "[LLevelTables$Version;") ∈ lwg := lwg_of (pt_1 _ (List.mem_of_getElem? (i := 188) rfl)) rfl
theorem k_189 : (Cond.fieldLink "LevelTables$Walk" (25 : Nat) "LevelTables$Walk" "version" "LLevelTables$Version;") ∈ lwg := lwg_of (pt_1 _ (List.mem_of_getElem? (i := 189) rfl)) rfl
theorem k_190 : (Cond.fieldLink "LevelTables$Walk" (29 : Nat) "LevelTables$Walk" "next" "LLevelTables$Version;") ∈ lwg := lwg_of (pt_1 _ (List.mem_of_getElem? (i := 190) rfl)) rfl
theorem k_191 : (Cond.fieldLink "LevelTables$Walk" (52 : Nat) "LevelTables$Walk" "hasNext" "Z") ∈ lwg := lwg_of (pt_1 _ (List.mem_of_getElem? (i := 191) rfl)) rfl
theorem k_192 : (Cond.fieldLink "LevelTables$Walk" (68 : Nat) "LevelTables$Walk" "until" "I") ∈ lwg := lwg_of (pt_1 _ (List.mem_of_getElem? (i := 192) rfl)) rfl
theorem k_193 : (Cond.laysFinal "LevelTables$Walk" "LevelTables$Walk" "runs" "[LLevelTables$Run;") ∈ lwg := lwg_of (pt_1 _ (List.mem_of_getElem? (i := 193) rfl)) rfl
theorem k_195 : (Cond.laysFinal "LevelTables$Walk" "LevelTables$Walk" "at" "[I") ∈ lwg := lwg_of (pt_1 _ (List.mem_of_getElem? (i := 195) rfl)) rfl
theorem k_197 : (Cond.laysFinal "LevelTables$Walk" "LevelTables$Walk" "stop" "[I") ∈ lwg := lwg_of (pt_1 _ (List.mem_of_getElem? (i := 197) rfl)) rfl
theorem k_199 : (Cond.laysFinal "LevelTables$Walk" "LevelTables$Walk" "heads" "[LLevelTables$Version;") ∈ lwg := lwg_of (pt_1 _ (List.mem_of_getElem? (i := 199) rfl)) rfl
theorem k_201 : (Cond.laysFinal "LevelTables$Walk" "LevelTables$Walk" "version" "LLevelTables$Version;") ∈ lwg := lwg_of (pt_1 _ (List.mem_of_getElem? (i := 201) rfl)) rfl
theorem k_203 : (Cond.laysFinal "LevelTables$Walk" "LevelTables$Walk" "next" "LLevelTables$Version;") ∈ lwg := lwg_of (pt_1 _ (List.mem_of_getElem? (i := 203) rfl)) rfl
theorem k_205 : (Cond.lays "LevelTables$Walk" "LevelTables$Walk" "hasNext" "Z") ∈ lwg := lwg_of (pt_1 _ (List.mem_of_getElem? (i := 205) rfl)) rfl
theorem k_207 : (Cond.lays "LevelTables$Walk" "LevelTables$Walk" "until" "I") ∈ lwg := lwg_of (pt_1 _ (List.mem_of_getElem? (i := 207) rfl)) rfl
theorem k_210 : (Cond.classLink "LevelTables" (83 : Nat) "LevelTables$Writer") ∈ lwg := lwg_of (pt_1 _ (List.mem_of_getElem? (i := 210) rfl)) rfl
theorem k_211 : (Cond.instantiable "LevelTables$Writer" (5 : Nat)) ∈ lwg := lwg_of (pt_1 _ (List.mem_of_getElem? (i := 211) rfl)) rfl
theorem k_212 : (Cond.methodLink "LevelTables" (85 : Nat) ({ cls := "LevelTables$Writer", name := "<init>", desc := "(LLevelTables$Chip;)V" } : MethodName)) ∈ lwg := lwg_of (pt_1 _ (List.mem_of_getElem? (i := 212) rfl)) rfl
theorem k_213 : (Cond.instanceMethod ({ cls := "LevelTables$Writer", name := "<init>", desc := "(LLevelTables$Chip;)V" } : MethodName)) ∈ lwg := lwg_of (pt_1 _ (List.mem_of_getElem? (i := 213) rfl)) rfl
theorem k_214 : (Cond.code ({ cls := "LevelTables$Writer", name := "<init>", desc := "(LLevelTables$Chip;)V" } : MethodName) prog_11_method_1_code (2 : Nat) (Option.none : Option Jvm.ClassFile.FieldType)) ∈ lwg := lwg_of (pt_1 _ (List.mem_of_getElem? (i := 214) rfl)) rfl
theorem k_215 : (Cond.methodLink "LevelTables$Writer" (3 : Nat) ({ cls := "java/lang/Object", name := "<init>", desc := "()V" } : MethodName)) ∈ lwg := lwg_of (pt_1 _ (List.mem_of_getElem? (i := 215) rfl)) rfl
theorem k_216 : (Cond.classLink "LevelTables$Writer" (9 : Nat) "java/util/ArrayList") ∈ lwg := lwg_of (pt_1 _ (List.mem_of_getElem? (i := 216) rfl)) rfl
theorem k_217 : (Cond.methodLink "LevelTables$Writer" (11 : Nat) ({ cls := "java/util/ArrayList", name := "<init>", desc := "()V" } : MethodName)) ∈ lwg := lwg_of (pt_1 _ (List.mem_of_getElem? (i := 217) rfl)) rfl
theorem k_218 : (Cond.fieldLink "LevelTables$Writer" (22 : Nat) "LevelTables$Writer" "chip" "LLevelTables$Chip;") ∈ lwg := lwg_of (pt_1 _ (List.mem_of_getElem? (i := 218) rfl)) rfl
theorem k_219 : (Cond.fieldLink "LevelTables$Writer" (12 : Nat) "LevelTables$Writer" "tables" "Ljava/util/ArrayList;") ∈ lwg := lwg_of (pt_1 _ (List.mem_of_getElem? (i := 219) rfl)) rfl
theorem k_220 : (Cond.fieldLink "LevelTables$Writer" (18 : Nat) "LevelTables$Writer" "blocks" "[I") ∈ lwg := lwg_of (pt_1 _ (List.mem_of_getElem? (i := 220) rfl)) rfl
theorem k_221 : (Cond.fieldLink "LevelTables$Writer" (29 : Nat) "LevelTables$Writer" "count" "I") ∈ lwg := lwg_of (pt_1 _ (List.mem_of_getElem? (i := 221) rfl)) rfl
theorem k_222 : (Cond.fieldLink "LevelTables$Writer" (46 : Nat) "LevelTables$Writer" "sum" "J") ∈ lwg := lwg_of (pt_1 _ (List.mem_of_getElem? (i := 222) rfl)) rfl
theorem k_223 : (Cond.laysFinal "LevelTables$Writer" "LevelTables$Writer" "chip" "LLevelTables$Chip;") ∈ lwg := lwg_of (pt_1 _ (List.mem_of_getElem? (i := 223) rfl)) rfl
theorem k_225 : (Cond.laysFinal "LevelTables$Writer" "LevelTables$Writer" "tables" "Ljava/util/ArrayList;") ∈ lwg := lwg_of (pt_1 _ (List.mem_of_getElem? (i := 225) rfl)) rfl
theorem k_227 : (Cond.laysFinal "LevelTables$Writer" "LevelTables$Writer" "blocks" "[I") ∈ lwg := lwg_of (pt_1 _ (List.mem_of_getElem? (i := 227) rfl)) rfl
theorem k_229 : (Cond.lays "LevelTables$Writer" "LevelTables$Writer" "count" "I") ∈ lwg := lwg_of (pt_1 _ (List.mem_of_getElem? (i := 229) rfl)) rfl
theorem k_231 : (Cond.lays "LevelTables$Writer" "LevelTables$Writer" "sum" "J") ∈ lwg := lwg_of (pt_1 _ (List.mem_of_getElem? (i := 231) rfl)) rfl
theorem k_234 : (Cond.fieldLink "LevelTables" (12 : Nat) "LevelTables" "tape" "LLevelTables$Tape;") ∈ lwg := lwg_of (pt_1 _ (List.mem_of_getElem? (i := 234) rfl)) rfl
theorem k_235 : (Cond.fieldLink "LevelTables" (19 : Nat) "LevelTables" "views" "LLevelTables$Views;") ∈ lwg := lwg_of (pt_1 _ (List.mem_of_getElem? (i := 235) rfl)) rfl
theorem k_236 : (Cond.fieldLink "LevelTables" (26 : Nat) "LevelTables" "chip" "LLevelTables$Chip;") ∈ lwg := lwg_of (pt_1 _ (List.mem_of_getElem? (i := 236) rfl)) rfl
theorem k_237 : (Cond.fieldLink "LevelTables" (33 : Nat) "LevelTables" "memory" "LLevelTables$Memory;") ∈ lwg := lwg_of (pt_1 _ (List.mem_of_getElem? (i := 237) rfl)) rfl
theorem k_238 : (Cond.fieldLink "LevelTables" (39 : Nat) "LevelTables" "levels" "[LLevelTables$Level;") ∈ lwg := lwg_of (pt_1 _ (List.mem_of_getElem? (i := 238) rfl)) rfl
theorem k_239 : (Cond.fieldLink "LevelTables" (45 : Nat) "LevelTables" "runs" "[LLevelTables$Run;") ∈ lwg := lwg_of (pt_1 _ (List.mem_of_getElem? (i := 239) rfl)) rfl
theorem k_240 : (Cond.fieldLink "LevelTables" (79 : Nat) "LevelTables" "walk" "LLevelTables$Walk;") ∈ lwg := lwg_of (pt_2 _ (List.mem_of_getElem? (i := 0) rfl)) rfl
theorem k_241 : (Cond.fieldLink "LevelTables" (86 : Nat) "LevelTables" "writer" "LLevelTables$Writer;") ∈ lwg := lwg_of (pt_2 _ (List.mem_of_getElem? (i := 1) rfl)) rfl
theorem k_242 : (Cond.fieldLink "LevelTables" (52 : Nat) "LevelTables" "key" "LLevelTables$Version;") ∈ lwg := lwg_of (pt_2 _ (List.mem_of_getElem? (i := 2) rfl)) rfl
theorem k_243 : (Cond.fieldLink "LevelTables" (56 : Nat) "LevelTables" "target" "LLevelTables$Version;") ∈ lwg := lwg_of (pt_2 _ (List.mem_of_getElem? (i := 3) rfl)) rfl
theorem k_244 : (Cond.fieldLink "LevelTables" (59 : Nat) "LevelTables" "found" "LLevelTables$Version;") ∈ lwg := lwg_of (pt_2 _ (List.mem_of_getElem? (i := 4) rfl)) rfl
theorem k_245 : (Cond.fieldLink "LevelTables" (62 : Nat) "LevelTables" "low" "LLevelTables$Version;") ∈ lwg := lwg_of (pt_2 _ (List.mem_of_getElem? (i := 5) rfl)) rfl
theorem k_246 : (Cond.fieldLink "LevelTables" (65 : Nat) "LevelTables" "high" "LLevelTables$Version;") ∈ lwg := lwg_of (pt_2 _ (List.mem_of_getElem? (i := 6) rfl)) rfl
theorem k_247 : (Cond.fieldLink "LevelTables" (68 : Nat) "LevelTables" "shown" "LLevelTables$Version;") ∈ lwg := lwg_of (pt_2 _ (List.mem_of_getElem? (i := 7) rfl)) rfl
theorem k_248 : (Cond.fieldLink "LevelTables" (149 : Nat) "LevelTables" "isShown" "Z") ∈ lwg := lwg_of (pt_2 _ (List.mem_of_getElem? (i := 8) rfl)) rfl
theorem k_249 : (Cond.fieldLink "LevelTables" (186 : Nat) "LevelTables" "living" "I") ∈ lwg := lwg_of (pt_2 _ (List.mem_of_getElem? (i := 9) rfl)) rfl
theorem k_250 : (Cond.laysFinal "LevelTables" "LevelTables" "tape" "LLevelTables$Tape;") ∈ lwg := lwg_of (pt_2 _ (List.mem_of_getElem? (i := 10) rfl)) rfl
theorem k_252 : (Cond.laysFinal "LevelTables" "LevelTables" "views" "LLevelTables$Views;") ∈ lwg := lwg_of (pt_2 _ (List.mem_of_getElem? (i := 12) rfl)) rfl
theorem k_254 : (Cond.laysFinal "LevelTables" "LevelTables" "chip" "LLevelTables$Chip;") ∈ lwg := lwg_of (pt_2 _ (List.mem_of_getElem? (i := 14) rfl)) rfl
theorem k_256 : (Cond.laysFinal "LevelTables" "LevelTables" "memory" "LLevelTables$Memory;") ∈ lwg := lwg_of (pt_2 _ (List.mem_of_getElem? (i := 16) rfl)) rfl
theorem k_258 : (Cond.laysFinal "LevelTables" "LevelTables" "levels" "[LLevelTables$Level;") ∈ lwg := lwg_of (pt_2 _ (List.mem_of_getElem? (i := 18) rfl)) rfl
theorem k_260 : (Cond.laysFinal "LevelTables" "LevelTables" "runs" "[LLevelTables$Run;") ∈ lwg := lwg_of (pt_2 _ (List.mem_of_getElem? (i := 20) rfl)) rfl
theorem k_262 : (Cond.laysFinal "LevelTables" "LevelTables" "walk" "LLevelTables$Walk;") ∈ lwg := lwg_of (pt_2 _ (List.mem_of_getElem? (i := 22) rfl)) rfl
theorem k_264 : (Cond.laysFinal "LevelTables" "LevelTables" "writer" "LLevelTables$Writer;") ∈ lwg := lwg_of (pt_2 _ (List.mem_of_getElem? (i := 24) rfl)) rfl
theorem k_266 : (Cond.laysFinal "LevelTables" "LevelTables" "key" "LLevelTables$Version;") ∈ lwg := lwg_of (pt_2 _ (List.mem_of_getElem? (i := 26) rfl)) rfl
theorem k_268 : (Cond.laysFinal "LevelTables" "LevelTables" "target" "LLevelTables$Version;") ∈ lwg := lwg_of (pt_2 _ (List.mem_of_getElem? (i := 28) rfl)) rfl
theorem k_270 : (Cond.laysFinal "LevelTables" "LevelTables" "found" "LLevelTables$Version;") ∈ lwg := lwg_of (pt_2 _ (List.mem_of_getElem? (i := 30) rfl)) rfl
theorem k_272 : (Cond.laysFinal "LevelTables" "LevelTables" "low" "LLevelTables$Version;") ∈ lwg := lwg_of (pt_2 _ (List.mem_of_getElem? (i := 32) rfl)) rfl
theorem k_274 : (Cond.laysFinal "LevelTables" "LevelTables" "high" "LLevelTables$Version;") ∈ lwg := lwg_of (pt_2 _ (List.mem_of_getElem? (i := 34) rfl)) rfl
theorem k_276 : (Cond.laysFinal "LevelTables" "LevelTables" "shown" "LLevelTables$Version;") ∈ lwg := lwg_of (pt_2 _ (List.mem_of_getElem? (i := 36) rfl)) rfl
theorem k_278 : (Cond.lays "LevelTables" "LevelTables" "isShown" "Z") ∈ lwg := lwg_of (pt_2 _ (List.mem_of_getElem? (i := 38) rfl)) rfl
theorem k_280 : (Cond.lays "LevelTables" "LevelTables" "living" "I") ∈ lwg := lwg_of (pt_2 _ (List.mem_of_getElem? (i := 40) rfl)) rfl
theorem k_283 : (Cond.methodLink "LevelTablesLaw" (97 : Nat) ({ cls := "LevelTables", name := "flush", desc := "()I" } : MethodName)) ∈ lwg := lwg_of (pt_2 _ (List.mem_of_getElem? (i := 43) rfl)) rfl
theorem k_284 : (Cond.instanceMethod ({ cls := "LevelTables", name := "flush", desc := "()I" } : MethodName)) ∈ lwg := lwg_of (pt_2 _ (List.mem_of_getElem? (i := 44) rfl)) rfl
theorem k_285 : (Cond.selects "LevelTables" ({ cls := "LevelTables", name := "flush", desc := "()I" } : MethodName) ({ cls := "LevelTables", name := "flush", desc := "()I" } : MethodName)) ∈ lwg := lwg_of (pt_2 _ (List.mem_of_getElem? (i := 45) rfl)) rfl
theorem k_286 : (Cond.code ({ cls := "LevelTables", name := "flush", desc := "()I" } : MethodName) prog_1_method_12_code (3 : Nat) (Option.some FieldType.int)) ∈ lwg := lwg_of (pt_2 _ (List.mem_of_getElem? (i := 46) rfl)) rfl
theorem k_287 : (Cond.methodLink "LevelTables" (170 : Nat) ({ cls := "LevelTables$Memory", name := "count", desc := "()I" } : MethodName)) ∈ lwg := lwg_of (pt_2 _ (List.mem_of_getElem? (i := 47) rfl)) rfl
theorem k_288 : (Cond.instanceMethod ({ cls := "LevelTables$Memory", name := "count", desc := "()I" } : MethodName)) ∈ lwg := lwg_of (pt_2 _ (List.mem_of_getElem? (i := 48) rfl)) rfl
theorem k_289 : (Cond.selects "LevelTables$Memory" ({ cls := "LevelTables$Memory", name := "count", desc := "()I" } : MethodName) ({ cls := "LevelTables$Memory", name := "count", desc := "()I" } : MethodName)) ∈ lwg := lwg_of (pt_2 _ (List.mem_of_getElem? (i := 49) rfl)) rfl
theorem k_290 : (Cond.code ({ cls := "LevelTables$Memory", name := "count", desc := "()I" } : MethodName) prog_4_method_2_code (1 : Nat) (Option.some FieldType.int)) ∈ lwg := lwg_of (pt_2 _ (List.mem_of_getElem? (i := 50) rfl)) rfl
theorem k_291 : (Cond.methodLink "LevelTables" (173 : Nat) ({ cls := "LevelTables", name := "writeOut", desc := "()V" } : MethodName)) ∈ lwg := lwg_of (pt_2 _ (List.mem_of_getElem? (i := 51) rfl)) rfl
theorem k_293 : (Cond.instanceMethod ({ cls := "LevelTables", name := "writeOut", desc := "()V" } : MethodName)) ∈ lwg := lwg_of (pt_2 _ (List.mem_of_getElem? (i := 53) rfl)) rfl
theorem k_294 : (Cond.code ({ cls := "LevelTables", name := "writeOut", desc := "()V" } : MethodName) prog_1_method_20_code (4 : Nat) (Option.none : Option Jvm.ClassFile.FieldType)) ∈ lwg := lwg_of (pt_2 _ (List.mem_of_getElem? (i := 54) rfl)) rfl
theorem k_295 : (Cond.methodLink "LevelTables" (250 : Nat) ({ cls := "LevelTables$Memory", name := "load", desc := "(ILLevelTables$Version;)V" } : MethodName)) ∈ lwg := lwg_of (pt_2 _ (List.mem_of_getElem? (i := 55) rfl)) rfl
theorem k_296 : (Cond.instanceMethod ({ cls := "LevelTables$Memory", name := "load", desc := "(ILLevelTables$Version;)V" } : MethodName)) ∈ lwg := lwg_of (pt_2 _ (List.mem_of_getElem? (i := 56) rfl)) rfl
theorem k_297 : (Cond.selects "LevelTables$Memory" ({ cls := "LevelTables$Memory", name := "load", desc := "(ILLevelTables$Version;)V" } : MethodName) ({ cls := "LevelTables$Memory", name := "load", desc := "(ILLevelTables$Version;)V" } : MethodName)) ∈ lwg := lwg_of (pt_2 _ (List.mem_of_getElem? (i := 57) rfl)) rfl
theorem k_298 : (Cond.code ({ cls := "LevelTables$Memory", name := "load", desc := "(ILLevelTables$Version;)V" } : MethodName) prog_4_method_3_code (3 : Nat) (Option.none : Option Jvm.ClassFile.FieldType)) ∈ lwg := lwg_of (pt_2 _ (List.mem_of_getElem? (i := 58) rfl)) rfl
theorem k_299 : (Cond.methodLink "LevelTables$Memory" (19 : Nat) ({ cls := "LevelTables$Version", name := "words", desc := "()[J" } : MethodName)) ∈ lwg := lwg_of (pt_2 _ (List.mem_of_getElem? (i := 59) rfl)) rfl
theorem k_300 : (Cond.instanceMethod ({ cls := "LevelTables$Version", name := "words", desc := "()[J" } : MethodName)) ∈ lwg := lwg_of (pt_2 _ (List.mem_of_getElem? (i := 60) rfl)) rfl
theorem k_301 : (Cond.selects "LevelTables$Version" ({ cls := "LevelTables$Version", name := "words", desc := "()[J" } : MethodName) ({ cls := "LevelTables$Version", name := "words", desc := "()[J" } : MethodName)) ∈ lwg := lwg_of (pt_2 _ (List.mem_of_getElem? (i := 61) rfl)) rfl
theorem k_302 : (Cond.code ({ cls := "LevelTables$Version", name := "words", desc := "()[J" } : MethodName) prog_8_method_2_code (1 : Nat) (Option.some (FieldType.array FieldType.long))) ∈ lwg := lwg_of (pt_2 _ (List.mem_of_getElem? (i := 62) rfl)) rfl
theorem k_303 : (Cond.methodLink "LevelTables$Memory" (25 : Nat) ({ cls := "java/lang/System", name := "arraycopy", desc := "(Ljava/lang/Object;ILjava/lang/Object;II)V" } : MethodName)) ∈ lwg := lwg_of (pt_2 _ (List.mem_of_getElem? (i := 63) rfl)) rfl
theorem k_304 : (Cond.static ({ cls := "java/lang/System", name := "arraycopy", desc := "(Ljava/lang/Object;ILjava/lang/Object;II)V" } : MethodName)) ∈ lwg := lwg_of (pt_2 _ (List.mem_of_getElem? (i := 64) rfl)) rfl
theorem k_305 : (Cond.native ({ cls := "java/lang/System", name := "arraycopy", desc := "(Ljava/lang/Object;ILjava/lang/Object;II)V" } : MethodName)) ∈ lwg := lwg_of (pt_2 _ (List.mem_of_getElem? (i := 65) rfl)) rfl
theorem k_306 : (Cond.methodLink "LevelTables" (251 : Nat) ({ cls := "LevelTables$Level", name := "firstTableReaching", desc := "(LLevelTables$Version;)I" } : MethodName)) ∈ lwg := lwg_of (pt_2 _ (List.mem_of_getElem? (i := 66) rfl)) rfl
theorem k_307 : (Cond.instanceMethod ({ cls := "LevelTables$Level", name := "firstTableReaching", desc := "(LLevelTables$Version;)I" } : MethodName)) ∈ lwg := lwg_of (pt_2 _ (List.mem_of_getElem? (i := 67) rfl)) rfl
theorem k_308 : (Cond.selects "LevelTables$Level" ({ cls := "LevelTables$Level", name := "firstTableReaching", desc := "(LLevelTables$Version;)I" } : MethodName) ({ cls := "LevelTables$Level", name := "firstTableReaching", desc := "(LLevelTables$Version;)I" } : MethodName)) ∈ lwg := lwg_of (pt_2 _ (List.mem_of_getElem? (i := 68) rfl)) rfl
theorem k_309 : (Cond.code ({ cls := "LevelTables$Level", name := "firstTableReaching", desc := "(LLevelTables$Version;)I" } : MethodName) prog_3_method_7_code (2 : Nat) (Option.some FieldType.int)) ∈ lwg := lwg_of (pt_2 _ (List.mem_of_getElem? (i := 69) rfl)) rfl
theorem k_310 : (Cond.methodLink "LevelTables$Level" (52 : Nat) ({ cls := "LevelTables$Version", name := "setMoment", desc := "(I)V" } : MethodName)) ∈ lwg := lwg_of (pt_2 _ (List.mem_of_getElem? (i := 70) rfl)) rfl
theorem k_311 : (Cond.instanceMethod ({ cls := "LevelTables$Version", name := "setMoment", desc := "(I)V" } : MethodName)) ∈ lwg := lwg_of (pt_2 _ (List.mem_of_getElem? (i := 71) rfl)) rfl
theorem k_312 : (Cond.selects "LevelTables$Version" ({ cls := "LevelTables$Version", name := "setMoment", desc := "(I)V" } : MethodName) ({ cls := "LevelTables$Version", name := "setMoment", desc := "(I)V" } : MethodName)) ∈ lwg := lwg_of (pt_2 _ (List.mem_of_getElem? (i := 72) rfl)) rfl
theorem k_313 : (Cond.code ({ cls := "LevelTables$Version", name := "setMoment", desc := "(I)V" } : MethodName) prog_8_method_10_code (2 : Nat) (Option.none : Option Jvm.ClassFile.FieldType)) ∈ lwg := lwg_of (pt_2 _ (List.mem_of_getElem? (i := 73) rfl)) rfl
theorem k_314 : (Cond.methodLink "LevelTables$Version" (30 : Nat) ({ cls := "LevelTables$Version", name := "describe", desc := "(IZII)V" } : MethodName)) ∈ lwg := lwg_of (pt_2 _ (List.mem_of_getElem? (i := 74) rfl)) rfl
theorem k_315 : (Cond.instanceMethod ({ cls := "LevelTables$Version", name := "describe", desc := "(IZII)V" } : MethodName)) ∈ lwg := lwg_of (pt_2 _ (List.mem_of_getElem? (i := 75) rfl)) rfl
theorem k_316 : (Cond.selects "LevelTables$Version" ({ cls := "LevelTables$Version", name := "describe", desc := "(IZII)V" } : MethodName) ({ cls := "LevelTables$Version", name := "describe", desc := "(IZII)V" } : MethodName)) ∈ lwg := lwg_of (pt_2 _ (List.mem_of_getElem? (i := 76) rfl)) rfl
theorem k_317 : (Cond.code ({ cls := "LevelTables$Version", name := "describe", desc := "(IZII)V" } : MethodName) prog_8_method_11_code (5 : Nat) (Option.none : Option Jvm.ClassFile.FieldType)) ∈ lwg := lwg_of (pt_2 _ (List.mem_of_getElem? (i := 77) rfl)) rfl
theorem k_318 : (Cond.methodLink "LevelTables$Version" (34 : Nat) ({ cls := "LevelTables$Version", name := "length", desc := "()I" } : MethodName)) ∈ lwg := lwg_of (pt_2 _ (List.mem_of_getElem? (i := 78) rfl)) rfl
theorem k_319 : (Cond.instanceMethod ({ cls := "LevelTables$Version", name := "length", desc := "()I" } : MethodName)) ∈ lwg := lwg_of (pt_2 _ (List.mem_of_getElem? (i := 79) rfl)) rfl
theorem k_320 : (Cond.selects "LevelTables$Version" ({ cls := "LevelTables$Version", name := "length", desc := "()I" } : MethodName) ({ cls := "LevelTables$Version", name := "length", desc := "()I" } : MethodName)) ∈ lwg := lwg_of (pt_2 _ (List.mem_of_getElem? (i := 80) rfl)) rfl
theorem k_321 : (Cond.code ({ cls := "LevelTables$Version", name := "length", desc := "()I" } : MethodName) prog_8_method_3_code (1 : Nat) (Option.some FieldType.int)) ∈ lwg := lwg_of (pt_2 _ (List.mem_of_getElem? (i := 81) rfl)) rfl
theorem k_322 : (Cond.methodLink "LevelTables$Level" (58 : Nat) ({ cls := "LevelTables$Level", name := "firstNotBefore", desc := "(LLevelTables$Version;)I" } : MethodName)) ∈ lwg := lwg_of (pt_2 _ (List.mem_of_getElem? (i := 82) rfl)) rfl
theorem k_323 : (Cond.sameMethod "LevelTables$Level" "LevelTables$Run" "firstNotBefore" "(LLevelTables$Version;)I") ∈ lwg := lwg_of (pt_2 _ (List.mem_of_getElem? (i := 83) rfl)) rfl
theorem k_325 : (Cond.selects "LevelTables$Level" ({ cls := "LevelTables$Level", name := "firstNotBefore", desc := "(LLevelTables$Version;)I" } : MethodName) ({ cls := "LevelTables$Run", name := "firstNotBefore", desc := "(LLevelTables$Version;)I" } : MethodName)) ∈ lwg := lwg_of (pt_2 _ (List.mem_of_getElem? (i := 85) rfl)) rfl
theorem k_326 : (Cond.instanceMethod ({ cls := "LevelTables$Run", name := "firstNotBefore", desc := "(LLevelTables$Version;)I" } : MethodName)) ∈ lwg := lwg_of (pt_2 _ (List.mem_of_getElem? (i := 86) rfl)) rfl
theorem k_327 : (Cond.code ({ cls := "LevelTables$Run", name := "firstNotBefore", desc := "(LLevelTables$Version;)I" } : MethodName) prog_5_method_4_code (5 : Nat) (Option.some FieldType.int)) ∈ lwg := lwg_of (pt_2 _ (List.mem_of_getElem? (i := 87) rfl)) rfl
theorem k_328 : (Cond.methodLink "LevelTables$Run" (16 : Nat) ({ cls := "LevelTables$Run", name := "count", desc := "()I" } : MethodName)) ∈ lwg := lwg_of (pt_2 _ (List.mem_of_getElem? (i := 88) rfl)) rfl
theorem k_330 : (Cond.sameMethod "LevelTables$Run" "LevelTables$Run" "count" "()I") ∈ lwg := lwg_of (pt_2 _ (List.mem_of_getElem? (i := 90) rfl)) rfl
theorem k_331 : (Cond.selects "LevelTables$Level" ({ cls := "LevelTables$Run", name := "count", desc := "()I" } : MethodName) ({ cls := "LevelTables$Level", name := "count", desc := "()I" } : MethodName)) ∈ lwg := lwg_of (pt_2 _ (List.mem_of_getElem? (i := 91) rfl)) rfl
theorem k_332 : (Cond.instanceMethod ({ cls := "LevelTables$Level", name := "count", desc := "()I" } : MethodName)) ∈ lwg := lwg_of (pt_2 _ (List.mem_of_getElem? (i := 92) rfl)) rfl
theorem k_333 : (Cond.code ({ cls := "LevelTables$Level", name := "count", desc := "()I" } : MethodName) prog_3_method_2_code (1 : Nat) (Option.some FieldType.int)) ∈ lwg := lwg_of (pt_2 _ (List.mem_of_getElem? (i := 93) rfl)) rfl
theorem k_334 : (Cond.selects "LevelTables$Memory" ({ cls := "LevelTables$Run", name := "count", desc := "()I" } : MethodName) ({ cls := "LevelTables$Memory", name := "count", desc := "()I" } : MethodName)) ∈ lwg := lwg_of (pt_2 _ (List.mem_of_getElem? (i := 94) rfl)) rfl
theorem k_335 : (Cond.methodLink "LevelTables$Run" (20 : Nat) ({ cls := "LevelTables$Run", name := "load", desc := "(ILLevelTables$Version;)V" } : MethodName)) ∈ lwg := lwg_of (pt_2 _ (List.mem_of_getElem? (i := 95) rfl)) rfl
theorem k_337 : (Cond.sameMethod "LevelTables$Run" "LevelTables$Run" "load" "(ILLevelTables$Version;)V") ∈ lwg := lwg_of (pt_2 _ (List.mem_of_getElem? (i := 97) rfl)) rfl
theorem k_338 : (Cond.selects "LevelTables$Level" ({ cls := "LevelTables$Run", name := "load", desc := "(ILLevelTables$Version;)V" } : MethodName) ({ cls := "LevelTables$Level", name := "load", desc := "(ILLevelTables$Version;)V" } : MethodName)) ∈ lwg := lwg_of (pt_2 _ (List.mem_of_getElem? (i := 98) rfl)) rfl
theorem k_339 : (Cond.instanceMethod ({ cls := "LevelTables$Level", name := "load", desc := "(ILLevelTables$Version;)V" } : MethodName)) ∈ lwg := lwg_of (pt_2 _ (List.mem_of_getElem? (i := 99) rfl)) rfl
theorem k_340 : (Cond.code ({ cls := "LevelTables$Level", name := "load", desc := "(ILLevelTables$Version;)V" } : MethodName) prog_3_method_3_code (6 : Nat) (Option.none : Option Jvm.ClassFile.FieldType)) ∈ lwg := lwg_of (pt_2 _ (List.mem_of_getElem? (i := 100) rfl)) rfl
theorem k_341 : (Cond.methodLink "LevelTables$Level" (26 : Nat) ({ cls := "LevelTables$Level", name := "tableWith", desc := "(I)I" } : MethodName)) ∈ lwg := lwg_of (pt_2 _ (List.mem_of_getElem? (i := 101) rfl)) rfl
theorem k_343 : (Cond.instanceMethod ({ cls := "LevelTables$Level", name := "tableWith", desc := "(I)I" } : MethodName)) ∈ lwg := lwg_of (pt_2 _ (List.mem_of_getElem? (i := 103) rfl)) rfl
theorem k_344 : (Cond.code ({ cls := "LevelTables$Level", name := "tableWith", desc := "(I)I" } : MethodName) prog_3_method_6_code (5 : Nat) (Option.some FieldType.int)) ∈ lwg := lwg_of (pt_2 _ (List.mem_of_getElem? (i := 104) rfl)) rfl
theorem k_345 : (Cond.methodLink "LevelTables$Level" (30 : Nat) ({ cls := "java/util/ArrayList", name := "size", desc := "()I" } : MethodName)) ∈ lwg := lwg_of (pt_2 _ (List.mem_of_getElem? (i := 105) rfl)) rfl
theorem k_346 : (Cond.instanceMethod ({ cls := "java/util/ArrayList", name := "size", desc := "()I" } : MethodName)) ∈ lwg := lwg_of (pt_2 _ (List.mem_of_getElem? (i := 106) rfl)) rfl
theorem k_347 : (Cond.selects "java/util/ArrayList" ({ cls := "java/util/ArrayList", name := "size", desc := "()I" } : MethodName) ({ cls := "java/util/ArrayList", name := "size", desc := "()I" } : MethodName)) ∈ lwg := lwg_of (pt_2 _ (List.mem_of_getElem? (i := 107) rfl)) rfl
theorem k_348 : (Cond.code ({ cls := "java/util/ArrayList", name := "size", desc := "()I" } : MethodName) prog_33_method_8_code (1 : Nat) (Option.some FieldType.int)) ∈ lwg := lwg_of (pt_2 _ (List.mem_of_getElem? (i := 108) rfl)) rfl
theorem k_349 : (Cond.methodLink "LevelTables$Level" (34 : Nat) ({ cls := "java/util/ArrayList", name := "get", desc := "(I)Ljava/lang/Object;" } : MethodName)) ∈ lwg := lwg_of (pt_2 _ (List.mem_of_getElem? (i := 109) rfl)) rfl
theorem k_350 : (Cond.instanceMethod ({ cls := "java/util/ArrayList", name := "get", desc := "(I)Ljava/lang/Object;" } : MethodName)) ∈ lwg := lwg_of (pt_2 _ (List.mem_of_getElem? (i := 110) rfl)) rfl
theorem k_351 : (Cond.selects "java/util/ArrayList" ({ cls := "java/util/ArrayList", name := "get", desc := "(I)Ljava/lang/Object;" } : MethodName) ({ cls := "java/util/ArrayList", name := "get", desc := "(I)Ljava/lang/Object;" } : MethodName)) ∈ lwg := lwg_of (pt_2 _ (List.mem_of_getElem? (i := 111) rfl)) rfl
theorem k_352 : (Cond.code ({ cls := "java/util/ArrayList", name := "get", desc := "(I)Ljava/lang/Object;" } : MethodName) prog_33_method_20_code (2 : Nat) (Option.some (FieldType.object "java/lang/Object"))) ∈ lwg := lwg_of (pt_2 _ (List.mem_of_getElem? (i := 112) rfl)) rfl
theorem k_353 : (Cond.methodLink "java/util/ArrayList" (118 : Nat) ({ cls := "java/util/Objects", name := "checkIndex", desc := "(II)I" } : MethodName)) ∈ lwg := lwg_of (pt_2 _ (List.mem_of_getElem? (i := 113) rfl)) rfl
theorem k_354 : (Cond.static ({ cls := "java/util/Objects", name := "checkIndex", desc := "(II)I" } : MethodName)) ∈ lwg := lwg_of (pt_2 _ (List.mem_of_getElem? (i := 114) rfl)) rfl
theorem k_355 : (Cond.code ({ cls := "java/util/Objects", name := "checkIndex", desc := "(II)I" } : MethodName) prog_38_method_17_code (2 : Nat) (Option.some FieldType.int)) ∈ lwg := lwg_of (pt_2 _ (List.mem_of_getElem? (i := 115) rfl)) rfl
theorem k_356 : (Cond.methodLink "java/util/Objects" (105 : Nat) ({ cls := "jdk/internal/util/Preconditions", name := "checkIndex", desc := "(IILjava/util/function/BiFunction;)I" } : MethodName)) ∈ lwg := lwg_of (pt_2 _ (List.mem_of_getElem? (i := 116) rfl)) rfl
theorem k_357 : (Cond.static ({ cls := "jdk/internal/util/Preconditions", name := "checkIndex", desc := "(IILjava/util/function/BiFunction;)I" } : MethodName)) ∈ lwg := lwg_of (pt_2 _ (List.mem_of_getElem? (i := 117) rfl)) rfl
theorem k_358 : (Cond.code ({ cls := "jdk/internal/util/Preconditions", name := "checkIndex", desc := "(IILjava/util/function/BiFunction;)I" } : MethodName) prog_42_method_11_code (3 : Nat) (Option.some FieldType.int)) ∈ lwg := lwg_of (pt_2 _ (List.mem_of_getElem? (i := 118) rfl)) rfl
theorem k_359 : (Cond.methodLink "java/util/ArrayList" (123 : Nat) ({ cls := "java/util/ArrayList", name := "elementData", desc := "(I)Ljava/lang/Object;" } : MethodName)) ∈ lwg := lwg_of (pt_2 _ (List.mem_of_getElem? (i := 119) rfl)) rfl
theorem k_360 : (Cond.instanceMethod ({ cls := "java/util/ArrayList", name := "elementData", desc := "(I)Ljava/lang/Object;" } : MethodName)) ∈ lwg := lwg_of (pt_2 _ (List.mem_of_getElem? (i := 120) rfl)) rfl
theorem k_361 : (Cond.selects "java/util/ArrayList" ({ cls := "java/util/ArrayList", name := "elementData", desc := "(I)Ljava/lang/Object;" } : MethodName) ({ cls := "java/util/ArrayList", name := "elementData", desc := "(I)Ljava/lang/Object;" } : MethodName)) ∈ lwg := lwg_of (pt_2 _ (List.mem_of_getElem? (i := 121) rfl)) rfl
theorem k_362 : (Cond.code ({ cls := "java/util/ArrayList", name := "elementData", desc := "(I)Ljava/lang/Object;" } : MethodName) prog_33_method_18_code (2 : Nat) (Option.some (FieldType.object "java/lang/Object"))) ∈ lwg := lwg_of (pt_2 _ (List.mem_of_getElem? (i := 122) rfl)) rfl
theorem k_363 : (Cond.classLink "LevelTables$Level" (38 : Nat) "LevelTables$Table") ∈ lwg := lwg_of (pt_2 _ (List.mem_of_getElem? (i := 123) rfl)) rfl
theorem k_364 : (Cond.methodLink "LevelTables$Level" (40 : Nat) ({ cls := "LevelTables$Table", name := "start", desc := "()I" } : MethodName)) ∈ lwg := lwg_of (pt_2 _ (List.mem_of_getElem? (i := 124) rfl)) rfl
theorem k_365 : (Cond.instanceMethod ({ cls := "LevelTables$Table", name := "start", desc := "()I" } : MethodName)) ∈ lwg := lwg_of (pt_2 _ (List.mem_of_getElem? (i := 125) rfl)) rfl
theorem k_366 : (Cond.selects "LevelTables$Table" ({ cls := "LevelTables$Table", name := "start", desc := "()I" } : MethodName) ({ cls := "LevelTables$Table", name := "start", desc := "()I" } : MethodName)) ∈ lwg := lwg_of (pt_2 _ (List.mem_of_getElem? (i := 126) rfl)) rfl
theorem k_367 : (Cond.code ({ cls := "LevelTables$Table", name := "start", desc := "()I" } : MethodName) prog_6_method_4_code (1 : Nat) (Option.some FieldType.int)) ∈ lwg := lwg_of (pt_2 _ (List.mem_of_getElem? (i := 127) rfl)) rfl
theorem k_368 : (Cond.methodLink "LevelTables$Level" (43 : Nat) ({ cls := "LevelTables$Table", name := "blockOf", desc := "(I)I" } : MethodName)) ∈ lwg := lwg_of (pt_2 _ (List.mem_of_getElem? (i := 128) rfl)) rfl
theorem k_369 : (Cond.instanceMethod ({ cls := "LevelTables$Table", name := "blockOf", desc := "(I)I" } : MethodName)) ∈ lwg := lwg_of (pt_2 _ (List.mem_of_getElem? (i := 129) rfl)) rfl
theorem k_370 : (Cond.selects "LevelTables$Table" ({ cls := "LevelTables$Table", name := "blockOf", desc := "(I)I" } : MethodName) ({ cls := "LevelTables$Table", name := "blockOf", desc := "(I)I" } : MethodName)) ∈ lwg := lwg_of (pt_2 _ (List.mem_of_getElem? (i := 130) rfl)) rfl
theorem k_371 : (Cond.code ({ cls := "LevelTables$Table", name := "blockOf", desc := "(I)I" } : MethodName) prog_6_method_6_code (3 : Nat) (Option.some FieldType.int)) ∈ lwg := lwg_of (pt_2 _ (List.mem_of_getElem? (i := 131) rfl)) rfl
theorem k_372 : (Cond.methodLink "LevelTables$Level" (46 : Nat) ({ cls := "LevelTables$Chip", name := "read", desc := "(IILLevelTables$Version;)V" } : MethodName)) ∈ lwg := lwg_of (pt_2 _ (List.mem_of_getElem? (i := 132) rfl)) rfl
theorem k_373 : (Cond.instanceMethod ({ cls := "LevelTables$Chip", name := "read", desc := "(IILLevelTables$Version;)V" } : MethodName)) ∈ lwg := lwg_of (pt_2 _ (List.mem_of_getElem? (i := 133) rfl)) rfl
theorem k_374 : (Cond.selects "LevelTables$Chip" ({ cls := "LevelTables$Chip", name := "read", desc := "(IILLevelTables$Version;)V" } : MethodName) ({ cls := "LevelTables$Chip", name := "read", desc := "(IILLevelTables$Version;)V" } : MethodName)) ∈ lwg := lwg_of (pt_2 _ (List.mem_of_getElem? (i := 134) rfl)) rfl
theorem k_375 : (Cond.code ({ cls := "LevelTables$Chip", name := "read", desc := "(IILLevelTables$Version;)V" } : MethodName) prog_2_method_7_code (4 : Nat) (Option.none : Option Jvm.ClassFile.FieldType)) ∈ lwg := lwg_of (pt_2 _ (List.mem_of_getElem? (i := 135) rfl)) rfl
theorem k_376 : (Cond.methodLink "LevelTables$Chip" (43 : Nat) ({ cls := "LevelTables$Chip", name := "hasRow", desc := "(II)Z" } : MethodName)) ∈ lwg := lwg_of (pt_2 _ (List.mem_of_getElem? (i := 136) rfl)) rfl
theorem k_378 : (Cond.instanceMethod ({ cls := "LevelTables$Chip", name := "hasRow", desc := "(II)Z" } : MethodName)) ∈ lwg := lwg_of (pt_2 _ (List.mem_of_getElem? (i := 138) rfl)) rfl
theorem k_379 : (Cond.code ({ cls := "LevelTables$Chip", name := "hasRow", desc := "(II)Z" } : MethodName) prog_2_method_8_code (3 : Nat) (Option.some FieldType.boolean)) ∈ lwg := lwg_of (pt_2 _ (List.mem_of_getElem? (i := 139) rfl)) rfl
theorem k_380 : (Cond.methodLink "LevelTables$Chip" (47 : Nat) ({ cls := "LevelTables$Version", name := "words", desc := "()[J" } : MethodName)) ∈ lwg := lwg_of (pt_2 _ (List.mem_of_getElem? (i := 140) rfl)) rfl
theorem k_381 : (Cond.methodLink "LevelTables$Chip" (53 : Nat) ({ cls := "java/lang/System", name := "arraycopy", desc := "(Ljava/lang/Object;ILjava/lang/Object;II)V" } : MethodName)) ∈ lwg := lwg_of (pt_2 _ (List.mem_of_getElem? (i := 141) rfl)) rfl
theorem k_382 : (Cond.selects "LevelTables$Memory" ({ cls := "LevelTables$Run", name := "load", desc := "(ILLevelTables$Version;)V" } : MethodName) ({ cls := "LevelTables$Memory", name := "load", desc := "(ILLevelTables$Version;)V" } : MethodName)) ∈ lwg := lwg_of (pt_2 _ (List.mem_of_getElem? (i := 142) rfl)) rfl
theorem k_383 : (Cond.methodLink "LevelTables$Run" (24 : Nat) ({ cls := "LevelTables$Version", name := "isBefore", desc := "(LLevelTables$Version;)Z" } : MethodName)) ∈ lwg := lwg_of (pt_2 _ (List.mem_of_getElem? (i := 143) rfl)) rfl
theorem k_384 : (Cond.instanceMethod ({ cls := "LevelTables$Version", name := "isBefore", desc := "(LLevelTables$Version;)Z" } : MethodName)) ∈ lwg := lwg_of (pt_2 _ (List.mem_of_getElem? (i := 144) rfl)) rfl
theorem k_385 : (Cond.selects "LevelTables$Version" ({ cls := "LevelTables$Version", name := "isBefore", desc := "(LLevelTables$Version;)Z" } : MethodName) ({ cls := "LevelTables$Version", name := "isBefore", desc := "(LLevelTables$Version;)Z" } : MethodName)) ∈ lwg := lwg_of (pt_2 _ (List.mem_of_getElem? (i := 145) rfl)) rfl
theorem k_386 : (Cond.code ({ cls := "LevelTables$Version", name := "isBefore", desc := "(LLevelTables$Version;)Z" } : MethodName) prog_8_method_13_code (3 : Nat) (Option.some FieldType.boolean)) ∈ lwg := lwg_of (pt_2 _ (List.mem_of_getElem? (i := 146) rfl)) rfl
theorem k_387 : (Cond.methodLink "LevelTables$Version" (40 : Nat) ({ cls := "LevelTables$Version", name := "compareKey", desc := "(LLevelTables$Version;)I" } : MethodName)) ∈ lwg := lwg_of (pt_2 _ (List.mem_of_getElem? (i := 147) rfl)) rfl
theorem k_388 : (Cond.instanceMethod ({ cls := "LevelTables$Version", name := "compareKey", desc := "(LLevelTables$Version;)I" } : MethodName)) ∈ lwg := lwg_of (pt_2 _ (List.mem_of_getElem? (i := 148) rfl)) rfl
theorem k_389 : (Cond.selects "LevelTables$Version" ({ cls := "LevelTables$Version", name := "compareKey", desc := "(LLevelTables$Version;)I" } : MethodName) ({ cls := "LevelTables$Version", name := "compareKey", desc := "(LLevelTables$Version;)I" } : MethodName)) ∈ lwg := lwg_of (pt_2 _ (List.mem_of_getElem? (i := 149) rfl)) rfl
theorem k_390 : (Cond.code ({ cls := "LevelTables$Version", name := "compareKey", desc := "(LLevelTables$Version;)I" } : MethodName) prog_8_method_12_code (7 : Nat) (Option.some FieldType.int)) ∈ lwg := lwg_of (pt_2 _ (List.mem_of_getElem? (i := 150) rfl)) rfl
theorem k_391 : (Cond.constantLong "LevelTables$Version" (38 : Nat) (-9223372036854775808 : Int64)) ∈ lwg := lwg_of (pt_2 _ (List.mem_of_getElem? (i := 151) rfl)) rfl
theorem k_392 : (Cond.methodLink "LevelTables$Version" (44 : Nat) ({ cls := "LevelTables$Version", name := "moment", desc := "()I" } : MethodName)) ∈ lwg := lwg_of (pt_2 _ (List.mem_of_getElem? (i := 152) rfl)) rfl
theorem k_393 : (Cond.instanceMethod ({ cls := "LevelTables$Version", name := "moment", desc := "()I" } : MethodName)) ∈ lwg := lwg_of (pt_2 _ (List.mem_of_getElem? (i := 153) rfl)) rfl
theorem k_394 : (Cond.selects "LevelTables$Version" ({ cls := "LevelTables$Version", name := "moment", desc := "()I" } : MethodName) ({ cls := "LevelTables$Version", name := "moment", desc := "()I" } : MethodName)) ∈ lwg := lwg_of (pt_2 _ (List.mem_of_getElem? (i := 154) rfl)) rfl
theorem k_395 : (Cond.code ({ cls := "LevelTables$Version", name := "moment", desc := "()I" } : MethodName) prog_8_method_4_code (1 : Nat) (Option.some FieldType.int)) ∈ lwg := lwg_of (pt_2 _ (List.mem_of_getElem? (i := 155) rfl)) rfl
theorem k_396 : (Cond.methodLink "LevelTables" (254 : Nat) ({ cls := "LevelTables$Level", name := "firstTableBeyond", desc := "(LLevelTables$Version;)I" } : MethodName)) ∈ lwg := lwg_of (pt_2 _ (List.mem_of_getElem? (i := 156) rfl)) rfl
theorem k_397 : (Cond.instanceMethod ({ cls := "LevelTables$Level", name := "firstTableBeyond", desc := "(LLevelTables$Version;)I" } : MethodName)) ∈ lwg := lwg_of (pt_2 _ (List.mem_of_getElem? (i := 157) rfl)) rfl
theorem k_398 : (Cond.selects "LevelTables$Level" ({ cls := "LevelTables$Level", name := "firstTableBeyond", desc := "(LLevelTables$Version;)I" } : MethodName) ({ cls := "LevelTables$Level", name := "firstTableBeyond", desc := "(LLevelTables$Version;)I" } : MethodName)) ∈ lwg := lwg_of (pt_2 _ (List.mem_of_getElem? (i := 158) rfl)) rfl
theorem k_399 : (Cond.code ({ cls := "LevelTables$Level", name := "firstTableBeyond", desc := "(LLevelTables$Version;)I" } : MethodName) prog_3_method_8_code (3 : Nat) (Option.some FieldType.int)) ∈ lwg := lwg_of (pt_2 _ (List.mem_of_getElem? (i := 159) rfl)) rfl
theorem k_400 : (Cond.methodLink "LevelTables" (230 : Nat) ({ cls := "LevelTables$Walk", name := "clear", desc := "()V" } : MethodName)) ∈ lwg := lwg_of (pt_2 _ (List.mem_of_getElem? (i := 160) rfl)) rfl
theorem k_401 : (Cond.instanceMethod ({ cls := "LevelTables$Walk", name := "clear", desc := "()V" } : MethodName)) ∈ lwg := lwg_of (pt_2 _ (List.mem_of_getElem? (i := 161) rfl)) rfl
theorem k_402 : (Cond.selects "LevelTables$Walk" ({ cls := "LevelTables$Walk", name := "clear", desc := "()V" } : MethodName) ({ cls := "LevelTables$Walk", name := "clear", desc := "()V" } : MethodName)) ∈ lwg := lwg_of (pt_2 _ (List.mem_of_getElem? (i := 162) rfl)) rfl
theorem k_403 : (Cond.code ({ cls := "LevelTables$Walk", name := "clear", desc := "()V" } : MethodName) prog_10_method_2_code (1 : Nat) (Option.none : Option Jvm.ClassFile.FieldType)) ∈ lwg := lwg_of (pt_2 _ (List.mem_of_getElem? (i := 163) rfl)) rfl
theorem k_404 : (Cond.methodLink "LevelTables$Walk" (36 : Nat) ({ cls := "java/util/Arrays", name := "fill", desc := "([II)V" } : MethodName)) ∈ lwg := lwg_of (pt_2 _ (List.mem_of_getElem? (i := 164) rfl)) rfl
theorem k_405 : (Cond.methodLink "LevelTables" (234 : Nat) ({ cls := "LevelTables$Walk", name := "cover", desc := "(III)V" } : MethodName)) ∈ lwg := lwg_of (pt_2 _ (List.mem_of_getElem? (i := 165) rfl)) rfl
theorem k_406 : (Cond.instanceMethod ({ cls := "LevelTables$Walk", name := "cover", desc := "(III)V" } : MethodName)) ∈ lwg := lwg_of (pt_2 _ (List.mem_of_getElem? (i := 166) rfl)) rfl
theorem k_407 : (Cond.selects "LevelTables$Walk" ({ cls := "LevelTables$Walk", name := "cover", desc := "(III)V" } : MethodName) ({ cls := "LevelTables$Walk", name := "cover", desc := "(III)V" } : MethodName)) ∈ lwg := lwg_of (pt_2 _ (List.mem_of_getElem? (i := 167) rfl)) rfl
theorem k_408 : (Cond.code ({ cls := "LevelTables$Walk", name := "cover", desc := "(III)V" } : MethodName) prog_10_method_3_code (4 : Nat) (Option.none : Option Jvm.ClassFile.FieldType)) ∈ lwg := lwg_of (pt_2 _ (List.mem_of_getElem? (i := 168) rfl)) rfl
theorem k_409 : (Cond.methodLink "LevelTables$Walk" (42 : Nat) ({ cls := "LevelTables$Run", name := "load", desc := "(ILLevelTables$Version;)V" } : MethodName)) ∈ lwg := lwg_of (pt_2 _ (List.mem_of_getElem? (i := 169) rfl)) rfl
theorem k_410 : (Cond.methodLink "LevelTables" (257 : Nat) ({ cls := "LevelTables$Level", name := "startOf", desc := "(I)I" } : MethodName)) ∈ lwg := lwg_of (pt_2 _ (List.mem_of_getElem? (i := 170) rfl)) rfl
theorem k_411 : (Cond.instanceMethod ({ cls := "LevelTables$Level", name := "startOf", desc := "(I)I" } : MethodName)) ∈ lwg := lwg_of (pt_2 _ (List.mem_of_getElem? (i := 171) rfl)) rfl
theorem k_412 : (Cond.selects "LevelTables$Level" ({ cls := "LevelTables$Level", name := "startOf", desc := "(I)I" } : MethodName) ({ cls := "LevelTables$Level", name := "startOf", desc := "(I)I" } : MethodName)) ∈ lwg := lwg_of (pt_2 _ (List.mem_of_getElem? (i := 172) rfl)) rfl
theorem k_413 : (Cond.code ({ cls := "LevelTables$Level", name := "startOf", desc := "(I)I" } : MethodName) prog_3_method_5_code (2 : Nat) (Option.some FieldType.int)) ∈ lwg := lwg_of (pt_2 _ (List.mem_of_getElem? (i := 173) rfl)) rfl
theorem k_414 : (Cond.methodLink "LevelTables" (260 : Nat) ({ cls := "LevelTables", name := "writeNeeded", desc := "(I)V" } : MethodName)) ∈ lwg := lwg_of (pt_2 _ (List.mem_of_getElem? (i := 174) rfl)) rfl
theorem k_416 : (Cond.instanceMethod ({ cls := "LevelTables", name := "writeNeeded", desc := "(I)V" } : MethodName)) ∈ lwg := lwg_of (pt_2 _ (List.mem_of_getElem? (i := 176) rfl)) rfl
theorem k_417 : (Cond.code ({ cls := "LevelTables", name := "writeNeeded", desc := "(I)V" } : MethodName) prog_1_method_23_code (8 : Nat) (Option.none : Option Jvm.ClassFile.FieldType)) ∈ lwg := lwg_of (pt_2 _ (List.mem_of_getElem? (i := 177) rfl)) rfl
theorem k_418 : (Cond.methodLink "LevelTables" (277 : Nat) ({ cls := "LevelTables$Writer", name := "begin", desc := "()V" } : MethodName)) ∈ lwg := lwg_of (pt_2 _ (List.mem_of_getElem? (i := 178) rfl)) rfl
theorem k_419 : (Cond.instanceMethod ({ cls := "LevelTables$Writer", name := "begin", desc := "()V" } : MethodName)) ∈ lwg := lwg_of (pt_2 _ (List.mem_of_getElem? (i := 179) rfl)) rfl
theorem k_420 : (Cond.selects "LevelTables$Writer" ({ cls := "LevelTables$Writer", name := "begin", desc := "()V" } : MethodName) ({ cls := "LevelTables$Writer", name := "begin", desc := "()V" } : MethodName)) ∈ lwg := lwg_of (pt_2 _ (List.mem_of_getElem? (i := 180) rfl)) rfl
theorem k_421 : (Cond.code ({ cls := "LevelTables$Writer", name := "begin", desc := "()V" } : MethodName) prog_11_method_3_code (1 : Nat) (Option.none : Option Jvm.ClassFile.FieldType)) ∈ lwg := lwg_of (pt_2 _ (List.mem_of_getElem? (i := 181) rfl)) rfl
theorem k_422 : (Cond.methodLink "LevelTables$Writer" (26 : Nat) ({ cls := "java/util/ArrayList", name := "clear", desc := "()V" } : MethodName)) ∈ lwg := lwg_of (pt_2 _ (List.mem_of_getElem? (i := 182) rfl)) rfl
theorem k_423 : (Cond.instanceMethod ({ cls := "java/util/ArrayList", name := "clear", desc := "()V" } : MethodName)) ∈ lwg := lwg_of (pt_2 _ (List.mem_of_getElem? (i := 183) rfl)) rfl
theorem k_424 : (Cond.selects "java/util/ArrayList" ({ cls := "java/util/ArrayList", name := "clear", desc := "()V" } : MethodName) ({ cls := "java/util/ArrayList", name := "clear", desc := "()V" } : MethodName)) ∈ lwg := lwg_of (pt_2 _ (List.mem_of_getElem? (i := 184) rfl)) rfl
theorem k_425 : (Cond.code ({ cls := "java/util/ArrayList", name := "clear", desc := "()V" } : MethodName) prog_33_method_40_code (4 : Nat) (Option.none : Option Jvm.ClassFile.FieldType)) ∈ lwg := lwg_of (pt_2 _ (List.mem_of_getElem? (i := 185) rfl)) rfl
theorem k_426 : (Cond.methodLink "LevelTables" (238 : Nat) ({ cls := "LevelTables$Walk", name := "begin", desc := "()V" } : MethodName)) ∈ lwg := lwg_of (pt_2 _ (List.mem_of_getElem? (i := 186) rfl)) rfl
theorem k_427 : (Cond.instanceMethod ({ cls := "LevelTables$Walk", name := "begin", desc := "()V" } : MethodName)) ∈ lwg := lwg_of (pt_2 _ (List.mem_of_getElem? (i := 187) rfl)) rfl
theorem k_428 : (Cond.selects "LevelTables$Walk" ({ cls := "LevelTables$Walk", name := "begin", desc := "()V" } : MethodName) ({ cls := "LevelTables$Walk", name := "begin", desc := "()V" } : MethodName)) ∈ lwg := lwg_of (pt_2 _ (List.mem_of_getElem? (i := 188) rfl)) rfl
theorem k_429 : (Cond.code ({ cls := "LevelTables$Walk", name := "begin", desc := "()V" } : MethodName) prog_10_method_4_code (1 : Nat) (Option.none : Option Jvm.ClassFile.FieldType)) ∈ lwg := lwg_of (pt_2 _ (List.mem_of_getElem? (i := 189) rfl)) rfl
theorem k_430 : (Cond.methodLink "LevelTables$Walk" (48 : Nat) ({ cls := "LevelTables$Walk", name := "takeNext", desc := "()Z" } : MethodName)) ∈ lwg := lwg_of (pt_2 _ (List.mem_of_getElem? (i := 190) rfl)) rfl
theorem k_432 : (Cond.instanceMethod ({ cls := "LevelTables$Walk", name := "takeNext", desc := "()Z" } : MethodName)) ∈ lwg := lwg_of (pt_2 _ (List.mem_of_getElem? (i := 192) rfl)) rfl
theorem k_433 : (Cond.code ({ cls := "LevelTables$Walk", name := "takeNext", desc := "()Z" } : MethodName) prog_10_method_6_code (3 : Nat) (Option.some FieldType.boolean)) ∈ lwg := lwg_of (pt_2 _ (List.mem_of_getElem? (i := 193) rfl)) rfl
theorem k_434 : (Cond.methodLink "LevelTables$Walk" (72 : Nat) ({ cls := "LevelTables$Version", name := "isBefore", desc := "(LLevelTables$Version;)Z" } : MethodName)) ∈ lwg := lwg_of (pt_2 _ (List.mem_of_getElem? (i := 194) rfl)) rfl
theorem k_435 : (Cond.methodLink "LevelTables$Walk" (56 : Nat) ({ cls := "LevelTables$Version", name := "copy", desc := "(LLevelTables$Version;)V" } : MethodName)) ∈ lwg := lwg_of (pt_2 _ (List.mem_of_getElem? (i := 195) rfl)) rfl
theorem k_436 : (Cond.instanceMethod ({ cls := "LevelTables$Version", name := "copy", desc := "(LLevelTables$Version;)V" } : MethodName)) ∈ lwg := lwg_of (pt_2 _ (List.mem_of_getElem? (i := 196) rfl)) rfl
theorem k_437 : (Cond.selects "LevelTables$Version" ({ cls := "LevelTables$Version", name := "copy", desc := "(LLevelTables$Version;)V" } : MethodName) ({ cls := "LevelTables$Version", name := "copy", desc := "(LLevelTables$Version;)V" } : MethodName)) ∈ lwg := lwg_of (pt_2 _ (List.mem_of_getElem? (i := 197) rfl)) rfl
theorem k_438 : (Cond.code ({ cls := "LevelTables$Version", name := "copy", desc := "(LLevelTables$Version;)V" } : MethodName) prog_8_method_8_code (2 : Nat) (Option.none : Option Jvm.ClassFile.FieldType)) ∈ lwg := lwg_of (pt_2 _ (List.mem_of_getElem? (i := 198) rfl)) rfl
theorem k_439 : (Cond.methodLink "LevelTables$Version" (16 : Nat) ({ cls := "java/lang/System", name := "arraycopy", desc := "(Ljava/lang/Object;ILjava/lang/Object;II)V" } : MethodName)) ∈ lwg := lwg_of (pt_2 _ (List.mem_of_getElem? (i := 199) rfl)) rfl
theorem k_440 : (Cond.methodLink "LevelTables" (240 : Nat) ({ cls := "LevelTables$Walk", name := "advance", desc := "()Z" } : MethodName)) ∈ lwg := lwg_of (pt_2 _ (List.mem_of_getElem? (i := 200) rfl)) rfl
theorem k_441 : (Cond.instanceMethod ({ cls := "LevelTables$Walk", name := "advance", desc := "()Z" } : MethodName)) ∈ lwg := lwg_of (pt_2 _ (List.mem_of_getElem? (i := 201) rfl)) rfl
theorem k_442 : (Cond.selects "LevelTables$Walk" ({ cls := "LevelTables$Walk", name := "advance", desc := "()Z" } : MethodName) ({ cls := "LevelTables$Walk", name := "advance", desc := "()Z" } : MethodName)) ∈ lwg := lwg_of (pt_2 _ (List.mem_of_getElem? (i := 202) rfl)) rfl
theorem k_443 : (Cond.code ({ cls := "LevelTables$Walk", name := "advance", desc := "()Z" } : MethodName) prog_10_method_5_code (1 : Nat) (Option.some FieldType.boolean)) ∈ lwg := lwg_of (pt_2 _ (List.mem_of_getElem? (i := 203) rfl)) rfl
theorem k_444 : (Cond.methodLink "LevelTables$Walk" (60 : Nat) ({ cls := "LevelTables$Version", name := "compareKey", desc := "(LLevelTables$Version;)I" } : MethodName)) ∈ lwg := lwg_of (pt_2 _ (List.mem_of_getElem? (i := 204) rfl)) rfl
theorem k_445 : (Cond.methodLink "LevelTables$Walk" (64 : Nat) ({ cls := "LevelTables$Version", name := "moment", desc := "()I" } : MethodName)) ∈ lwg := lwg_of (pt_2 _ (List.mem_of_getElem? (i := 205) rfl)) rfl
theorem k_446 : (Cond.methodLink "LevelTables" (246 : Nat) ({ cls := "LevelTables$Walk", name := "version", desc := "()LLevelTables$Version;" } : MethodName)) ∈ lwg := lwg_of (pt_2 _ (List.mem_of_getElem? (i := 206) rfl)) rfl
theorem k_447 : (Cond.instanceMethod ({ cls := "LevelTables$Walk", name := "version", desc := "()LLevelTables$Version;" } : MethodName)) ∈ lwg := lwg_of (pt_2 _ (List.mem_of_getElem? (i := 207) rfl)) rfl
theorem k_448 : (Cond.selects "LevelTables$Walk" ({ cls := "LevelTables$Walk", name := "version", desc := "()LLevelTables$Version;" } : MethodName) ({ cls := "LevelTables$Walk", name := "version", desc := "()LLevelTables$Version;" } : MethodName)) ∈ lwg := lwg_of (pt_2 _ (List.mem_of_getElem? (i := 208) rfl)) rfl
theorem k_449 : (Cond.code ({ cls := "LevelTables$Walk", name := "version", desc := "()LLevelTables$Version;" } : MethodName) prog_10_method_7_code (1 : Nat) (Option.some (FieldType.object "LevelTables$Version"))) ∈ lwg := lwg_of (pt_2 _ (List.mem_of_getElem? (i := 209) rfl)) rfl
theorem k_450 : (Cond.methodLink "LevelTables" (278 : Nat) ({ cls := "LevelTables$Walk", name := "until", desc := "()I" } : MethodName)) ∈ lwg := lwg_of (pt_2 _ (List.mem_of_getElem? (i := 210) rfl)) rfl
theorem k_451 : (Cond.instanceMethod ({ cls := "LevelTables$Walk", name := "until", desc := "()I" } : MethodName)) ∈ lwg := lwg_of (pt_2 _ (List.mem_of_getElem? (i := 211) rfl)) rfl
theorem k_452 : (Cond.selects "LevelTables$Walk" ({ cls := "LevelTables$Walk", name := "until", desc := "()I" } : MethodName) ({ cls := "LevelTables$Walk", name := "until", desc := "()I" } : MethodName)) ∈ lwg := lwg_of (pt_2 _ (List.mem_of_getElem? (i := 212) rfl)) rfl
theorem k_453 : (Cond.code ({ cls := "LevelTables$Walk", name := "until", desc := "()I" } : MethodName) prog_10_method_8_code (1 : Nat) (Option.some FieldType.int)) ∈ lwg := lwg_of (pt_2 _ (List.mem_of_getElem? (i := 213) rfl)) rfl
theorem k_454 : (Cond.methodLink "LevelTables" (281 : Nat) ({ cls := "LevelTables", name := "nextMoment", desc := "(LLevelTables$Version;I)I" } : MethodName)) ∈ lwg := lwg_of (pt_2 _ (List.mem_of_getElem? (i := 214) rfl)) rfl
theorem k_456 : (Cond.instanceMethod ({ cls := "LevelTables", name := "nextMoment", desc := "(LLevelTables$Version;I)I" } : MethodName)) ∈ lwg := lwg_of (pt_2 _ (List.mem_of_getElem? (i := 216) rfl)) rfl
theorem k_457 : (Cond.code ({ cls := "LevelTables", name := "nextMoment", desc := "(LLevelTables$Version;I)I" } : MethodName) prog_1_method_24_code (5 : Nat) (Option.some FieldType.int)) ∈ lwg := lwg_of (pt_2 _ (List.mem_of_getElem? (i := 217) rfl)) rfl
theorem k_458 : (Cond.methodLink "LevelTables" (213 : Nat) ({ cls := "LevelTables$Version", name := "copy", desc := "(LLevelTables$Version;)V" } : MethodName)) ∈ lwg := lwg_of (pt_2 _ (List.mem_of_getElem? (i := 218) rfl)) rfl
theorem k_459 : (Cond.methodLink "LevelTables" (162 : Nat) ({ cls := "LevelTables$Version", name := "moment", desc := "()I" } : MethodName)) ∈ lwg := lwg_of (pt_2 _ (List.mem_of_getElem? (i := 219) rfl)) rfl
theorem k_460 : (Cond.methodLink "LevelTables" (142 : Nat) ({ cls := "LevelTables$Version", name := "setMoment", desc := "(I)V" } : MethodName)) ∈ lwg := lwg_of (pt_2 _ (List.mem_of_getElem? (i := 220) rfl)) rfl
theorem k_461 : (Cond.methodLink "LevelTables" (216 : Nat) ({ cls := "LevelTables$Run", name := "firstNotBefore", desc := "(LLevelTables$Version;)I" } : MethodName)) ∈ lwg := lwg_of (pt_2 _ (List.mem_of_getElem? (i := 221) rfl)) rfl
theorem k_462 : (Cond.methodLink "LevelTables" (233 : Nat) ({ cls := "LevelTables$Run", name := "count", desc := "()I" } : MethodName)) ∈ lwg := lwg_of (pt_2 _ (List.mem_of_getElem? (i := 222) rfl)) rfl
theorem k_463 : (Cond.methodLink "LevelTables" (220 : Nat) ({ cls := "LevelTables$Run", name := "load", desc := "(ILLevelTables$Version;)V" } : MethodName)) ∈ lwg := lwg_of (pt_2 _ (List.mem_of_getElem? (i := 223) rfl)) rfl
theorem k_464 : (Cond.methodLink "LevelTables" (224 : Nat) ({ cls := "LevelTables$Version", name := "compareKey", desc := "(LLevelTables$Version;)I" } : MethodName)) ∈ lwg := lwg_of (pt_2 _ (List.mem_of_getElem? (i := 224) rfl)) rfl
theorem k_465 : (Cond.methodLink "LevelTables" (227 : Nat) ({ cls := "LevelTables$Version", name := "isThere", desc := "()Z" } : MethodName)) ∈ lwg := lwg_of (pt_2 _ (List.mem_of_getElem? (i := 225) rfl)) rfl
theorem k_466 : (Cond.instanceMethod ({ cls := "LevelTables$Version", name := "isThere", desc := "()Z" } : MethodName)) ∈ lwg := lwg_of (pt_2 _ (List.mem_of_getElem? (i := 226) rfl)) rfl
theorem k_467 : (Cond.selects "LevelTables$Version" ({ cls := "LevelTables$Version", name := "isThere", desc := "()Z" } : MethodName) ({ cls := "LevelTables$Version", name := "isThere", desc := "()Z" } : MethodName)) ∈ lwg := lwg_of (pt_2 _ (List.mem_of_getElem? (i := 227) rfl)) rfl
theorem k_468 : (Cond.code ({ cls := "LevelTables$Version", name := "isThere", desc := "()Z" } : MethodName) prog_8_method_5_code (1 : Nat) (Option.some FieldType.boolean)) ∈ lwg := lwg_of (pt_2 _ (List.mem_of_getElem? (i := 228) rfl)) rfl
theorem k_469 : (Cond.methodLink "LevelTables" (134 : Nat) ({ cls := "LevelTables", name := "hasSomething", desc := "(LLevelTables$Version;II)Z" } : MethodName)) ∈ lwg := lwg_of (pt_2 _ (List.mem_of_getElem? (i := 229) rfl)) rfl
theorem k_471 : (Cond.instanceMethod ({ cls := "LevelTables", name := "hasSomething", desc := "(LLevelTables$Version;II)Z" } : MethodName)) ∈ lwg := lwg_of (pt_2 _ (List.mem_of_getElem? (i := 231) rfl)) rfl
theorem k_472 : (Cond.code ({ cls := "LevelTables", name := "hasSomething", desc := "(LLevelTables$Version;II)Z" } : MethodName) prog_1_method_17_code (6 : Nat) (Option.some FieldType.boolean)) ∈ lwg := lwg_of (pt_2 _ (List.mem_of_getElem? (i := 232) rfl)) rfl
theorem k_473 : (Cond.methodLink "LevelTables" (285 : Nat) ({ cls := "LevelTables$Views", name := "need", desc := "(II)Z" } : MethodName)) ∈ lwg := lwg_of (pt_2 _ (List.mem_of_getElem? (i := 233) rfl)) rfl
theorem k_474 : (Cond.instanceMethod ({ cls := "LevelTables$Views", name := "need", desc := "(II)Z" } : MethodName)) ∈ lwg := lwg_of (pt_2 _ (List.mem_of_getElem? (i := 234) rfl)) rfl
theorem k_475 : (Cond.selects "LevelTables$Views" ({ cls := "LevelTables$Views", name := "need", desc := "(II)Z" } : MethodName) ({ cls := "LevelTables$Views", name := "need", desc := "(II)Z" } : MethodName)) ∈ lwg := lwg_of (pt_2 _ (List.mem_of_getElem? (i := 235) rfl)) rfl
theorem k_476 : (Cond.code ({ cls := "LevelTables$Views", name := "need", desc := "(II)Z" } : MethodName) prog_9_method_7_code (4 : Nat) (Option.some FieldType.boolean)) ∈ lwg := lwg_of (pt_2 _ (List.mem_of_getElem? (i := 236) rfl)) rfl
theorem k_477 : (Cond.methodLink "LevelTables" (289 : Nat) ({ cls := "LevelTables$Writer", name := "add", desc := "(LLevelTables$Version;Z)V" } : MethodName)) ∈ lwg := lwg_of (pt_2 _ (List.mem_of_getElem? (i := 237) rfl)) rfl
theorem k_478 : (Cond.instanceMethod ({ cls := "LevelTables$Writer", name := "add", desc := "(LLevelTables$Version;Z)V" } : MethodName)) ∈ lwg := lwg_of (pt_2 _ (List.mem_of_getElem? (i := 238) rfl)) rfl
theorem k_479 : (Cond.selects "LevelTables$Writer" ({ cls := "LevelTables$Writer", name := "add", desc := "(LLevelTables$Version;Z)V" } : MethodName) ({ cls := "LevelTables$Writer", name := "add", desc := "(LLevelTables$Version;Z)V" } : MethodName)) ∈ lwg := lwg_of (pt_2 _ (List.mem_of_getElem? (i := 239) rfl)) rfl
theorem k_480 : (Cond.code ({ cls := "LevelTables$Writer", name := "add", desc := "(LLevelTables$Version;Z)V" } : MethodName) prog_11_method_4_code (5 : Nat) (Option.none : Option Jvm.ClassFile.FieldType)) ∈ lwg := lwg_of (pt_3 _ (List.mem_of_getElem? (i := 0) rfl)) rfl
theorem k_481 : (Cond.methodLink "LevelTables$Writer" (33 : Nat) ({ cls := "LevelTables$Writer", name := "seal", desc := "()V" } : MethodName)) ∈ lwg := lwg_of (pt_3 _ (List.mem_of_getElem? (i := 1) rfl)) rfl
theorem k_482 : (Cond.instanceMethod ({ cls := "LevelTables$Writer", name := "seal", desc := "()V" } : MethodName)) ∈ lwg := lwg_of (pt_3 _ (List.mem_of_getElem? (i := 2) rfl)) rfl
theorem k_483 : (Cond.selects "LevelTables$Writer" ({ cls := "LevelTables$Writer", name := "seal", desc := "()V" } : MethodName) ({ cls := "LevelTables$Writer", name := "seal", desc := "()V" } : MethodName)) ∈ lwg := lwg_of (pt_3 _ (List.mem_of_getElem? (i := 3) rfl)) rfl
theorem k_484 : (Cond.code ({ cls := "LevelTables$Writer", name := "seal", desc := "()V" } : MethodName) prog_11_method_5_code (2 : Nat) (Option.none : Option Jvm.ClassFile.FieldType)) ∈ lwg := lwg_of (pt_3 _ (List.mem_of_getElem? (i := 4) rfl)) rfl
theorem k_485 : (Cond.classLink "LevelTables$Writer" (56 : Nat) "LevelTables$Table") ∈ lwg := lwg_of (pt_3 _ (List.mem_of_getElem? (i := 5) rfl)) rfl
theorem k_486 : (Cond.instantiable "LevelTables$Table" (4 : Nat)) ∈ lwg := lwg_of (pt_3 _ (List.mem_of_getElem? (i := 6) rfl)) rfl
theorem k_487 : (Cond.methodLink "LevelTables$Writer" (58 : Nat) ({ cls := "java/util/Arrays", name := "copyOf", desc := "([II)[I" } : MethodName)) ∈ lwg := lwg_of (pt_3 _ (List.mem_of_getElem? (i := 7) rfl)) rfl
theorem k_488 : (Cond.static ({ cls := "java/util/Arrays", name := "copyOf", desc := "([II)[I" } : MethodName)) ∈ lwg := lwg_of (pt_3 _ (List.mem_of_getElem? (i := 8) rfl)) rfl
theorem k_489 : (Cond.code ({ cls := "java/util/Arrays", name := "copyOf", desc := "([II)[I" } : MethodName) prog_34_method_123_code (3 : Nat) (Option.some (FieldType.array FieldType.int))) ∈ lwg := lwg_of (pt_3 _ (List.mem_of_getElem? (i := 9) rfl)) rfl
theorem k_496 : (Cond.classLink "java/util/Arrays" (317 : Nat) "[I") ∈ lwg := lwg_of (pt_3 _ (List.mem_of_getElem? (i := 16) rfl)) rfl
theorem k_497 : (Cond.methodLink "java/util/Arrays" (304 : Nat) ({ cls := "java/lang/Math", name := "min", desc := "(II)I" } : MethodName)) ∈ lwg := lwg_of (pt_3 _ (List.mem_of_getElem? (i := 17) rfl)) rfl
theorem k_498 : (Cond.static ({ cls := "java/lang/Math", name := "min", desc := "(II)I" } : MethodName)) ∈ lwg := lwg_of (pt_3 _ (List.mem_of_getElem? (i := 18) rfl)) rfl
theorem k_499 : (Cond.code ({ cls := "java/lang/Math", name := "min", desc := "(II)I" } : MethodName) prog_23_method_69_code (2 : Nat) (Option.some FieldType.int)) ∈ lwg := lwg_of (pt_3 _ (List.mem_of_getElem? (i := 19) rfl)) rfl
theorem k_500 : (Cond.methodLink "java/util/Arrays" (150 : Nat) ({ cls := "java/lang/System", name := "arraycopy", desc := "(Ljava/lang/Object;ILjava/lang/Object;II)V" } : MethodName)) ∈ lwg := lwg_of (pt_3 _ (List.mem_of_getElem? (i := 20) rfl)) rfl
theorem k_501 : (Cond.methodLink "LevelTables$Writer" (64 : Nat) ({ cls := "LevelTables$Table", name := "<init>", desc := "([IIJ)V" } : MethodName)) ∈ lwg := lwg_of (pt_3 _ (List.mem_of_getElem? (i := 21) rfl)) rfl
theorem k_502 : (Cond.instanceMethod ({ cls := "LevelTables$Table", name := "<init>", desc := "([IIJ)V" } : MethodName)) ∈ lwg := lwg_of (pt_3 _ (List.mem_of_getElem? (i := 22) rfl)) rfl
theorem k_503 : (Cond.code ({ cls := "LevelTables$Table", name := "<init>", desc := "([IIJ)V" } : MethodName) prog_6_method_1_code (5 : Nat) (Option.none : Option Jvm.ClassFile.FieldType)) ∈ lwg := lwg_of (pt_3 _ (List.mem_of_getElem? (i := 23) rfl)) rfl
theorem k_504 : (Cond.methodLink "LevelTables$Table" (3 : Nat) ({ cls := "java/lang/Object", name := "<init>", desc := "()V" } : MethodName)) ∈ lwg := lwg_of (pt_3 _ (List.mem_of_getElem? (i := 24) rfl)) rfl
theorem k_505 : (Cond.fieldLink "LevelTables$Table" (9 : Nat) "LevelTables$Table" "blocks" "[I") ∈ lwg := lwg_of (pt_3 _ (List.mem_of_getElem? (i := 25) rfl)) rfl
theorem k_506 : (Cond.fieldLink "LevelTables$Table" (15 : Nat) "LevelTables$Table" "count" "I") ∈ lwg := lwg_of (pt_3 _ (List.mem_of_getElem? (i := 26) rfl)) rfl
theorem k_507 : (Cond.fieldLink "LevelTables$Table" (19 : Nat) "LevelTables$Table" "sum" "J") ∈ lwg := lwg_of (pt_3 _ (List.mem_of_getElem? (i := 27) rfl)) rfl
theorem k_508 : (Cond.fieldLink "LevelTables$Table" (23 : Nat) "LevelTables$Table" "start" "I") ∈ lwg := lwg_of (pt_3 _ (List.mem_of_getElem? (i := 28) rfl)) rfl
theorem k_509 : (Cond.laysFinal "LevelTables$Table" "LevelTables$Table" "blocks" "[I") ∈ lwg := lwg_of (pt_3 _ (List.mem_of_getElem? (i := 29) rfl)) rfl
theorem k_511 : (Cond.laysFinal "LevelTables$Table" "LevelTables$Table" "count" "I") ∈ lwg := lwg_of (pt_3 _ (List.mem_of_getElem? (i := 31) rfl)) rfl
theorem k_513 : (Cond.laysFinal "LevelTables$Table" "LevelTables$Table" "sum" "J") ∈ lwg := lwg_of (pt_3 _ (List.mem_of_getElem? (i := 33) rfl)) rfl
theorem k_515 : (Cond.lays "LevelTables$Table" "LevelTables$Table" "start" "I") ∈ lwg := lwg_of (pt_3 _ (List.mem_of_getElem? (i := 35) rfl)) rfl
theorem k_518 : (Cond.methodLink "LevelTables$Writer" (67 : Nat) ({ cls := "java/util/ArrayList", name := "add", desc := "(Ljava/lang/Object;)Z" } : MethodName)) ∈ lwg := lwg_of (pt_3 _ (List.mem_of_getElem? (i := 38) rfl)) rfl
theorem k_519 : (Cond.instanceMethod ({ cls := "java/util/ArrayList", name := "add", desc := "(Ljava/lang/Object;)Z" } : MethodName)) ∈ lwg := lwg_of (pt_3 _ (List.mem_of_getElem? (i := 39) rfl)) rfl
theorem k_520 : (Cond.selects "java/util/ArrayList" ({ cls := "java/util/ArrayList", name := "add", desc := "(Ljava/lang/Object;)Z" } : MethodName) ({ cls := "java/util/ArrayList", name := "add", desc := "(Ljava/lang/Object;)Z" } : MethodName)) ∈ lwg := lwg_of (pt_3 _ (List.mem_of_getElem? (i := 40) rfl)) rfl
theorem k_521 : (Cond.code ({ cls := "java/util/ArrayList", name := "add", desc := "(Ljava/lang/Object;)Z" } : MethodName) prog_33_method_25_code (2 : Nat) (Option.some FieldType.boolean)) ∈ lwg := lwg_of (pt_3 _ (List.mem_of_getElem? (i := 41) rfl)) rfl
theorem k_522 : (Cond.methodLink "java/util/ArrayList" (131 : Nat) ({ cls := "java/util/ArrayList", name := "add", desc := "(Ljava/lang/Object;[Ljava/lang/Object;I)V" } : MethodName)) ∈ lwg := lwg_of (pt_3 _ (List.mem_of_getElem? (i := 42) rfl)) rfl
theorem k_524 : (Cond.instanceMethod ({ cls := "java/util/ArrayList", name := "add", desc := "(Ljava/lang/Object;[Ljava/lang/Object;I)V" } : MethodName)) ∈ lwg := lwg_of (pt_3 _ (List.mem_of_getElem? (i := 44) rfl)) rfl
theorem k_525 : (Cond.code ({ cls := "java/util/ArrayList", name := "add", desc := "(Ljava/lang/Object;[Ljava/lang/Object;I)V" } : MethodName) prog_33_method_24_code (4 : Nat) (Option.none : Option Jvm.ClassFile.FieldType)) ∈ lwg := lwg_of (pt_3 _ (List.mem_of_getElem? (i := 45) rfl)) rfl
theorem k_526 : (Cond.methodLink "java/util/ArrayList" (129 : Nat) ({ cls := "java/util/ArrayList", name := "grow", desc := "()[Ljava/lang/Object;" } : MethodName)) ∈ lwg := lwg_of (pt_3 _ (List.mem_of_getElem? (i := 46) rfl)) rfl
theorem k_528 : (Cond.instanceMethod ({ cls := "java/util/ArrayList", name := "grow", desc := "()[Ljava/lang/Object;" } : MethodName)) ∈ lwg := lwg_of (pt_3 _ (List.mem_of_getElem? (i := 48) rfl)) rfl
theorem k_529 : (Cond.code ({ cls := "java/util/ArrayList", name := "grow", desc := "()[Ljava/lang/Object;" } : MethodName) prog_33_method_7_code (1 : Nat) (Option.some (FieldType.array (FieldType.object "java/lang/Object")))) ∈ lwg := lwg_of (pt_3 _ (List.mem_of_getElem? (i := 49) rfl)) rfl
theorem k_530 : (Cond.methodLink "java/util/ArrayList" (69 : Nat) ({ cls := "java/util/ArrayList", name := "grow", desc := "(I)[Ljava/lang/Object;" } : MethodName)) ∈ lwg := lwg_of (pt_3 _ (List.mem_of_getElem? (i := 50) rfl)) rfl
theorem k_532 : (Cond.instanceMethod ({ cls := "java/util/ArrayList", name := "grow", desc := "(I)[Ljava/lang/Object;" } : MethodName)) ∈ lwg := lwg_of (pt_3 _ (List.mem_of_getElem? (i := 52) rfl)) rfl
theorem k_533 : (Cond.code ({ cls := "java/util/ArrayList", name := "grow", desc := "(I)[Ljava/lang/Object;" } : MethodName) prog_33_method_6_code (4 : Nat) (Option.some (FieldType.array (FieldType.object "java/lang/Object")))) ∈ lwg := lwg_of (pt_3 _ (List.mem_of_getElem? (i := 53) rfl)) rfl
theorem k_534 : (Cond.methodLink "java/util/ArrayList" (73 : Nat) ({ cls := "jdk/internal/util/ArraysSupport", name := "newLength", desc := "(III)I" } : MethodName)) ∈ lwg := lwg_of (pt_3 _ (List.mem_of_getElem? (i := 54) rfl)) rfl
theorem k_535 : (Cond.static ({ cls := "jdk/internal/util/ArraysSupport", name := "newLength", desc := "(III)I" } : MethodName)) ∈ lwg := lwg_of (pt_3 _ (List.mem_of_getElem? (i := 55) rfl)) rfl
theorem k_536 : (Cond.code ({ cls := "jdk/internal/util/ArraysSupport", name := "newLength", desc := "(III)I" } : MethodName) prog_41_method_27_code (4 : Nat) (Option.some FieldType.int)) ∈ lwg := lwg_of (pt_3 _ (List.mem_of_getElem? (i := 56) rfl)) rfl
theorem k_537 : (Cond.methodLink "jdk/internal/util/ArraysSupport" (194 : Nat) ({ cls := "java/lang/Math", name := "max", desc := "(II)I" } : MethodName)) ∈ lwg := lwg_of (pt_3 _ (List.mem_of_getElem? (i := 57) rfl)) rfl
theorem k_538 : (Cond.static ({ cls := "java/lang/Math", name := "max", desc := "(II)I" } : MethodName)) ∈ lwg := lwg_of (pt_3 _ (List.mem_of_getElem? (i := 58) rfl)) rfl
theorem k_539 : (Cond.code ({ cls := "java/lang/Math", name := "max", desc := "(II)I" } : MethodName) prog_23_method_65_code (2 : Nat) (Option.some FieldType.int)) ∈ lwg := lwg_of (pt_3 _ (List.mem_of_getElem? (i := 59) rfl)) rfl
theorem k_540 : (Cond.constant "jdk/internal/util/ArraysSupport" (200 : Nat) (2147483639 : Int32)) ∈ lwg := lwg_of (pt_3 _ (List.mem_of_getElem? (i := 60) rfl)) rfl
theorem k_541 : (Cond.methodLink "jdk/internal/util/ArraysSupport" (201 : Nat) ({ cls := "jdk/internal/util/ArraysSupport", name := "hugeLength", desc := "(II)I" } : MethodName)) ∈ lwg := lwg_of (pt_3 _ (List.mem_of_getElem? (i := 61) rfl)) rfl
theorem k_542 : (Cond.static ({ cls := "jdk/internal/util/ArraysSupport", name := "hugeLength", desc := "(II)I" } : MethodName)) ∈ lwg := lwg_of (pt_3 _ (List.mem_of_getElem? (i := 62) rfl)) rfl
theorem k_543 : (Cond.code ({ cls := "jdk/internal/util/ArraysSupport", name := "hugeLength", desc := "(II)I" } : MethodName) prog_41_method_28_code (3 : Nat) (Option.some FieldType.int)) ∈ lwg := lwg_of (pt_3 _ (List.mem_of_getElem? (i := 63) rfl)) rfl
theorem k_544 : (Cond.methodLink "java/util/ArrayList" (66 : Nat) ({ cls := "java/util/Arrays", name := "copyOf", desc := "([Ljava/lang/Object;I)[Ljava/lang/Object;" } : MethodName)) ∈ lwg := lwg_of (pt_3 _ (List.mem_of_getElem? (i := 64) rfl)) rfl
theorem k_545 : (Cond.static ({ cls := "java/util/Arrays", name := "copyOf", desc := "([Ljava/lang/Object;I)[Ljava/lang/Object;" } : MethodName)) ∈ lwg := lwg_of (pt_3 _ (List.mem_of_getElem? (i := 65) rfl)) rfl
theorem k_546 : (Cond.code ({ cls := "java/util/Arrays", name := "copyOf", desc := "([Ljava/lang/Object;I)[Ljava/lang/Object;" } : MethodName) prog_34_method_119_code (2 : Nat) (Option.some (FieldType.array (FieldType.object "java/lang/Object")))) ∈ lwg := lwg_of (pt_3 _ (List.mem_of_getElem? (i := 66) rfl)) rfl
theorem k_547 : (Cond.methodLink "java/util/Arrays" (86 : Nat) ({ cls := "java/lang/Object", name := "getClass", desc := "()Ljava/lang/Class;" } : MethodName)) ∈ lwg := lwg_of (pt_3 _ (List.mem_of_getElem? (i := 67) rfl)) rfl
theorem k_548 : (Cond.instanceMethod ({ cls := "java/lang/Object", name := "getClass", desc := "()Ljava/lang/Class;" } : MethodName)) ∈ lwg := lwg_of (pt_3 _ (List.mem_of_getElem? (i := 68) rfl)) rfl
theorem k_568 : (Cond.native ({ cls := "java/lang/Object", name := "getClass", desc := "()Ljava/lang/Class;" } : MethodName)) ∈ lwg := lwg_of (pt_3 _ (List.mem_of_getElem? (i := 88) rfl)) rfl
theorem k_569 : (Cond.methodLink "java/util/Arrays" (300 : Nat) ({ cls := "java/util/Arrays", name := "copyOf", desc := "([Ljava/lang/Object;ILjava/lang/Class;)[Ljava/lang/Object;" } : MethodName)) ∈ lwg := lwg_of (pt_3 _ (List.mem_of_getElem? (i := 89) rfl)) rfl
theorem k_570 : (Cond.static ({ cls := "java/util/Arrays", name := "copyOf", desc := "([Ljava/lang/Object;ILjava/lang/Class;)[Ljava/lang/Object;" } : MethodName)) ∈ lwg := lwg_of (pt_3 _ (List.mem_of_getElem? (i := 90) rfl)) rfl
theorem k_571 : (Cond.code ({ cls := "java/util/Arrays", name := "copyOf", desc := "([Ljava/lang/Object;ILjava/lang/Class;)[Ljava/lang/Object;" } : MethodName) prog_34_method_120_code (4 : Nat) (Option.some (FieldType.array (FieldType.object "java/lang/Object")))) ∈ lwg := lwg_of (pt_3 _ (List.mem_of_getElem? (i := 91) rfl)) rfl
theorem k_572 : (Cond.classLink "java/util/Arrays" (110 : Nat) "[Ljava/lang/Object;") ∈ lwg := lwg_of (pt_3 _ (List.mem_of_getElem? (i := 92) rfl)) rfl
theorem k_574 : (Cond.classLink "java/util/Arrays" (2 : Nat) "java/lang/Object") ∈ lwg := lwg_of (pt_3 _ (List.mem_of_getElem? (i := 94) rfl)) rfl
theorem k_575 : (Cond.methodLink "java/util/ArrayList" (79 : Nat) ({ cls := "java/lang/Math", name := "max", desc := "(II)I" } : MethodName)) ∈ lwg := lwg_of (pt_3 _ (List.mem_of_getElem? (i := 95) rfl)) rfl
theorem k_576 : (Cond.classLink "java/util/ArrayList" (7 : Nat) "java/lang/Object") ∈ lwg := lwg_of (pt_3 _ (List.mem_of_getElem? (i := 96) rfl)) rfl
theorem k_577 : (Cond.methodLink "LevelTables$Writer" (36 : Nat) ({ cls := "LevelTables$Chip", name := "take", desc := "()I" } : MethodName)) ∈ lwg := lwg_of (pt_3 _ (List.mem_of_getElem? (i := 97) rfl)) rfl
theorem k_578 : (Cond.instanceMethod ({ cls := "LevelTables$Chip", name := "take", desc := "()I" } : MethodName)) ∈ lwg := lwg_of (pt_3 _ (List.mem_of_getElem? (i := 98) rfl)) rfl
theorem k_579 : (Cond.selects "LevelTables$Chip" ({ cls := "LevelTables$Chip", name := "take", desc := "()I" } : MethodName) ({ cls := "LevelTables$Chip", name := "take", desc := "()I" } : MethodName)) ∈ lwg := lwg_of (pt_3 _ (List.mem_of_getElem? (i := 99) rfl)) rfl
theorem k_580 : (Cond.code ({ cls := "LevelTables$Chip", name := "take", desc := "()I" } : MethodName) prog_2_method_3_code (2 : Nat) (Option.some FieldType.int)) ∈ lwg := lwg_of (pt_3 _ (List.mem_of_getElem? (i := 100) rfl)) rfl
theorem k_581 : (Cond.methodLink "LevelTables$Chip" (31 : Nat) ({ cls := "LevelTables$Chip", name := "erase", desc := "(I)V" } : MethodName)) ∈ lwg := lwg_of (pt_3 _ (List.mem_of_getElem? (i := 101) rfl)) rfl
theorem k_583 : (Cond.instanceMethod ({ cls := "LevelTables$Chip", name := "erase", desc := "(I)V" } : MethodName)) ∈ lwg := lwg_of (pt_3 _ (List.mem_of_getElem? (i := 103) rfl)) rfl
theorem k_584 : (Cond.code ({ cls := "LevelTables$Chip", name := "erase", desc := "(I)V" } : MethodName) prog_2_method_4_code (2 : Nat) (Option.none : Option Jvm.ClassFile.FieldType)) ∈ lwg := lwg_of (pt_3 _ (List.mem_of_getElem? (i := 104) rfl)) rfl
theorem k_585 : (Cond.constantLong "LevelTables$Chip" (35 : Nat) (-1 : Int64)) ∈ lwg := lwg_of (pt_3 _ (List.mem_of_getElem? (i := 105) rfl)) rfl
theorem k_586 : (Cond.methodLink "LevelTables$Chip" (37 : Nat) ({ cls := "java/util/Arrays", name := "fill", desc := "([JJ)V" } : MethodName)) ∈ lwg := lwg_of (pt_3 _ (List.mem_of_getElem? (i := 106) rfl)) rfl
theorem k_587 : (Cond.static ({ cls := "java/util/Arrays", name := "fill", desc := "([JJ)V" } : MethodName)) ∈ lwg := lwg_of (pt_3 _ (List.mem_of_getElem? (i := 107) rfl)) rfl
theorem k_588 : (Cond.code ({ cls := "java/util/Arrays", name := "fill", desc := "([JJ)V" } : MethodName) prog_34_method_101_code (5 : Nat) (Option.none : Option Jvm.ClassFile.FieldType)) ∈ lwg := lwg_of (pt_3 _ (List.mem_of_getElem? (i := 108) rfl)) rfl
theorem k_589 : (Cond.methodLink "LevelTables$Writer" (42 : Nat) ({ cls := "LevelTables$Chip", name := "write", desc := "(IILLevelTables$Version;)V" } : MethodName)) ∈ lwg := lwg_of (pt_3 _ (List.mem_of_getElem? (i := 109) rfl)) rfl
theorem k_590 : (Cond.instanceMethod ({ cls := "LevelTables$Chip", name := "write", desc := "(IILLevelTables$Version;)V" } : MethodName)) ∈ lwg := lwg_of (pt_3 _ (List.mem_of_getElem? (i := 110) rfl)) rfl
theorem k_591 : (Cond.selects "LevelTables$Chip" ({ cls := "LevelTables$Chip", name := "write", desc := "(IILLevelTables$Version;)V" } : MethodName) ({ cls := "LevelTables$Chip", name := "write", desc := "(IILLevelTables$Version;)V" } : MethodName)) ∈ lwg := lwg_of (pt_3 _ (List.mem_of_getElem? (i := 111) rfl)) rfl
theorem k_592 : (Cond.code ({ cls := "LevelTables$Chip", name := "write", desc := "(IILLevelTables$Version;)V" } : MethodName) prog_2_method_6_code (4 : Nat) (Option.none : Option Jvm.ClassFile.FieldType)) ∈ lwg := lwg_of (pt_3 _ (List.mem_of_getElem? (i := 112) rfl)) rfl
theorem k_593 : (Cond.methodLink "LevelTables$Writer" (50 : Nat) ({ cls := "LevelTables$Version", name := "addTo", desc := "(J)J" } : MethodName)) ∈ lwg := lwg_of (pt_3 _ (List.mem_of_getElem? (i := 113) rfl)) rfl
theorem k_594 : (Cond.instanceMethod ({ cls := "LevelTables$Version", name := "addTo", desc := "(J)J" } : MethodName)) ∈ lwg := lwg_of (pt_3 _ (List.mem_of_getElem? (i := 114) rfl)) rfl
theorem k_595 : (Cond.selects "LevelTables$Version" ({ cls := "LevelTables$Version", name := "addTo", desc := "(J)J" } : MethodName) ({ cls := "LevelTables$Version", name := "addTo", desc := "(J)J" } : MethodName)) ∈ lwg := lwg_of (pt_3 _ (List.mem_of_getElem? (i := 115) rfl)) rfl
theorem k_596 : (Cond.code ({ cls := "LevelTables$Version", name := "addTo", desc := "(J)J" } : MethodName) prog_8_method_16_code (6 : Nat) (Option.some FieldType.long)) ∈ lwg := lwg_of (pt_3 _ (List.mem_of_getElem? (i := 116) rfl)) rfl
theorem k_597 : (Cond.constantLong "LevelTables$Version" (51 : Nat) (31 : Int64)) ∈ lwg := lwg_of (pt_3 _ (List.mem_of_getElem? (i := 117) rfl)) rfl
theorem k_598 : (Cond.methodLink "LevelTables" (293 : Nat) ({ cls := "LevelTables$Writer", name := "seal", desc := "()V" } : MethodName)) ∈ lwg := lwg_of (pt_3 _ (List.mem_of_getElem? (i := 118) rfl)) rfl
theorem k_599 : (Cond.methodLink "LevelTables" (263 : Nat) ({ cls := "LevelTables$Level", name := "remove", desc := "(II)V" } : MethodName)) ∈ lwg := lwg_of (pt_3 _ (List.mem_of_getElem? (i := 119) rfl)) rfl
theorem k_600 : (Cond.instanceMethod ({ cls := "LevelTables$Level", name := "remove", desc := "(II)V" } : MethodName)) ∈ lwg := lwg_of (pt_3 _ (List.mem_of_getElem? (i := 120) rfl)) rfl
theorem k_601 : (Cond.selects "LevelTables$Level" ({ cls := "LevelTables$Level", name := "remove", desc := "(II)V" } : MethodName) ({ cls := "LevelTables$Level", name := "remove", desc := "(II)V" } : MethodName)) ∈ lwg := lwg_of (pt_3 _ (List.mem_of_getElem? (i := 121) rfl)) rfl
theorem k_602 : (Cond.code ({ cls := "LevelTables$Level", name := "remove", desc := "(II)V" } : MethodName) prog_3_method_9_code (4 : Nat) (Option.none : Option Jvm.ClassFile.FieldType)) ∈ lwg := lwg_of (pt_3 _ (List.mem_of_getElem? (i := 122) rfl)) rfl
theorem k_603 : (Cond.methodLink "LevelTables$Level" (62 : Nat) ({ cls := "java/lang/Math", name := "min", desc := "(II)I" } : MethodName)) ∈ lwg := lwg_of (pt_3 _ (List.mem_of_getElem? (i := 123) rfl)) rfl
theorem k_604 : (Cond.methodLink "LevelTables$Level" (68 : Nat) ({ cls := "LevelTables$Table", name := "release", desc := "(LLevelTables$Chip;)V" } : MethodName)) ∈ lwg := lwg_of (pt_3 _ (List.mem_of_getElem? (i := 124) rfl)) rfl
theorem k_605 : (Cond.instanceMethod ({ cls := "LevelTables$Table", name := "release", desc := "(LLevelTables$Chip;)V" } : MethodName)) ∈ lwg := lwg_of (pt_3 _ (List.mem_of_getElem? (i := 125) rfl)) rfl
theorem k_606 : (Cond.selects "LevelTables$Table" ({ cls := "LevelTables$Table", name := "release", desc := "(LLevelTables$Chip;)V" } : MethodName) ({ cls := "LevelTables$Table", name := "release", desc := "(LLevelTables$Chip;)V" } : MethodName)) ∈ lwg := lwg_of (pt_3 _ (List.mem_of_getElem? (i := 126) rfl)) rfl
theorem k_607 : (Cond.code ({ cls := "LevelTables$Table", name := "release", desc := "(LLevelTables$Chip;)V" } : MethodName) prog_6_method_7_code (6 : Nat) (Option.none : Option Jvm.ClassFile.FieldType)) ∈ lwg := lwg_of (pt_3 _ (List.mem_of_getElem? (i := 127) rfl)) rfl
theorem k_608 : (Cond.methodLink "LevelTables$Table" (26 : Nat) ({ cls := "LevelTables$Chip", name := "release", desc := "(I)V" } : MethodName)) ∈ lwg := lwg_of (pt_3 _ (List.mem_of_getElem? (i := 128) rfl)) rfl
theorem k_609 : (Cond.instanceMethod ({ cls := "LevelTables$Chip", name := "release", desc := "(I)V" } : MethodName)) ∈ lwg := lwg_of (pt_3 _ (List.mem_of_getElem? (i := 129) rfl)) rfl
theorem k_610 : (Cond.selects "LevelTables$Chip" ({ cls := "LevelTables$Chip", name := "release", desc := "(I)V" } : MethodName) ({ cls := "LevelTables$Chip", name := "release", desc := "(I)V" } : MethodName)) ∈ lwg := lwg_of (pt_3 _ (List.mem_of_getElem? (i := 130) rfl)) rfl
theorem k_611 : (Cond.code ({ cls := "LevelTables$Chip", name := "release", desc := "(I)V" } : MethodName) prog_2_method_5_code (2 : Nat) (Option.none : Option Jvm.ClassFile.FieldType)) ∈ lwg := lwg_of (pt_3 _ (List.mem_of_getElem? (i := 131) rfl)) rfl
theorem k_612 : (Cond.methodLink "LevelTables$Level" (72 : Nat) ({ cls := "java/util/ArrayList", name := "remove", desc := "(I)Ljava/lang/Object;" } : MethodName)) ∈ lwg := lwg_of (pt_3 _ (List.mem_of_getElem? (i := 132) rfl)) rfl
theorem k_613 : (Cond.instanceMethod ({ cls := "java/util/ArrayList", name := "remove", desc := "(I)Ljava/lang/Object;" } : MethodName)) ∈ lwg := lwg_of (pt_3 _ (List.mem_of_getElem? (i := 133) rfl)) rfl
theorem k_614 : (Cond.selects "java/util/ArrayList" ({ cls := "java/util/ArrayList", name := "remove", desc := "(I)Ljava/lang/Object;" } : MethodName) ({ cls := "java/util/ArrayList", name := "remove", desc := "(I)Ljava/lang/Object;" } : MethodName)) ∈ lwg := lwg_of (pt_3 _ (List.mem_of_getElem? (i := 134) rfl)) rfl
theorem k_615 : (Cond.code ({ cls := "java/util/ArrayList", name := "remove", desc := "(I)Ljava/lang/Object;" } : MethodName) prog_33_method_29_code (4 : Nat) (Option.some (FieldType.object "java/lang/Object"))) ∈ lwg := lwg_of (pt_3 _ (List.mem_of_getElem? (i := 135) rfl)) rfl
theorem k_616 : (Cond.methodLink "java/util/ArrayList" (144 : Nat) ({ cls := "java/util/ArrayList", name := "fastRemove", desc := "([Ljava/lang/Object;I)V" } : MethodName)) ∈ lwg := lwg_of (pt_3 _ (List.mem_of_getElem? (i := 136) rfl)) rfl
theorem k_618 : (Cond.instanceMethod ({ cls := "java/util/ArrayList", name := "fastRemove", desc := "([Ljava/lang/Object;I)V" } : MethodName)) ∈ lwg := lwg_of (pt_3 _ (List.mem_of_getElem? (i := 138) rfl)) rfl
theorem k_619 : (Cond.code ({ cls := "java/util/ArrayList", name := "fastRemove", desc := "([Ljava/lang/Object;I)V" } : MethodName) prog_33_method_39_code (4 : Nat) (Option.none : Option Jvm.ClassFile.FieldType)) ∈ lwg := lwg_of (pt_3 _ (List.mem_of_getElem? (i := 139) rfl)) rfl
theorem k_620 : (Cond.methodLink "java/util/ArrayList" (112 : Nat) ({ cls := "java/lang/System", name := "arraycopy", desc := "(Ljava/lang/Object;ILjava/lang/Object;II)V" } : MethodName)) ∈ lwg := lwg_of (pt_3 _ (List.mem_of_getElem? (i := 140) rfl)) rfl
theorem k_621 : (Cond.methodLink "LevelTables$Level" (75 : Nat) ({ cls := "LevelTables$Level", name := "renumber", desc := "()V" } : MethodName)) ∈ lwg := lwg_of (pt_3 _ (List.mem_of_getElem? (i := 141) rfl)) rfl
theorem k_623 : (Cond.instanceMethod ({ cls := "LevelTables$Level", name := "renumber", desc := "()V" } : MethodName)) ∈ lwg := lwg_of (pt_3 _ (List.mem_of_getElem? (i := 143) rfl)) rfl
theorem k_624 : (Cond.code ({ cls := "LevelTables$Level", name := "renumber", desc := "()V" } : MethodName) prog_3_method_11_code (2 : Nat) (Option.none : Option Jvm.ClassFile.FieldType)) ∈ lwg := lwg_of (pt_3 _ (List.mem_of_getElem? (i := 144) rfl)) rfl
theorem k_625 : (Cond.methodLink "LevelTables$Level" (82 : Nat) ({ cls := "LevelTables$Table", name := "setStart", desc := "(I)V" } : MethodName)) ∈ lwg := lwg_of (pt_3 _ (List.mem_of_getElem? (i := 145) rfl)) rfl
theorem k_626 : (Cond.instanceMethod ({ cls := "LevelTables$Table", name := "setStart", desc := "(I)V" } : MethodName)) ∈ lwg := lwg_of (pt_3 _ (List.mem_of_getElem? (i := 146) rfl)) rfl
theorem k_627 : (Cond.selects "LevelTables$Table" ({ cls := "LevelTables$Table", name := "setStart", desc := "(I)V" } : MethodName) ({ cls := "LevelTables$Table", name := "setStart", desc := "(I)V" } : MethodName)) ∈ lwg := lwg_of (pt_3 _ (List.mem_of_getElem? (i := 147) rfl)) rfl
theorem k_628 : (Cond.code ({ cls := "LevelTables$Table", name := "setStart", desc := "(I)V" } : MethodName) prog_6_method_5_code (2 : Nat) (Option.none : Option Jvm.ClassFile.FieldType)) ∈ lwg := lwg_of (pt_3 _ (List.mem_of_getElem? (i := 148) rfl)) rfl
theorem k_629 : (Cond.methodLink "LevelTables$Level" (85 : Nat) ({ cls := "LevelTables$Table", name := "count", desc := "()I" } : MethodName)) ∈ lwg := lwg_of (pt_3 _ (List.mem_of_getElem? (i := 149) rfl)) rfl
theorem k_630 : (Cond.instanceMethod ({ cls := "LevelTables$Table", name := "count", desc := "()I" } : MethodName)) ∈ lwg := lwg_of (pt_3 _ (List.mem_of_getElem? (i := 150) rfl)) rfl
theorem k_631 : (Cond.selects "LevelTables$Table" ({ cls := "LevelTables$Table", name := "count", desc := "()I" } : MethodName) ({ cls := "LevelTables$Table", name := "count", desc := "()I" } : MethodName)) ∈ lwg := lwg_of (pt_3 _ (List.mem_of_getElem? (i := 151) rfl)) rfl
theorem k_632 : (Cond.code ({ cls := "LevelTables$Table", name := "count", desc := "()I" } : MethodName) prog_6_method_2_code (1 : Nat) (Option.some FieldType.int)) ∈ lwg := lwg_of (pt_3 _ (List.mem_of_getElem? (i := 152) rfl)) rfl
theorem k_633 : (Cond.methodLink "LevelTables" (267 : Nat) ({ cls := "LevelTables$Writer", name := "tables", desc := "()Ljava/util/ArrayList;" } : MethodName)) ∈ lwg := lwg_of (pt_3 _ (List.mem_of_getElem? (i := 153) rfl)) rfl
theorem k_634 : (Cond.instanceMethod ({ cls := "LevelTables$Writer", name := "tables", desc := "()Ljava/util/ArrayList;" } : MethodName)) ∈ lwg := lwg_of (pt_3 _ (List.mem_of_getElem? (i := 154) rfl)) rfl
theorem k_635 : (Cond.selects "LevelTables$Writer" ({ cls := "LevelTables$Writer", name := "tables", desc := "()Ljava/util/ArrayList;" } : MethodName) ({ cls := "LevelTables$Writer", name := "tables", desc := "()Ljava/util/ArrayList;" } : MethodName)) ∈ lwg := lwg_of (pt_3 _ (List.mem_of_getElem? (i := 155) rfl)) rfl
theorem k_636 : (Cond.code ({ cls := "LevelTables$Writer", name := "tables", desc := "()Ljava/util/ArrayList;" } : MethodName) prog_11_method_2_code (1 : Nat) (Option.some (FieldType.object "java/util/ArrayList"))) ∈ lwg := lwg_of (pt_3 _ (List.mem_of_getElem? (i := 156) rfl)) rfl
theorem k_637 : (Cond.methodLink "LevelTables" (271 : Nat) ({ cls := "LevelTables$Level", name := "insert", desc := "(ILjava/util/ArrayList;)V" } : MethodName)) ∈ lwg := lwg_of (pt_3 _ (List.mem_of_getElem? (i := 157) rfl)) rfl
theorem k_638 : (Cond.instanceMethod ({ cls := "LevelTables$Level", name := "insert", desc := "(ILjava/util/ArrayList;)V" } : MethodName)) ∈ lwg := lwg_of (pt_3 _ (List.mem_of_getElem? (i := 158) rfl)) rfl
theorem k_639 : (Cond.selects "LevelTables$Level" ({ cls := "LevelTables$Level", name := "insert", desc := "(ILjava/util/ArrayList;)V" } : MethodName) ({ cls := "LevelTables$Level", name := "insert", desc := "(ILjava/util/ArrayList;)V" } : MethodName)) ∈ lwg := lwg_of (pt_3 _ (List.mem_of_getElem? (i := 159) rfl)) rfl
theorem k_640 : (Cond.code ({ cls := "LevelTables$Level", name := "insert", desc := "(ILjava/util/ArrayList;)V" } : MethodName) prog_3_method_10_code (4 : Nat) (Option.none : Option Jvm.ClassFile.FieldType)) ∈ lwg := lwg_of (pt_3 _ (List.mem_of_getElem? (i := 160) rfl)) rfl
theorem k_641 : (Cond.methodLink "LevelTables$Level" (78 : Nat) ({ cls := "java/util/ArrayList", name := "add", desc := "(ILjava/lang/Object;)V" } : MethodName)) ∈ lwg := lwg_of (pt_3 _ (List.mem_of_getElem? (i := 161) rfl)) rfl
theorem k_642 : (Cond.instanceMethod ({ cls := "java/util/ArrayList", name := "add", desc := "(ILjava/lang/Object;)V" } : MethodName)) ∈ lwg := lwg_of (pt_3 _ (List.mem_of_getElem? (i := 162) rfl)) rfl
theorem k_643 : (Cond.selects "java/util/ArrayList" ({ cls := "java/util/ArrayList", name := "add", desc := "(ILjava/lang/Object;)V" } : MethodName) ({ cls := "java/util/ArrayList", name := "add", desc := "(ILjava/lang/Object;)V" } : MethodName)) ∈ lwg := lwg_of (pt_3 _ (List.mem_of_getElem? (i := 163) rfl)) rfl
theorem k_644 : (Cond.code ({ cls := "java/util/ArrayList", name := "add", desc := "(ILjava/lang/Object;)V" } : MethodName) prog_33_method_26_code (5 : Nat) (Option.none : Option Jvm.ClassFile.FieldType)) ∈ lwg := lwg_of (pt_3 _ (List.mem_of_getElem? (i := 164) rfl)) rfl
theorem k_645 : (Cond.methodLink "java/util/ArrayList" (135 : Nat) ({ cls := "java/util/ArrayList", name := "rangeCheckForAdd", desc := "(I)V" } : MethodName)) ∈ lwg := lwg_of (pt_3 _ (List.mem_of_getElem? (i := 165) rfl)) rfl
theorem k_647 : (Cond.instanceMethod ({ cls := "java/util/ArrayList", name := "rangeCheckForAdd", desc := "(I)V" } : MethodName)) ∈ lwg := lwg_of (pt_3 _ (List.mem_of_getElem? (i := 167) rfl)) rfl
theorem k_648 : (Cond.code ({ cls := "java/util/ArrayList", name := "rangeCheckForAdd", desc := "(I)V" } : MethodName) prog_33_method_45_code (2 : Nat) (Option.none : Option Jvm.ClassFile.FieldType)) ∈ lwg := lwg_of (pt_3 _ (List.mem_of_getElem? (i := 168) rfl)) rfl
theorem k_650 : (Cond.instantiable "java/lang/IndexOutOfBoundsException" (6 : Nat)) ∈ lwg := lwg_of (pt_3 _ (List.mem_of_getElem? (i := 170) rfl)) rfl
theorem k_750 : (Cond.code ({ cls := "java/util/Arrays", name := "copyOf", desc := "([BI)[B" } : MethodName) prog_34_method_121_code (3 : Nat) (Option.some (FieldType.array FieldType.byte))) ∈ lwg := lwg_of (pt_4 _ (List.mem_of_getElem? (i := 30) rfl)) rfl
theorem k_755 : (Cond.classLink "java/util/Arrays" (311 : Nat) "[B") ∈ lwg := lwg_of (pt_4 _ (List.mem_of_getElem? (i := 35) rfl)) rfl
theorem k_893 : (Cond.instantiable "java/lang/IllegalArgumentException" (6 : Nat)) ∈ lwg := lwg_of (pt_4 _ (List.mem_of_getElem? (i := 173) rfl)) rfl
theorem k_962 : (Cond.methodLink "LevelTables" (274 : Nat) ({ cls := "LevelTables$Memory", name := "clear", desc := "()V" } : MethodName)) ∈ lwg := lwg_of (pt_5 _ (List.mem_of_getElem? (i := 2) rfl)) rfl
theorem k_963 : (Cond.instanceMethod ({ cls := "LevelTables$Memory", name := "clear", desc := "()V" } : MethodName)) ∈ lwg := lwg_of (pt_5 _ (List.mem_of_getElem? (i := 3) rfl)) rfl
theorem k_964 : (Cond.selects "LevelTables$Memory" ({ cls := "LevelTables$Memory", name := "clear", desc := "()V" } : MethodName) ({ cls := "LevelTables$Memory", name := "clear", desc := "()V" } : MethodName)) ∈ lwg := lwg_of (pt_5 _ (List.mem_of_getElem? (i := 4) rfl)) rfl
theorem k_965 : (Cond.code ({ cls := "LevelTables$Memory", name := "clear", desc := "()V" } : MethodName) prog_4_method_5_code (1 : Nat) (Option.none : Option Jvm.ClassFile.FieldType)) ∈ lwg := lwg_of (pt_5 _ (List.mem_of_getElem? (i := 5) rfl)) rfl
theorem k_966 : (Cond.methodLink "LevelTables" (176 : Nat) ({ cls := "LevelTables$Level", name := "tableCount", desc := "()I" } : MethodName)) ∈ lwg := lwg_of (pt_5 _ (List.mem_of_getElem? (i := 6) rfl)) rfl
theorem k_967 : (Cond.instanceMethod ({ cls := "LevelTables$Level", name := "tableCount", desc := "()I" } : MethodName)) ∈ lwg := lwg_of (pt_5 _ (List.mem_of_getElem? (i := 7) rfl)) rfl
theorem k_968 : (Cond.selects "LevelTables$Level" ({ cls := "LevelTables$Level", name := "tableCount", desc := "()I" } : MethodName) ({ cls := "LevelTables$Level", name := "tableCount", desc := "()I" } : MethodName)) ∈ lwg := lwg_of (pt_5 _ (List.mem_of_getElem? (i := 8) rfl)) rfl
theorem k_969 : (Cond.code ({ cls := "LevelTables$Level", name := "tableCount", desc := "()I" } : MethodName) prog_3_method_4_code (1 : Nat) (Option.some FieldType.int)) ∈ lwg := lwg_of (pt_5 _ (List.mem_of_getElem? (i := 9) rfl)) rfl
theorem k_970 : (Cond.fieldLink "LevelTables" (179 : Nat) "LevelTables" "ALLOWED" "[I") ∈ lwg := lwg_of (pt_5 _ (List.mem_of_getElem? (i := 10) rfl)) rfl
theorem k_972 : (Cond.methodLink "LevelTables" (183 : Nat) ({ cls := "LevelTables", name := "pushDown", desc := "(I)V" } : MethodName)) ∈ lwg := lwg_of (pt_5 _ (List.mem_of_getElem? (i := 12) rfl)) rfl
theorem k_974 : (Cond.instanceMethod ({ cls := "LevelTables", name := "pushDown", desc := "(I)V" } : MethodName)) ∈ lwg := lwg_of (pt_5 _ (List.mem_of_getElem? (i := 14) rfl)) rfl
theorem k_975 : (Cond.code ({ cls := "LevelTables", name := "pushDown", desc := "(I)V" } : MethodName) prog_1_method_21_code (7 : Nat) (Option.none : Option Jvm.ClassFile.FieldType)) ∈ lwg := lwg_of (pt_5 _ (List.mem_of_getElem? (i := 15) rfl)) rfl
theorem k_976 : (Cond.methodLink "LevelTables" (275 : Nat) ({ cls := "LevelTables$Level", name := "load", desc := "(ILLevelTables$Version;)V" } : MethodName)) ∈ lwg := lwg_of (pt_5 _ (List.mem_of_getElem? (i := 16) rfl)) rfl
theorem k_977 : (Cond.methodLink "LevelTablesLaw" (101 : Nat) ({ cls := "LevelTables", name := "merge", desc := "(Z)I" } : MethodName)) ∈ lwg := lwg_of (pt_5 _ (List.mem_of_getElem? (i := 17) rfl)) rfl
theorem k_978 : (Cond.instanceMethod ({ cls := "LevelTables", name := "merge", desc := "(Z)I" } : MethodName)) ∈ lwg := lwg_of (pt_5 _ (List.mem_of_getElem? (i := 18) rfl)) rfl
theorem k_979 : (Cond.selects "LevelTables" ({ cls := "LevelTables", name := "merge", desc := "(Z)I" } : MethodName) ({ cls := "LevelTables", name := "merge", desc := "(Z)I" } : MethodName)) ∈ lwg := lwg_of (pt_5 _ (List.mem_of_getElem? (i := 19) rfl)) rfl
theorem k_980 : (Cond.code ({ cls := "LevelTables", name := "merge", desc := "(Z)I" } : MethodName) prog_1_method_13_code (3 : Nat) (Option.some FieldType.int)) ∈ lwg := lwg_of (pt_5 _ (List.mem_of_getElem? (i := 20) rfl)) rfl
theorem k_981 : (Cond.methodLink "LevelTables" (190 : Nat) ({ cls := "LevelTables", name := "mergeAll", desc := "()V" } : MethodName)) ∈ lwg := lwg_of (pt_5 _ (List.mem_of_getElem? (i := 21) rfl)) rfl
theorem k_983 : (Cond.instanceMethod ({ cls := "LevelTables", name := "mergeAll", desc := "()V" } : MethodName)) ∈ lwg := lwg_of (pt_5 _ (List.mem_of_getElem? (i := 23) rfl)) rfl
theorem k_984 : (Cond.code ({ cls := "LevelTables", name := "mergeAll", desc := "()V" } : MethodName) prog_1_method_22_code (2 : Nat) (Option.none : Option Jvm.ClassFile.FieldType)) ∈ lwg := lwg_of (pt_5 _ (List.mem_of_getElem? (i := 24) rfl)) rfl
theorem k_985 : (Cond.methodLink "LevelTables" (276 : Nat) ({ cls := "LevelTables$Level", name := "count", desc := "()I" } : MethodName)) ∈ lwg := lwg_of (pt_5 _ (List.mem_of_getElem? (i := 25) rfl)) rfl
theorem k_986 : (Cond.methodLink "LevelTablesLaw" (106 : Nat) ({ cls := "LevelTables", name := "check", desc := "()I" } : MethodName)) ∈ lwg := lwg_of (pt_5 _ (List.mem_of_getElem? (i := 26) rfl)) rfl
theorem k_987 : (Cond.instanceMethod ({ cls := "LevelTables", name := "check", desc := "()I" } : MethodName)) ∈ lwg := lwg_of (pt_5 _ (List.mem_of_getElem? (i := 27) rfl)) rfl
theorem k_988 : (Cond.selects "LevelTables" ({ cls := "LevelTables", name := "check", desc := "()I" } : MethodName) ({ cls := "LevelTables", name := "check", desc := "()I" } : MethodName)) ∈ lwg := lwg_of (pt_5 _ (List.mem_of_getElem? (i := 28) rfl)) rfl
theorem k_989 : (Cond.code ({ cls := "LevelTables", name := "check", desc := "()I" } : MethodName) prog_1_method_14_code (1 : Nat) (Option.some FieldType.int)) ∈ lwg := lwg_of (pt_5 _ (List.mem_of_getElem? (i := 29) rfl)) rfl
theorem k_990 : (Cond.methodLink "LevelTables" (193 : Nat) ({ cls := "LevelTables", name := "isSound", desc := "()Z" } : MethodName)) ∈ lwg := lwg_of (pt_5 _ (List.mem_of_getElem? (i := 30) rfl)) rfl
theorem k_992 : (Cond.instanceMethod ({ cls := "LevelTables", name := "isSound", desc := "()Z" } : MethodName)) ∈ lwg := lwg_of (pt_5 _ (List.mem_of_getElem? (i := 32) rfl)) rfl
theorem k_993 : (Cond.code ({ cls := "LevelTables", name := "isSound", desc := "()Z" } : MethodName) prog_1_method_25_code (2 : Nat) (Option.some FieldType.boolean)) ∈ lwg := lwg_of (pt_5 _ (List.mem_of_getElem? (i := 33) rfl)) rfl
theorem k_994 : (Cond.methodLink "LevelTables" (296 : Nat) ({ cls := "LevelTables$Chip", name := "forgetUses", desc := "()V" } : MethodName)) ∈ lwg := lwg_of (pt_5 _ (List.mem_of_getElem? (i := 34) rfl)) rfl
theorem k_995 : (Cond.instanceMethod ({ cls := "LevelTables$Chip", name := "forgetUses", desc := "()V" } : MethodName)) ∈ lwg := lwg_of (pt_5 _ (List.mem_of_getElem? (i := 35) rfl)) rfl
theorem k_996 : (Cond.selects "LevelTables$Chip" ({ cls := "LevelTables$Chip", name := "forgetUses", desc := "()V" } : MethodName) ({ cls := "LevelTables$Chip", name := "forgetUses", desc := "()V" } : MethodName)) ∈ lwg := lwg_of (pt_5 _ (List.mem_of_getElem? (i := 36) rfl)) rfl
theorem k_997 : (Cond.code ({ cls := "LevelTables$Chip", name := "forgetUses", desc := "()V" } : MethodName) prog_2_method_9_code (1 : Nat) (Option.none : Option Jvm.ClassFile.FieldType)) ∈ lwg := lwg_of (pt_5 _ (List.mem_of_getElem? (i := 37) rfl)) rfl
theorem k_998 : (Cond.methodLink "LevelTables$Chip" (59 : Nat) ({ cls := "java/util/Arrays", name := "fill", desc := "([II)V" } : MethodName)) ∈ lwg := lwg_of (pt_5 _ (List.mem_of_getElem? (i := 38) rfl)) rfl
theorem k_999 : (Cond.methodLink "LevelTables" (299 : Nat) ({ cls := "LevelTables$Level", name := "isSound", desc := "(LLevelTables$Version;LLevelTables$Version;)Z" } : MethodName)) ∈ lwg := lwg_of (pt_5 _ (List.mem_of_getElem? (i := 39) rfl)) rfl
theorem k_1000 : (Cond.instanceMethod ({ cls := "LevelTables$Level", name := "isSound", desc := "(LLevelTables$Version;LLevelTables$Version;)Z" } : MethodName)) ∈ lwg := lwg_of (pt_5 _ (List.mem_of_getElem? (i := 40) rfl)) rfl
theorem k_1001 : (Cond.selects "LevelTables$Level" ({ cls := "LevelTables$Level", name := "isSound", desc := "(LLevelTables$Version;LLevelTables$Version;)Z" } : MethodName) ({ cls := "LevelTables$Level", name := "isSound", desc := "(LLevelTables$Version;LLevelTables$Version;)Z" } : MethodName)) ∈ lwg := lwg_of (pt_5 _ (List.mem_of_getElem? (i := 41) rfl)) rfl
theorem k_1002 : (Cond.code ({ cls := "LevelTables$Level", name := "isSound", desc := "(LLevelTables$Version;LLevelTables$Version;)Z" } : MethodName) prog_3_method_12_code (5 : Nat) (Option.some FieldType.boolean)) ∈ lwg := lwg_of (pt_5 _ (List.mem_of_getElem? (i := 42) rfl)) rfl
theorem k_1003 : (Cond.methodLink "LevelTables$Level" (87 : Nat) ({ cls := "LevelTables$Table", name := "usesItsBlocks", desc := "(LLevelTables$Chip;)Z" } : MethodName)) ∈ lwg := lwg_of (pt_5 _ (List.mem_of_getElem? (i := 43) rfl)) rfl
theorem k_1004 : (Cond.instanceMethod ({ cls := "LevelTables$Table", name := "usesItsBlocks", desc := "(LLevelTables$Chip;)Z" } : MethodName)) ∈ lwg := lwg_of (pt_5 _ (List.mem_of_getElem? (i := 44) rfl)) rfl
theorem k_1005 : (Cond.selects "LevelTables$Table" ({ cls := "LevelTables$Table", name := "usesItsBlocks", desc := "(LLevelTables$Chip;)Z" } : MethodName) ({ cls := "LevelTables$Table", name := "usesItsBlocks", desc := "(LLevelTables$Chip;)Z" } : MethodName)) ∈ lwg := lwg_of (pt_5 _ (List.mem_of_getElem? (i := 45) rfl)) rfl
theorem k_1006 : (Cond.code ({ cls := "LevelTables$Table", name := "usesItsBlocks", desc := "(LLevelTables$Chip;)Z" } : MethodName) prog_6_method_8_code (6 : Nat) (Option.some FieldType.boolean)) ∈ lwg := lwg_of (pt_5 _ (List.mem_of_getElem? (i := 46) rfl)) rfl
theorem k_1007 : (Cond.methodLink "LevelTables$Table" (32 : Nat) ({ cls := "LevelTables$Chip", name := "use", desc := "(I)Z" } : MethodName)) ∈ lwg := lwg_of (pt_5 _ (List.mem_of_getElem? (i := 47) rfl)) rfl
theorem k_1008 : (Cond.instanceMethod ({ cls := "LevelTables$Chip", name := "use", desc := "(I)Z" } : MethodName)) ∈ lwg := lwg_of (pt_5 _ (List.mem_of_getElem? (i := 48) rfl)) rfl
theorem k_1009 : (Cond.selects "LevelTables$Chip" ({ cls := "LevelTables$Chip", name := "use", desc := "(I)Z" } : MethodName) ({ cls := "LevelTables$Chip", name := "use", desc := "(I)Z" } : MethodName)) ∈ lwg := lwg_of (pt_5 _ (List.mem_of_getElem? (i := 49) rfl)) rfl
theorem k_1010 : (Cond.code ({ cls := "LevelTables$Chip", name := "use", desc := "(I)Z" } : MethodName) prog_2_method_10_code (2 : Nat) (Option.some FieldType.boolean)) ∈ lwg := lwg_of (pt_5 _ (List.mem_of_getElem? (i := 50) rfl)) rfl
theorem k_1011 : (Cond.methodLink "LevelTables$Level" (91 : Nat) ({ cls := "LevelTables$Level", name := "load", desc := "(ILLevelTables$Version;)V" } : MethodName)) ∈ lwg := lwg_of (pt_5 _ (List.mem_of_getElem? (i := 51) rfl)) rfl
theorem k_1012 : (Cond.methodLink "LevelTables$Level" (95 : Nat) ({ cls := "LevelTables$Version", name := "compareKey", desc := "(LLevelTables$Version;)I" } : MethodName)) ∈ lwg := lwg_of (pt_5 _ (List.mem_of_getElem? (i := 52) rfl)) rfl
theorem k_1013 : (Cond.methodLink "LevelTables$Level" (98 : Nat) ({ cls := "LevelTables$Level", name := "isWhole", desc := "(LLevelTables$Table;LLevelTables$Version;LLevelTables$Version;)Z" } : MethodName)) ∈ lwg := lwg_of (pt_5 _ (List.mem_of_getElem? (i := 53) rfl)) rfl
theorem k_1015 : (Cond.instanceMethod ({ cls := "LevelTables$Level", name := "isWhole", desc := "(LLevelTables$Table;LLevelTables$Version;LLevelTables$Version;)Z" } : MethodName)) ∈ lwg := lwg_of (pt_5 _ (List.mem_of_getElem? (i := 55) rfl)) rfl
theorem k_1016 : (Cond.code ({ cls := "LevelTables$Level", name := "isWhole", desc := "(LLevelTables$Table;LLevelTables$Version;LLevelTables$Version;)Z" } : MethodName) prog_3_method_13_code (7 : Nat) (Option.some FieldType.boolean)) ∈ lwg := lwg_of (pt_5 _ (List.mem_of_getElem? (i := 56) rfl)) rfl
theorem k_1017 : (Cond.methodLink "LevelTables$Level" (102 : Nat) ({ cls := "LevelTables$Version", name := "isBefore", desc := "(LLevelTables$Version;)Z" } : MethodName)) ∈ lwg := lwg_of (pt_5 _ (List.mem_of_getElem? (i := 57) rfl)) rfl
theorem k_1018 : (Cond.methodLink "LevelTables$Level" (106 : Nat) ({ cls := "LevelTables$Version", name := "addTo", desc := "(J)J" } : MethodName)) ∈ lwg := lwg_of (pt_5 _ (List.mem_of_getElem? (i := 58) rfl)) rfl
theorem k_1019 : (Cond.methodLink "LevelTables$Level" (110 : Nat) ({ cls := "LevelTables$Version", name := "copy", desc := "(LLevelTables$Version;)V" } : MethodName)) ∈ lwg := lwg_of (pt_5 _ (List.mem_of_getElem? (i := 59) rfl)) rfl
theorem k_1020 : (Cond.methodLink "LevelTables$Level" (114 : Nat) ({ cls := "LevelTables$Table", name := "sum", desc := "()J" } : MethodName)) ∈ lwg := lwg_of (pt_5 _ (List.mem_of_getElem? (i := 60) rfl)) rfl
theorem k_1021 : (Cond.instanceMethod ({ cls := "LevelTables$Table", name := "sum", desc := "()J" } : MethodName)) ∈ lwg := lwg_of (pt_5 _ (List.mem_of_getElem? (i := 61) rfl)) rfl
theorem k_1022 : (Cond.selects "LevelTables$Table" ({ cls := "LevelTables$Table", name := "sum", desc := "()J" } : MethodName) ({ cls := "LevelTables$Table", name := "sum", desc := "()J" } : MethodName)) ∈ lwg := lwg_of (pt_5 _ (List.mem_of_getElem? (i := 62) rfl)) rfl
theorem k_1023 : (Cond.code ({ cls := "LevelTables$Table", name := "sum", desc := "()J" } : MethodName) prog_6_method_3_code (1 : Nat) (Option.some FieldType.long)) ∈ lwg := lwg_of (pt_5 _ (List.mem_of_getElem? (i := 63) rfl)) rfl
theorem k_1024 : (Cond.methodLink "LevelTables" (302 : Nat) ({ cls := "LevelTables$Chip", name := "isMisused", desc := "()Z" } : MethodName)) ∈ lwg := lwg_of (pt_5 _ (List.mem_of_getElem? (i := 64) rfl)) rfl
theorem k_1025 : (Cond.instanceMethod ({ cls := "LevelTables$Chip", name := "isMisused", desc := "()Z" } : MethodName)) ∈ lwg := lwg_of (pt_5 _ (List.mem_of_getElem? (i := 65) rfl)) rfl
theorem k_1026 : (Cond.selects "LevelTables$Chip" ({ cls := "LevelTables$Chip", name := "isMisused", desc := "()Z" } : MethodName) ({ cls := "LevelTables$Chip", name := "isMisused", desc := "()Z" } : MethodName)) ∈ lwg := lwg_of (pt_5 _ (List.mem_of_getElem? (i := 66) rfl)) rfl
theorem k_1027 : (Cond.code ({ cls := "LevelTables$Chip", name := "isMisused", desc := "()Z" } : MethodName) prog_2_method_2_code (1 : Nat) (Option.some FieldType.boolean)) ∈ lwg := lwg_of (pt_5 _ (List.mem_of_getElem? (i := 67) rfl)) rfl
theorem k_1028 : (Cond.methodLink "LevelTables" (196 : Nat) ({ cls := "LevelTables", name := "countLiving", desc := "()I" } : MethodName)) ∈ lwg := lwg_of (pt_5 _ (List.mem_of_getElem? (i := 68) rfl)) rfl
theorem k_1030 : (Cond.instanceMethod ({ cls := "LevelTables", name := "countLiving", desc := "()I" } : MethodName)) ∈ lwg := lwg_of (pt_5 _ (List.mem_of_getElem? (i := 70) rfl)) rfl
theorem k_1031 : (Cond.code ({ cls := "LevelTables", name := "countLiving", desc := "()I" } : MethodName) prog_1_method_26_code (3 : Nat) (Option.some FieldType.int)) ∈ lwg := lwg_of (pt_5 _ (List.mem_of_getElem? (i := 71) rfl)) rfl
theorem k_1032 : (Cond.methodLink "LevelTables" (125 : Nat) ({ cls := "LevelTables$Views", name := "present", desc := "()I" } : MethodName)) ∈ lwg := lwg_of (pt_5 _ (List.mem_of_getElem? (i := 72) rfl)) rfl
theorem k_1033 : (Cond.instanceMethod ({ cls := "LevelTables$Views", name := "present", desc := "()I" } : MethodName)) ∈ lwg := lwg_of (pt_5 _ (List.mem_of_getElem? (i := 73) rfl)) rfl
theorem k_1034 : (Cond.selects "LevelTables$Views" ({ cls := "LevelTables$Views", name := "present", desc := "()I" } : MethodName) ({ cls := "LevelTables$Views", name := "present", desc := "()I" } : MethodName)) ∈ lwg := lwg_of (pt_5 _ (List.mem_of_getElem? (i := 74) rfl)) rfl
theorem k_1035 : (Cond.code ({ cls := "LevelTables$Views", name := "present", desc := "()I" } : MethodName) prog_9_method_2_code (1 : Nat) (Option.some FieldType.int)) ∈ lwg := lwg_of (pt_5 _ (List.mem_of_getElem? (i := 75) rfl)) rfl
theorem k_1036 : (Cond.methodLink "LevelTables" (243 : Nat) ({ cls := "LevelTables$Walk", name := "isSomethingAt", desc := "(I)Z" } : MethodName)) ∈ lwg := lwg_of (pt_5 _ (List.mem_of_getElem? (i := 76) rfl)) rfl
theorem k_1037 : (Cond.instanceMethod ({ cls := "LevelTables$Walk", name := "isSomethingAt", desc := "(I)Z" } : MethodName)) ∈ lwg := lwg_of (pt_5 _ (List.mem_of_getElem? (i := 77) rfl)) rfl
theorem k_1038 : (Cond.selects "LevelTables$Walk" ({ cls := "LevelTables$Walk", name := "isSomethingAt", desc := "(I)Z" } : MethodName) ({ cls := "LevelTables$Walk", name := "isSomethingAt", desc := "(I)Z" } : MethodName)) ∈ lwg := lwg_of (pt_5 _ (List.mem_of_getElem? (i := 78) rfl)) rfl
theorem k_1039 : (Cond.code ({ cls := "LevelTables$Walk", name := "isSomethingAt", desc := "(I)Z" } : MethodName) prog_10_method_9_code (2 : Nat) (Option.some FieldType.boolean)) ∈ lwg := lwg_of (pt_5 _ (List.mem_of_getElem? (i := 79) rfl)) rfl
theorem k_1040 : (Cond.methodLink "LevelTables$Walk" (76 : Nat) ({ cls := "LevelTables$Version", name := "isThere", desc := "()Z" } : MethodName)) ∈ lwg := lwg_of (pt_5 _ (List.mem_of_getElem? (i := 80) rfl)) rfl
theorem k_1041 : (Cond.methodLink "LevelTablesLaw" (57 : Nat) ({ cls := "LevelTablesLaw", name := "feed", desc := "(LLevelTables;IIIII[J)I" } : MethodName)) ∈ lwg := lwg_of (pt_5 _ (List.mem_of_getElem? (i := 81) rfl)) rfl
theorem k_1042 : (Cond.static ({ cls := "LevelTablesLaw", name := "feed", desc := "(LLevelTables;IIIII[J)I" } : MethodName)) ∈ lwg := lwg_of (pt_5 _ (List.mem_of_getElem? (i := 82) rfl)) rfl
theorem k_1043 : (Cond.codeWith ({ cls := "LevelTablesLaw", name := "feed", desc := "(LLevelTables;IIIII[J)I" } : MethodName) method_3_code (8 : Nat) (Option.some FieldType.int) [((0 : Nat), (16 : Nat), (19 : Nat), (13 : Nat))]) ∈ lwg := lwg_of (pt_5 _ (List.mem_of_getElem? (i := 83) rfl)) rfl
theorem k_1044 : (Cond.classLink "LevelTablesLaw" (13 : Nat) "java/lang/IndexOutOfBoundsException") ∈ lwg := lwg_of (pt_5 _ (List.mem_of_getElem? (i := 84) rfl)) rfl
theorem k_1045 : (Cond.methodLink "LevelTablesLaw" (7 : Nat) ({ cls := "LevelTables", name := "feed", desc := "(IIIII)I" } : MethodName)) ∈ lwg := lwg_of (pt_5 _ (List.mem_of_getElem? (i := 85) rfl)) rfl
theorem k_1046 : (Cond.instanceMethod ({ cls := "LevelTables", name := "feed", desc := "(IIIII)I" } : MethodName)) ∈ lwg := lwg_of (pt_5 _ (List.mem_of_getElem? (i := 86) rfl)) rfl
theorem k_1047 : (Cond.selects "LevelTables" ({ cls := "LevelTables", name := "feed", desc := "(IIIII)I" } : MethodName) ({ cls := "LevelTables", name := "feed", desc := "(IIIII)I" } : MethodName)) ∈ lwg := lwg_of (pt_5 _ (List.mem_of_getElem? (i := 87) rfl)) rfl
theorem k_1048 : (Cond.code ({ cls := "LevelTables", name := "feed", desc := "(IIIII)I" } : MethodName) prog_1_method_2_code (6 : Nat) (Option.some FieldType.int)) ∈ lwg := lwg_of (pt_5 _ (List.mem_of_getElem? (i := 88) rfl)) rfl
theorem k_1049 : (Cond.methodLink "LevelTables" (90 : Nat) ({ cls := "LevelTables$Tape", name := "length", desc := "()I" } : MethodName)) ∈ lwg := lwg_of (pt_5 _ (List.mem_of_getElem? (i := 89) rfl)) rfl
theorem k_1050 : (Cond.instanceMethod ({ cls := "LevelTables$Tape", name := "length", desc := "()I" } : MethodName)) ∈ lwg := lwg_of (pt_5 _ (List.mem_of_getElem? (i := 90) rfl)) rfl
theorem k_1051 : (Cond.selects "LevelTables$Tape" ({ cls := "LevelTables$Tape", name := "length", desc := "()I" } : MethodName) ({ cls := "LevelTables$Tape", name := "length", desc := "()I" } : MethodName)) ∈ lwg := lwg_of (pt_5 _ (List.mem_of_getElem? (i := 91) rfl)) rfl
theorem k_1052 : (Cond.code ({ cls := "LevelTables$Tape", name := "length", desc := "()I" } : MethodName) prog_7_method_2_code (1 : Nat) (Option.some FieldType.int)) ∈ lwg := lwg_of (pt_5 _ (List.mem_of_getElem? (i := 92) rfl)) rfl
theorem k_1053 : (Cond.classLink "LevelTables" (94 : Nat) "java/lang/IndexOutOfBoundsException") ∈ lwg := lwg_of (pt_5 _ (List.mem_of_getElem? (i := 93) rfl)) rfl
theorem k_1054 : (Cond.methodLink "LevelTables" (96 : Nat) ({ cls := "java/lang/IndexOutOfBoundsException", name := "<init>", desc := "()V" } : MethodName)) ∈ lwg := lwg_of (pt_5 _ (List.mem_of_getElem? (i := 94) rfl)) rfl
theorem k_1064 : (Cond.methodLink "LevelTables" (97 : Nat) ({ cls := "LevelTables$Tape", name := "append", desc := "(I)V" } : MethodName)) ∈ lwg := lwg_of (pt_5 _ (List.mem_of_getElem? (i := 104) rfl)) rfl
theorem k_1065 : (Cond.instanceMethod ({ cls := "LevelTables$Tape", name := "append", desc := "(I)V" } : MethodName)) ∈ lwg := lwg_of (pt_5 _ (List.mem_of_getElem? (i := 105) rfl)) rfl
theorem k_1066 : (Cond.selects "LevelTables$Tape" ({ cls := "LevelTables$Tape", name := "append", desc := "(I)V" } : MethodName) ({ cls := "LevelTables$Tape", name := "append", desc := "(I)V" } : MethodName)) ∈ lwg := lwg_of (pt_5 _ (List.mem_of_getElem? (i := 106) rfl)) rfl
theorem k_1067 : (Cond.code ({ cls := "LevelTables$Tape", name := "append", desc := "(I)V" } : MethodName) prog_7_method_5_code (3 : Nat) (Option.none : Option Jvm.ClassFile.FieldType)) ∈ lwg := lwg_of (pt_5 _ (List.mem_of_getElem? (i := 107) rfl)) rfl
theorem k_1068 : (Cond.methodLink "LevelTablesLaw" (66 : Nat) ({ cls := "LevelTablesLaw", name := "end", desc := "(LLevelTables;I[J)I" } : MethodName)) ∈ lwg := lwg_of (pt_5 _ (List.mem_of_getElem? (i := 108) rfl)) rfl
theorem k_1069 : (Cond.static ({ cls := "LevelTablesLaw", name := "end", desc := "(LLevelTables;I[J)I" } : MethodName)) ∈ lwg := lwg_of (pt_5 _ (List.mem_of_getElem? (i := 109) rfl)) rfl
theorem k_1070 : (Cond.codeWith ({ cls := "LevelTablesLaw", name := "end", desc := "(LLevelTables;I[J)I" } : MethodName) method_4_code (4 : Nat) (Option.some FieldType.int) [((0 : Nat), (9 : Nat), (12 : Nat), (19 : Nat))]) ∈ lwg := lwg_of (pt_5 _ (List.mem_of_getElem? (i := 110) rfl)) rfl
theorem k_1071 : (Cond.classLink "LevelTablesLaw" (19 : Nat) "java/lang/IllegalArgumentException") ∈ lwg := lwg_of (pt_5 _ (List.mem_of_getElem? (i := 111) rfl)) rfl
theorem k_1072 : (Cond.methodLink "LevelTablesLaw" (15 : Nat) ({ cls := "LevelTables", name := "end", desc := "(I)I" } : MethodName)) ∈ lwg := lwg_of (pt_5 _ (List.mem_of_getElem? (i := 112) rfl)) rfl
theorem k_1073 : (Cond.instanceMethod ({ cls := "LevelTables", name := "end", desc := "(I)I" } : MethodName)) ∈ lwg := lwg_of (pt_5 _ (List.mem_of_getElem? (i := 113) rfl)) rfl
theorem k_1074 : (Cond.selects "LevelTables" ({ cls := "LevelTables", name := "end", desc := "(I)I" } : MethodName) ({ cls := "LevelTables", name := "end", desc := "(I)I" } : MethodName)) ∈ lwg := lwg_of (pt_5 _ (List.mem_of_getElem? (i := 114) rfl)) rfl
theorem k_1075 : (Cond.code ({ cls := "LevelTables", name := "end", desc := "(I)I" } : MethodName) prog_1_method_3_code (2 : Nat) (Option.some FieldType.int)) ∈ lwg := lwg_of (pt_5 _ (List.mem_of_getElem? (i := 115) rfl)) rfl
theorem k_1076 : (Cond.classLink "LevelTables" (101 : Nat) "java/lang/IllegalArgumentException") ∈ lwg := lwg_of (pt_5 _ (List.mem_of_getElem? (i := 116) rfl)) rfl
theorem k_1077 : (Cond.methodLink "LevelTables" (103 : Nat) ({ cls := "java/lang/IllegalArgumentException", name := "<init>", desc := "()V" } : MethodName)) ∈ lwg := lwg_of (pt_5 _ (List.mem_of_getElem? (i := 117) rfl)) rfl
theorem k_1081 : (Cond.methodLink "LevelTables" (104 : Nat) ({ cls := "LevelTables$Tape", name := "cut", desc := "(I)V" } : MethodName)) ∈ lwg := lwg_of (pt_5 _ (List.mem_of_getElem? (i := 121) rfl)) rfl
theorem k_1082 : (Cond.instanceMethod ({ cls := "LevelTables$Tape", name := "cut", desc := "(I)V" } : MethodName)) ∈ lwg := lwg_of (pt_5 _ (List.mem_of_getElem? (i := 122) rfl)) rfl
theorem k_1083 : (Cond.selects "LevelTables$Tape" ({ cls := "LevelTables$Tape", name := "cut", desc := "(I)V" } : MethodName) ({ cls := "LevelTables$Tape", name := "cut", desc := "(I)V" } : MethodName)) ∈ lwg := lwg_of (pt_5 _ (List.mem_of_getElem? (i := 123) rfl)) rfl
theorem k_1084 : (Cond.code ({ cls := "LevelTables$Tape", name := "cut", desc := "(I)V" } : MethodName) prog_7_method_4_code (2 : Nat) (Option.none : Option Jvm.ClassFile.FieldType)) ∈ lwg := lwg_of (pt_5 _ (List.mem_of_getElem? (i := 124) rfl)) rfl
theorem k_1085 : (Cond.methodLink "LevelTablesLaw" (70 : Nat) ({ cls := "LevelTablesLaw", name := "put", desc := "(LLevelTables;II[J)I" } : MethodName)) ∈ lwg := lwg_of (pt_5 _ (List.mem_of_getElem? (i := 125) rfl)) rfl
theorem k_1086 : (Cond.static ({ cls := "LevelTablesLaw", name := "put", desc := "(LLevelTables;II[J)I" } : MethodName)) ∈ lwg := lwg_of (pt_5 _ (List.mem_of_getElem? (i := 126) rfl)) rfl
theorem k_1087 : (Cond.codeWith ({ cls := "LevelTablesLaw", name := "put", desc := "(LLevelTables;II[J)I" } : MethodName) method_5_code (5 : Nat) (Option.some FieldType.int) [((0 : Nat), (10 : Nat), (13 : Nat), (19 : Nat)), ((0 : Nat), (10 : Nat), (17 : Nat), (25 : Nat))]) ∈ lwg := lwg_of (pt_5 _ (List.mem_of_getElem? (i := 127) rfl)) rfl
theorem k_1088 : (Cond.classLink "LevelTablesLaw" (25 : Nat) "java/lang/IllegalStateException") ∈ lwg := lwg_of (pt_5 _ (List.mem_of_getElem? (i := 128) rfl)) rfl
theorem k_1089 : (Cond.methodLink "LevelTablesLaw" (21 : Nat) ({ cls := "LevelTables", name := "put", desc := "(II)I" } : MethodName)) ∈ lwg := lwg_of (pt_5 _ (List.mem_of_getElem? (i := 129) rfl)) rfl
theorem k_1090 : (Cond.instanceMethod ({ cls := "LevelTables", name := "put", desc := "(II)I" } : MethodName)) ∈ lwg := lwg_of (pt_5 _ (List.mem_of_getElem? (i := 130) rfl)) rfl
theorem k_1091 : (Cond.selects "LevelTables" ({ cls := "LevelTables", name := "put", desc := "(II)I" } : MethodName) ({ cls := "LevelTables", name := "put", desc := "(II)I" } : MethodName)) ∈ lwg := lwg_of (pt_5 _ (List.mem_of_getElem? (i := 131) rfl)) rfl
theorem k_1092 : (Cond.code ({ cls := "LevelTables", name := "put", desc := "(II)I" } : MethodName) prog_1_method_4_code (3 : Nat) (Option.some FieldType.int)) ∈ lwg := lwg_of (pt_5 _ (List.mem_of_getElem? (i := 132) rfl)) rfl
theorem k_1093 : (Cond.methodLink "LevelTables" (107 : Nat) ({ cls := "LevelTables$Tape", name := "hasKey", desc := "()Z" } : MethodName)) ∈ lwg := lwg_of (pt_5 _ (List.mem_of_getElem? (i := 133) rfl)) rfl
theorem k_1094 : (Cond.instanceMethod ({ cls := "LevelTables$Tape", name := "hasKey", desc := "()Z" } : MethodName)) ∈ lwg := lwg_of (pt_5 _ (List.mem_of_getElem? (i := 134) rfl)) rfl
theorem k_1095 : (Cond.selects "LevelTables$Tape" ({ cls := "LevelTables$Tape", name := "hasKey", desc := "()Z" } : MethodName) ({ cls := "LevelTables$Tape", name := "hasKey", desc := "()Z" } : MethodName)) ∈ lwg := lwg_of (pt_5 _ (List.mem_of_getElem? (i := 135) rfl)) rfl
theorem k_1096 : (Cond.code ({ cls := "LevelTables$Tape", name := "hasKey", desc := "()Z" } : MethodName) prog_7_method_3_code (1 : Nat) (Option.some FieldType.boolean)) ∈ lwg := lwg_of (pt_5 _ (List.mem_of_getElem? (i := 136) rfl)) rfl
theorem k_1097 : (Cond.methodLink "LevelTables" (111 : Nat) ({ cls := "LevelTables", name := "addVersion", desc := "(ZII)I" } : MethodName)) ∈ lwg := lwg_of (pt_5 _ (List.mem_of_getElem? (i := 137) rfl)) rfl
theorem k_1099 : (Cond.instanceMethod ({ cls := "LevelTables", name := "addVersion", desc := "(ZII)I" } : MethodName)) ∈ lwg := lwg_of (pt_5 _ (List.mem_of_getElem? (i := 139) rfl)) rfl
theorem k_1100 : (Cond.code ({ cls := "LevelTables", name := "addVersion", desc := "(ZII)I" } : MethodName) prog_1_method_16_code (5 : Nat) (Option.some FieldType.int)) ∈ lwg := lwg_of (pt_5 _ (List.mem_of_getElem? (i := 140) rfl)) rfl
theorem k_1101 : (Cond.methodLink "LevelTables" (199 : Nat) ({ cls := "LevelTables$Tape", name := "moveTo", desc := "(LLevelTables$Version;)V" } : MethodName)) ∈ lwg := lwg_of (pt_5 _ (List.mem_of_getElem? (i := 141) rfl)) rfl
theorem k_1102 : (Cond.instanceMethod ({ cls := "LevelTables$Tape", name := "moveTo", desc := "(LLevelTables$Version;)V" } : MethodName)) ∈ lwg := lwg_of (pt_5 _ (List.mem_of_getElem? (i := 142) rfl)) rfl
theorem k_1103 : (Cond.selects "LevelTables$Tape" ({ cls := "LevelTables$Tape", name := "moveTo", desc := "(LLevelTables$Version;)V" } : MethodName) ({ cls := "LevelTables$Tape", name := "moveTo", desc := "(LLevelTables$Version;)V" } : MethodName)) ∈ lwg := lwg_of (pt_5 _ (List.mem_of_getElem? (i := 143) rfl)) rfl
theorem k_1104 : (Cond.code ({ cls := "LevelTables$Tape", name := "moveTo", desc := "(LLevelTables$Version;)V" } : MethodName) prog_7_method_6_code (2 : Nat) (Option.none : Option Jvm.ClassFile.FieldType)) ∈ lwg := lwg_of (pt_5 _ (List.mem_of_getElem? (i := 144) rfl)) rfl
theorem k_1105 : (Cond.methodLink "LevelTables$Tape" (19 : Nat) ({ cls := "LevelTables$Version", name := "setKey", desc := "([BI)V" } : MethodName)) ∈ lwg := lwg_of (pt_5 _ (List.mem_of_getElem? (i := 145) rfl)) rfl
theorem k_1106 : (Cond.instanceMethod ({ cls := "LevelTables$Version", name := "setKey", desc := "([BI)V" } : MethodName)) ∈ lwg := lwg_of (pt_5 _ (List.mem_of_getElem? (i := 146) rfl)) rfl
theorem k_1107 : (Cond.selects "LevelTables$Version" ({ cls := "LevelTables$Version", name := "setKey", desc := "([BI)V" } : MethodName) ({ cls := "LevelTables$Version", name := "setKey", desc := "([BI)V" } : MethodName)) ∈ lwg := lwg_of (pt_5 _ (List.mem_of_getElem? (i := 147) rfl)) rfl
theorem k_1108 : (Cond.code ({ cls := "LevelTables$Version", name := "setKey", desc := "([BI)V" } : MethodName) prog_8_method_9_code (4 : Nat) (Option.none : Option Jvm.ClassFile.FieldType)) ∈ lwg := lwg_of (pt_5 _ (List.mem_of_getElem? (i := 148) rfl)) rfl
theorem k_1109 : (Cond.methodLink "LevelTables$Version" (22 : Nat) ({ cls := "java/util/Arrays", name := "fill", desc := "([JJ)V" } : MethodName)) ∈ lwg := lwg_of (pt_5 _ (List.mem_of_getElem? (i := 149) rfl)) rfl
theorem k_1110 : (Cond.constantLong "LevelTables$Version" (28 : Nat) (255 : Int64)) ∈ lwg := lwg_of (pt_5 _ (List.mem_of_getElem? (i := 150) rfl)) rfl
theorem k_1111 : (Cond.classLink "LevelTables" (119 : Nat) "java/lang/IllegalStateException") ∈ lwg := lwg_of (pt_5 _ (List.mem_of_getElem? (i := 151) rfl)) rfl
theorem k_1112 : (Cond.instantiable "java/lang/IllegalStateException" (6 : Nat)) ∈ lwg := lwg_of (pt_5 _ (List.mem_of_getElem? (i := 152) rfl)) rfl
theorem k_1120 : (Cond.methodLink "LevelTables" (121 : Nat) ({ cls := "java/lang/IllegalStateException", name := "<init>", desc := "()V" } : MethodName)) ∈ lwg := lwg_of (pt_5 _ (List.mem_of_getElem? (i := 160) rfl)) rfl
theorem k_1126 : (Cond.methodLink "LevelTables" (203 : Nat) ({ cls := "LevelTables$Views", name := "step", desc := "()V" } : MethodName)) ∈ lwg := lwg_of (pt_5 _ (List.mem_of_getElem? (i := 166) rfl)) rfl
theorem k_1127 : (Cond.instanceMethod ({ cls := "LevelTables$Views", name := "step", desc := "()V" } : MethodName)) ∈ lwg := lwg_of (pt_5 _ (List.mem_of_getElem? (i := 167) rfl)) rfl
theorem k_1128 : (Cond.selects "LevelTables$Views" ({ cls := "LevelTables$Views", name := "step", desc := "()V" } : MethodName) ({ cls := "LevelTables$Views", name := "step", desc := "()V" } : MethodName)) ∈ lwg := lwg_of (pt_5 _ (List.mem_of_getElem? (i := 168) rfl)) rfl
theorem k_1129 : (Cond.code ({ cls := "LevelTables$Views", name := "step", desc := "()V" } : MethodName) prog_9_method_3_code (1 : Nat) (Option.none : Option Jvm.ClassFile.FieldType)) ∈ lwg := lwg_of (pt_5 _ (List.mem_of_getElem? (i := 169) rfl)) rfl
theorem k_1130 : (Cond.methodLink "LevelTables" (206 : Nat) ({ cls := "LevelTables$Version", name := "describe", desc := "(IZII)V" } : MethodName)) ∈ lwg := lwg_of (pt_5 _ (List.mem_of_getElem? (i := 170) rfl)) rfl
theorem k_1131 : (Cond.methodLink "LevelTables" (210 : Nat) ({ cls := "LevelTables$Memory", name := "insert", desc := "(LLevelTables$Version;)V" } : MethodName)) ∈ lwg := lwg_of (pt_5 _ (List.mem_of_getElem? (i := 171) rfl)) rfl
theorem k_1132 : (Cond.instanceMethod ({ cls := "LevelTables$Memory", name := "insert", desc := "(LLevelTables$Version;)V" } : MethodName)) ∈ lwg := lwg_of (pt_5 _ (List.mem_of_getElem? (i := 172) rfl)) rfl
theorem k_1133 : (Cond.selects "LevelTables$Memory" ({ cls := "LevelTables$Memory", name := "insert", desc := "(LLevelTables$Version;)V" } : MethodName) ({ cls := "LevelTables$Memory", name := "insert", desc := "(LLevelTables$Version;)V" } : MethodName)) ∈ lwg := lwg_of (pt_5 _ (List.mem_of_getElem? (i := 173) rfl)) rfl
theorem k_1134 : (Cond.code ({ cls := "LevelTables$Memory", name := "insert", desc := "(LLevelTables$Version;)V" } : MethodName) prog_4_method_4_code (3 : Nat) (Option.none : Option Jvm.ClassFile.FieldType)) ∈ lwg := lwg_of (pt_5 _ (List.mem_of_getElem? (i := 174) rfl)) rfl
theorem k_1135 : (Cond.methodLink "LevelTables$Memory" (31 : Nat) ({ cls := "LevelTables$Memory", name := "firstNotBefore", desc := "(LLevelTables$Version;)I" } : MethodName)) ∈ lwg := lwg_of (pt_5 _ (List.mem_of_getElem? (i := 175) rfl)) rfl
theorem k_1136 : (Cond.sameMethod "LevelTables$Memory" "LevelTables$Run" "firstNotBefore" "(LLevelTables$Version;)I") ∈ lwg := lwg_of (pt_5 _ (List.mem_of_getElem? (i := 176) rfl)) rfl
theorem k_1137 : (Cond.selects "LevelTables$Memory" ({ cls := "LevelTables$Memory", name := "firstNotBefore", desc := "(LLevelTables$Version;)I" } : MethodName) ({ cls := "LevelTables$Run", name := "firstNotBefore", desc := "(LLevelTables$Version;)I" } : MethodName)) ∈ lwg := lwg_of (pt_5 _ (List.mem_of_getElem? (i := 177) rfl)) rfl
theorem k_1138 : (Cond.methodLink "LevelTablesLaw" (74 : Nat) ({ cls := "LevelTablesLaw", name := "out", desc := "(LLevelTables;[J)I" } : MethodName)) ∈ lwg := lwg_of (pt_5 _ (List.mem_of_getElem? (i := 178) rfl)) rfl
theorem k_1139 : (Cond.static ({ cls := "LevelTablesLaw", name := "out", desc := "(LLevelTables;[J)I" } : MethodName)) ∈ lwg := lwg_of (pt_5 _ (List.mem_of_getElem? (i := 179) rfl)) rfl
theorem k_1140 : (Cond.codeWith ({ cls := "LevelTablesLaw", name := "out", desc := "(LLevelTables;[J)I" } : MethodName) method_6_code (3 : Nat) (Option.some FieldType.int) [((0 : Nat), (8 : Nat), (11 : Nat), (19 : Nat)), ((0 : Nat), (8 : Nat), (14 : Nat), (25 : Nat))]) ∈ lwg := lwg_of (pt_5 _ (List.mem_of_getElem? (i := 180) rfl)) rfl
theorem k_1141 : (Cond.methodLink "LevelTablesLaw" (27 : Nat) ({ cls := "LevelTables", name := "out", desc := "()I" } : MethodName)) ∈ lwg := lwg_of (pt_5 _ (List.mem_of_getElem? (i := 181) rfl)) rfl
theorem k_1142 : (Cond.instanceMethod ({ cls := "LevelTables", name := "out", desc := "()I" } : MethodName)) ∈ lwg := lwg_of (pt_5 _ (List.mem_of_getElem? (i := 182) rfl)) rfl
theorem k_1143 : (Cond.selects "LevelTables" ({ cls := "LevelTables", name := "out", desc := "()I" } : MethodName) ({ cls := "LevelTables", name := "out", desc := "()I" } : MethodName)) ∈ lwg := lwg_of (pt_5 _ (List.mem_of_getElem? (i := 183) rfl)) rfl
theorem k_1144 : (Cond.code ({ cls := "LevelTables", name := "out", desc := "()I" } : MethodName) prog_1_method_5_code (1 : Nat) (Option.some FieldType.int)) ∈ lwg := lwg_of (pt_5 _ (List.mem_of_getElem? (i := 184) rfl)) rfl
theorem k_1145 : (Cond.methodLink "LevelTablesLaw" (78 : Nat) ({ cls := "LevelTablesLaw", name := "open", desc := "(LLevelTables;I[J)I" } : MethodName)) ∈ lwg := lwg_of (pt_5 _ (List.mem_of_getElem? (i := 185) rfl)) rfl
theorem k_1146 : (Cond.static ({ cls := "LevelTablesLaw", name := "open", desc := "(LLevelTables;I[J)I" } : MethodName)) ∈ lwg := lwg_of (pt_5 _ (List.mem_of_getElem? (i := 186) rfl)) rfl
theorem k_1147 : (Cond.codeWith ({ cls := "LevelTablesLaw", name := "open", desc := "(LLevelTables;I[J)I" } : MethodName) method_7_code (4 : Nat) (Option.some FieldType.int) [((0 : Nat), (9 : Nat), (12 : Nat), (19 : Nat)), ((0 : Nat), (9 : Nat), (15 : Nat), (25 : Nat))]) ∈ lwg := lwg_of (pt_5 _ (List.mem_of_getElem? (i := 187) rfl)) rfl
theorem k_1148 : (Cond.methodLink "LevelTablesLaw" (31 : Nat) ({ cls := "LevelTables", name := "open", desc := "(I)I" } : MethodName)) ∈ lwg := lwg_of (pt_5 _ (List.mem_of_getElem? (i := 188) rfl)) rfl
theorem k_1149 : (Cond.instanceMethod ({ cls := "LevelTables", name := "open", desc := "(I)I" } : MethodName)) ∈ lwg := lwg_of (pt_5 _ (List.mem_of_getElem? (i := 189) rfl)) rfl
theorem k_1150 : (Cond.selects "LevelTables" ({ cls := "LevelTables", name := "open", desc := "(I)I" } : MethodName) ({ cls := "LevelTables", name := "open", desc := "(I)I" } : MethodName)) ∈ lwg := lwg_of (pt_5 _ (List.mem_of_getElem? (i := 190) rfl)) rfl
theorem k_1151 : (Cond.code ({ cls := "LevelTables", name := "open", desc := "(I)I" } : MethodName) prog_1_method_6_code (2 : Nat) (Option.some FieldType.int)) ∈ lwg := lwg_of (pt_5 _ (List.mem_of_getElem? (i := 191) rfl)) rfl
theorem k_1152 : (Cond.methodLink "LevelTables" (115 : Nat) ({ cls := "LevelTables$Views", name := "momentOf", desc := "(I)I" } : MethodName)) ∈ lwg := lwg_of (pt_5 _ (List.mem_of_getElem? (i := 192) rfl)) rfl
theorem k_1153 : (Cond.instanceMethod ({ cls := "LevelTables$Views", name := "momentOf", desc := "(I)I" } : MethodName)) ∈ lwg := lwg_of (pt_5 _ (List.mem_of_getElem? (i := 193) rfl)) rfl
theorem k_1154 : (Cond.selects "LevelTables$Views" ({ cls := "LevelTables$Views", name := "momentOf", desc := "(I)I" } : MethodName) ({ cls := "LevelTables$Views", name := "momentOf", desc := "(I)I" } : MethodName)) ∈ lwg := lwg_of (pt_5 _ (List.mem_of_getElem? (i := 194) rfl)) rfl
theorem k_1155 : (Cond.code ({ cls := "LevelTables$Views", name := "momentOf", desc := "(I)I" } : MethodName) prog_9_method_4_code (2 : Nat) (Option.some FieldType.int)) ∈ lwg := lwg_of (pt_5 _ (List.mem_of_getElem? (i := 195) rfl)) rfl
theorem k_1156 : (Cond.methodLink "LevelTables" (122 : Nat) ({ cls := "LevelTables$Views", name := "begin", desc := "(I)V" } : MethodName)) ∈ lwg := lwg_of (pt_5 _ (List.mem_of_getElem? (i := 196) rfl)) rfl
theorem k_1157 : (Cond.instanceMethod ({ cls := "LevelTables$Views", name := "begin", desc := "(I)V" } : MethodName)) ∈ lwg := lwg_of (pt_5 _ (List.mem_of_getElem? (i := 197) rfl)) rfl
theorem k_1158 : (Cond.selects "LevelTables$Views" ({ cls := "LevelTables$Views", name := "begin", desc := "(I)V" } : MethodName) ({ cls := "LevelTables$Views", name := "begin", desc := "(I)V" } : MethodName)) ∈ lwg := lwg_of (pt_5 _ (List.mem_of_getElem? (i := 198) rfl)) rfl
theorem k_1159 : (Cond.code ({ cls := "LevelTables$Views", name := "begin", desc := "(I)V" } : MethodName) prog_9_method_5_code (2 : Nat) (Option.none : Option Jvm.ClassFile.FieldType)) ∈ lwg := lwg_of (pt_5 _ (List.mem_of_getElem? (i := 199) rfl)) rfl
theorem k_1160 : (Cond.methodLink "LevelTablesLaw" (81 : Nat) ({ cls := "LevelTablesLaw", name := "close", desc := "(LLevelTables;I[J)I" } : MethodName)) ∈ lwg := lwg_of (pt_5 _ (List.mem_of_getElem? (i := 200) rfl)) rfl
theorem k_1161 : (Cond.static ({ cls := "LevelTablesLaw", name := "close", desc := "(LLevelTables;I[J)I" } : MethodName)) ∈ lwg := lwg_of (pt_5 _ (List.mem_of_getElem? (i := 201) rfl)) rfl
theorem k_1162 : (Cond.codeWith ({ cls := "LevelTablesLaw", name := "close", desc := "(LLevelTables;I[J)I" } : MethodName) method_8_code (4 : Nat) (Option.some FieldType.int) [((0 : Nat), (9 : Nat), (12 : Nat), (19 : Nat)), ((0 : Nat), (9 : Nat), (15 : Nat), (25 : Nat))]) ∈ lwg := lwg_of (pt_5 _ (List.mem_of_getElem? (i := 202) rfl)) rfl
theorem k_1163 : (Cond.methodLink "LevelTablesLaw" (34 : Nat) ({ cls := "LevelTables", name := "close", desc := "(I)I" } : MethodName)) ∈ lwg := lwg_of (pt_5 _ (List.mem_of_getElem? (i := 203) rfl)) rfl
theorem k_1164 : (Cond.instanceMethod ({ cls := "LevelTables", name := "close", desc := "(I)I" } : MethodName)) ∈ lwg := lwg_of (pt_5 _ (List.mem_of_getElem? (i := 204) rfl)) rfl
theorem k_1165 : (Cond.selects "LevelTables" ({ cls := "LevelTables", name := "close", desc := "(I)I" } : MethodName) ({ cls := "LevelTables", name := "close", desc := "(I)I" } : MethodName)) ∈ lwg := lwg_of (pt_5 _ (List.mem_of_getElem? (i := 205) rfl)) rfl
theorem k_1166 : (Cond.code ({ cls := "LevelTables", name := "close", desc := "(I)I" } : MethodName) prog_1_method_7_code (3 : Nat) (Option.some FieldType.int)) ∈ lwg := lwg_of (pt_5 _ (List.mem_of_getElem? (i := 206) rfl)) rfl
theorem k_1167 : (Cond.methodLink "LevelTables" (128 : Nat) ({ cls := "LevelTables$Views", name := "finish", desc := "(I)V" } : MethodName)) ∈ lwg := lwg_of (pt_5 _ (List.mem_of_getElem? (i := 207) rfl)) rfl
theorem k_1168 : (Cond.instanceMethod ({ cls := "LevelTables$Views", name := "finish", desc := "(I)V" } : MethodName)) ∈ lwg := lwg_of (pt_5 _ (List.mem_of_getElem? (i := 208) rfl)) rfl
theorem k_1169 : (Cond.selects "LevelTables$Views" ({ cls := "LevelTables$Views", name := "finish", desc := "(I)V" } : MethodName) ({ cls := "LevelTables$Views", name := "finish", desc := "(I)V" } : MethodName)) ∈ lwg := lwg_of (pt_5 _ (List.mem_of_getElem? (i := 209) rfl)) rfl
theorem k_1170 : (Cond.code ({ cls := "LevelTables$Views", name := "finish", desc := "(I)V" } : MethodName) prog_9_method_6_code (2 : Nat) (Option.none : Option Jvm.ClassFile.FieldType)) ∈ lwg := lwg_of (pt_5 _ (List.mem_of_getElem? (i := 210) rfl)) rfl
theorem k_1171 : (Cond.methodLink "LevelTablesLaw" (84 : Nat) ({ cls := "LevelTablesLaw", name := "find", desc := "(LLevelTables;I[J)I" } : MethodName)) ∈ lwg := lwg_of (pt_5 _ (List.mem_of_getElem? (i := 211) rfl)) rfl
theorem k_1172 : (Cond.static ({ cls := "LevelTablesLaw", name := "find", desc := "(LLevelTables;I[J)I" } : MethodName)) ∈ lwg := lwg_of (pt_5 _ (List.mem_of_getElem? (i := 212) rfl)) rfl
theorem k_1173 : (Cond.codeWith ({ cls := "LevelTablesLaw", name := "find", desc := "(LLevelTables;I[J)I" } : MethodName) method_9_code (4 : Nat) (Option.some FieldType.int) [((0 : Nat), (9 : Nat), (12 : Nat), (19 : Nat)), ((0 : Nat), (9 : Nat), (15 : Nat), (25 : Nat)), ((0 : Nat), (9 : Nat), (18 : Nat), (40 : Nat))]) ∈ lwg := lwg_of (pt_5 _ (List.mem_of_getElem? (i := 213) rfl)) rfl
theorem k_1174 : (Cond.classLink "LevelTablesLaw" (40 : Nat) "java/util/NoSuchElementException") ∈ lwg := lwg_of (pt_5 _ (List.mem_of_getElem? (i := 214) rfl)) rfl
theorem k_1175 : (Cond.methodLink "LevelTablesLaw" (37 : Nat) ({ cls := "LevelTables", name := "find", desc := "(I)I" } : MethodName)) ∈ lwg := lwg_of (pt_5 _ (List.mem_of_getElem? (i := 215) rfl)) rfl
theorem k_1176 : (Cond.instanceMethod ({ cls := "LevelTables", name := "find", desc := "(I)I" } : MethodName)) ∈ lwg := lwg_of (pt_5 _ (List.mem_of_getElem? (i := 216) rfl)) rfl
theorem k_1177 : (Cond.selects "LevelTables" ({ cls := "LevelTables", name := "find", desc := "(I)I" } : MethodName) ({ cls := "LevelTables", name := "find", desc := "(I)I" } : MethodName)) ∈ lwg := lwg_of (pt_5 _ (List.mem_of_getElem? (i := 217) rfl)) rfl
theorem k_1178 : (Cond.code ({ cls := "LevelTables", name := "find", desc := "(I)I" } : MethodName) prog_1_method_8_code (3 : Nat) (Option.some FieldType.int)) ∈ lwg := lwg_of (pt_5 _ (List.mem_of_getElem? (i := 218) rfl)) rfl
theorem k_1179 : (Cond.methodLink "LevelTables" (131 : Nat) ({ cls := "LevelTables", name := "readTapeFor", desc := "(I)I" } : MethodName)) ∈ lwg := lwg_of (pt_5 _ (List.mem_of_getElem? (i := 219) rfl)) rfl
theorem k_1181 : (Cond.instanceMethod ({ cls := "LevelTables", name := "readTapeFor", desc := "(I)I" } : MethodName)) ∈ lwg := lwg_of (pt_5 _ (List.mem_of_getElem? (i := 221) rfl)) rfl
theorem k_1182 : (Cond.code ({ cls := "LevelTables", name := "readTapeFor", desc := "(I)I" } : MethodName) prog_1_method_15_code (3 : Nat) (Option.some FieldType.int)) ∈ lwg := lwg_of (pt_5 _ (List.mem_of_getElem? (i := 222) rfl)) rfl
theorem k_1183 : (Cond.methodLink "LevelTables" (138 : Nat) ({ cls := "LevelTables", name := "show", desc := "(Z)I" } : MethodName)) ∈ lwg := lwg_of (pt_5 _ (List.mem_of_getElem? (i := 223) rfl)) rfl
theorem k_1185 : (Cond.instanceMethod ({ cls := "LevelTables", name := "show", desc := "(Z)I" } : MethodName)) ∈ lwg := lwg_of (pt_5 _ (List.mem_of_getElem? (i := 225) rfl)) rfl
theorem k_1186 : (Cond.code ({ cls := "LevelTables", name := "show", desc := "(Z)I" } : MethodName) prog_1_method_19_code (2 : Nat) (Option.some FieldType.int)) ∈ lwg := lwg_of (pt_5 _ (List.mem_of_getElem? (i := 226) rfl)) rfl
theorem k_1187 : (Cond.classLink "LevelTables" (153 : Nat) "java/util/NoSuchElementException") ∈ lwg := lwg_of (pt_5 _ (List.mem_of_getElem? (i := 227) rfl)) rfl
theorem k_1188 : (Cond.instantiable "java/util/NoSuchElementException" (6 : Nat)) ∈ lwg := lwg_of (pt_5 _ (List.mem_of_getElem? (i := 228) rfl)) rfl
theorem k_1196 : (Cond.methodLink "LevelTables" (155 : Nat) ({ cls := "java/util/NoSuchElementException", name := "<init>", desc := "()V" } : MethodName)) ∈ lwg := lwg_of (pt_5 _ (List.mem_of_getElem? (i := 236) rfl)) rfl
theorem k_1202 : (Cond.methodLink "LevelTables" (156 : Nat) ({ cls := "LevelTables$Version", name := "place", desc := "()I" } : MethodName)) ∈ lwg := lwg_of (pt_6 _ (List.mem_of_getElem? (i := 2) rfl)) rfl
theorem k_1203 : (Cond.instanceMethod ({ cls := "LevelTables$Version", name := "place", desc := "()I" } : MethodName)) ∈ lwg := lwg_of (pt_6 _ (List.mem_of_getElem? (i := 3) rfl)) rfl
theorem k_1204 : (Cond.selects "LevelTables$Version" ({ cls := "LevelTables$Version", name := "place", desc := "()I" } : MethodName) ({ cls := "LevelTables$Version", name := "place", desc := "()I" } : MethodName)) ∈ lwg := lwg_of (pt_6 _ (List.mem_of_getElem? (i := 4) rfl)) rfl
theorem k_1205 : (Cond.code ({ cls := "LevelTables$Version", name := "place", desc := "()I" } : MethodName) prog_8_method_7_code (1 : Nat) (Option.some FieldType.int)) ∈ lwg := lwg_of (pt_6 _ (List.mem_of_getElem? (i := 5) rfl)) rfl
theorem k_1206 : (Cond.constant "LevelTables$Version" (15 : Nat) (2147483647 : Int32)) ∈ lwg := lwg_of (pt_6 _ (List.mem_of_getElem? (i := 6) rfl)) rfl
theorem k_1207 : (Cond.methodLink "LevelTablesLaw" (87 : Nat) ({ cls := "LevelTablesLaw", name := "seek", desc := "(LLevelTables;IZ[J)I" } : MethodName)) ∈ lwg := lwg_of (pt_6 _ (List.mem_of_getElem? (i := 7) rfl)) rfl
theorem k_1208 : (Cond.static ({ cls := "LevelTablesLaw", name := "seek", desc := "(LLevelTables;IZ[J)I" } : MethodName)) ∈ lwg := lwg_of (pt_6 _ (List.mem_of_getElem? (i := 8) rfl)) rfl
theorem k_1209 : (Cond.codeWith ({ cls := "LevelTablesLaw", name := "seek", desc := "(LLevelTables;IZ[J)I" } : MethodName) method_10_code (5 : Nat) (Option.some FieldType.int) [((0 : Nat), (10 : Nat), (13 : Nat), (19 : Nat)), ((0 : Nat), (10 : Nat), (17 : Nat), (25 : Nat)), ((0 : Nat), (10 : Nat), (21 : Nat), (40 : Nat))]) ∈ lwg := lwg_of (pt_6 _ (List.mem_of_getElem? (i := 9) rfl)) rfl
theorem k_1210 : (Cond.methodLink "LevelTablesLaw" (42 : Nat) ({ cls := "LevelTables", name := "seek", desc := "(IZ)I" } : MethodName)) ∈ lwg := lwg_of (pt_6 _ (List.mem_of_getElem? (i := 10) rfl)) rfl
theorem k_1211 : (Cond.instanceMethod ({ cls := "LevelTables", name := "seek", desc := "(IZ)I" } : MethodName)) ∈ lwg := lwg_of (pt_6 _ (List.mem_of_getElem? (i := 11) rfl)) rfl
theorem k_1212 : (Cond.selects "LevelTables" ({ cls := "LevelTables", name := "seek", desc := "(IZ)I" } : MethodName) ({ cls := "LevelTables", name := "seek", desc := "(IZ)I" } : MethodName)) ∈ lwg := lwg_of (pt_6 _ (List.mem_of_getElem? (i := 12) rfl)) rfl
theorem k_1213 : (Cond.code ({ cls := "LevelTables", name := "seek", desc := "(IZ)I" } : MethodName) prog_1_method_9_code (4 : Nat) (Option.some FieldType.int)) ∈ lwg := lwg_of (pt_6 _ (List.mem_of_getElem? (i := 13) rfl)) rfl
theorem k_1214 : (Cond.methodLink "LevelTables" (145 : Nat) ({ cls := "LevelTables", name := "reachSomething", desc := "(I)Z" } : MethodName)) ∈ lwg := lwg_of (pt_6 _ (List.mem_of_getElem? (i := 14) rfl)) rfl
theorem k_1216 : (Cond.instanceMethod ({ cls := "LevelTables", name := "reachSomething", desc := "(I)Z" } : MethodName)) ∈ lwg := lwg_of (pt_6 _ (List.mem_of_getElem? (i := 16) rfl)) rfl
theorem k_1217 : (Cond.code ({ cls := "LevelTables", name := "reachSomething", desc := "(I)Z" } : MethodName) prog_1_method_18_code (3 : Nat) (Option.some FieldType.boolean)) ∈ lwg := lwg_of (pt_6 _ (List.mem_of_getElem? (i := 17) rfl)) rfl
theorem k_1218 : (Cond.methodLink "LevelTablesLaw" (91 : Nat) ({ cls := "LevelTablesLaw", name := "current", desc := "(LLevelTables;I[J)I" } : MethodName)) ∈ lwg := lwg_of (pt_6 _ (List.mem_of_getElem? (i := 18) rfl)) rfl
theorem k_1219 : (Cond.static ({ cls := "LevelTablesLaw", name := "current", desc := "(LLevelTables;I[J)I" } : MethodName)) ∈ lwg := lwg_of (pt_6 _ (List.mem_of_getElem? (i := 19) rfl)) rfl
theorem k_1220 : (Cond.codeWith ({ cls := "LevelTablesLaw", name := "current", desc := "(LLevelTables;I[J)I" } : MethodName) method_11_code (4 : Nat) (Option.some FieldType.int) [((0 : Nat), (9 : Nat), (12 : Nat), (19 : Nat)), ((0 : Nat), (9 : Nat), (15 : Nat), (40 : Nat))]) ∈ lwg := lwg_of (pt_6 _ (List.mem_of_getElem? (i := 20) rfl)) rfl
theorem k_1221 : (Cond.methodLink "LevelTablesLaw" (46 : Nat) ({ cls := "LevelTables", name := "current", desc := "(I)I" } : MethodName)) ∈ lwg := lwg_of (pt_6 _ (List.mem_of_getElem? (i := 21) rfl)) rfl
theorem k_1222 : (Cond.instanceMethod ({ cls := "LevelTables", name := "current", desc := "(I)I" } : MethodName)) ∈ lwg := lwg_of (pt_6 _ (List.mem_of_getElem? (i := 22) rfl)) rfl
theorem k_1223 : (Cond.selects "LevelTables" ({ cls := "LevelTables", name := "current", desc := "(I)I" } : MethodName) ({ cls := "LevelTables", name := "current", desc := "(I)I" } : MethodName)) ∈ lwg := lwg_of (pt_6 _ (List.mem_of_getElem? (i := 23) rfl)) rfl
theorem k_1224 : (Cond.code ({ cls := "LevelTables", name := "current", desc := "(I)I" } : MethodName) prog_1_method_10_code (2 : Nat) (Option.some FieldType.int)) ∈ lwg := lwg_of (pt_6 _ (List.mem_of_getElem? (i := 24) rfl)) rfl
theorem k_1225 : (Cond.methodLink "LevelTables" (159 : Nat) ({ cls := "LevelTables$Version", name := "size", desc := "()I" } : MethodName)) ∈ lwg := lwg_of (pt_6 _ (List.mem_of_getElem? (i := 25) rfl)) rfl
theorem k_1226 : (Cond.instanceMethod ({ cls := "LevelTables$Version", name := "size", desc := "()I" } : MethodName)) ∈ lwg := lwg_of (pt_6 _ (List.mem_of_getElem? (i := 26) rfl)) rfl
theorem k_1227 : (Cond.selects "LevelTables$Version" ({ cls := "LevelTables$Version", name := "size", desc := "()I" } : MethodName) ({ cls := "LevelTables$Version", name := "size", desc := "()I" } : MethodName)) ∈ lwg := lwg_of (pt_6 _ (List.mem_of_getElem? (i := 27) rfl)) rfl
theorem k_1228 : (Cond.code ({ cls := "LevelTables$Version", name := "size", desc := "()I" } : MethodName) prog_8_method_6_code (1 : Nat) (Option.some FieldType.int)) ∈ lwg := lwg_of (pt_6 _ (List.mem_of_getElem? (i := 28) rfl)) rfl
theorem k_1229 : (Cond.methodLink "LevelTables" (165 : Nat) ({ cls := "LevelTables$Version", name := "length", desc := "()I" } : MethodName)) ∈ lwg := lwg_of (pt_6 _ (List.mem_of_getElem? (i := 29) rfl)) rfl
theorem k_1230 : (Cond.methodLink "LevelTablesLaw" (94 : Nat) ({ cls := "LevelTablesLaw", name := "word", desc := "(LLevelTables;I[J)I" } : MethodName)) ∈ lwg := lwg_of (pt_6 _ (List.mem_of_getElem? (i := 30) rfl)) rfl
theorem k_1231 : (Cond.static ({ cls := "LevelTablesLaw", name := "word", desc := "(LLevelTables;I[J)I" } : MethodName)) ∈ lwg := lwg_of (pt_6 _ (List.mem_of_getElem? (i := 31) rfl)) rfl
theorem k_1232 : (Cond.codeWith ({ cls := "LevelTablesLaw", name := "word", desc := "(LLevelTables;I[J)I" } : MethodName) method_12_code (4 : Nat) (Option.some FieldType.int) [((0 : Nat), (8 : Nat), (11 : Nat), (40 : Nat)), ((0 : Nat), (8 : Nat), (14 : Nat), (13 : Nat))]) ∈ lwg := lwg_of (pt_6 _ (List.mem_of_getElem? (i := 32) rfl)) rfl
theorem k_1233 : (Cond.methodLink "LevelTablesLaw" (49 : Nat) ({ cls := "LevelTables", name := "word", desc := "(I)J" } : MethodName)) ∈ lwg := lwg_of (pt_6 _ (List.mem_of_getElem? (i := 33) rfl)) rfl
theorem k_1234 : (Cond.instanceMethod ({ cls := "LevelTables", name := "word", desc := "(I)J" } : MethodName)) ∈ lwg := lwg_of (pt_6 _ (List.mem_of_getElem? (i := 34) rfl)) rfl
theorem k_1235 : (Cond.selects "LevelTables" ({ cls := "LevelTables", name := "word", desc := "(I)J" } : MethodName) ({ cls := "LevelTables", name := "word", desc := "(I)J" } : MethodName)) ∈ lwg := lwg_of (pt_6 _ (List.mem_of_getElem? (i := 35) rfl)) rfl
theorem k_1236 : (Cond.code ({ cls := "LevelTables", name := "word", desc := "(I)J" } : MethodName) prog_1_method_11_code (2 : Nat) (Option.some FieldType.long)) ∈ lwg := lwg_of (pt_6 _ (List.mem_of_getElem? (i := 36) rfl)) rfl
theorem k_1237 : (Cond.methodLink "LevelTables" (166 : Nat) ({ cls := "LevelTables$Version", name := "eightBytes", desc := "(I)J" } : MethodName)) ∈ lwg := lwg_of (pt_6 _ (List.mem_of_getElem? (i := 37) rfl)) rfl
theorem k_1238 : (Cond.instanceMethod ({ cls := "LevelTables$Version", name := "eightBytes", desc := "(I)J" } : MethodName)) ∈ lwg := lwg_of (pt_6 _ (List.mem_of_getElem? (i := 38) rfl)) rfl
theorem k_1239 : (Cond.selects "LevelTables$Version" ({ cls := "LevelTables$Version", name := "eightBytes", desc := "(I)J" } : MethodName) ({ cls := "LevelTables$Version", name := "eightBytes", desc := "(I)J" } : MethodName)) ∈ lwg := lwg_of (pt_6 _ (List.mem_of_getElem? (i := 39) rfl)) rfl
theorem k_1240 : (Cond.code ({ cls := "LevelTables$Version", name := "eightBytes", desc := "(I)J" } : MethodName) prog_8_method_14_code (5 : Nat) (Option.some FieldType.long)) ∈ lwg := lwg_of (pt_6 _ (List.mem_of_getElem? (i := 40) rfl)) rfl
theorem k_1241 : (Cond.methodLink "LevelTables$Version" (47 : Nat) ({ cls := "LevelTables$Version", name := "byteAt", desc := "(I)J" } : MethodName)) ∈ lwg := lwg_of (pt_6 _ (List.mem_of_getElem? (i := 41) rfl)) rfl
theorem k_1243 : (Cond.instanceMethod ({ cls := "LevelTables$Version", name := "byteAt", desc := "(I)J" } : MethodName)) ∈ lwg := lwg_of (pt_6 _ (List.mem_of_getElem? (i := 43) rfl)) rfl
theorem k_1244 : (Cond.code ({ cls := "LevelTables$Version", name := "byteAt", desc := "(I)J" } : MethodName) prog_8_method_15_code (2 : Nat) (Option.some FieldType.long)) ∈ lwg := lwg_of (pt_6 _ (List.mem_of_getElem? (i := 44) rfl)) rfl
theorem k_1245 : (Cond.classLink "LevelTablesLaw" (54 : Nat) "LevelTablesModel") ∈ lwg := lwg_of (pt_6 _ (List.mem_of_getElem? (i := 45) rfl)) rfl
theorem k_1246 : (Cond.instantiable "LevelTablesModel" (12 : Nat)) ∈ lwg := lwg_of (pt_6 _ (List.mem_of_getElem? (i := 46) rfl)) rfl
theorem k_1247 : (Cond.methodLink "LevelTablesLaw" (56 : Nat) ({ cls := "LevelTablesModel", name := "<init>", desc := "()V" } : MethodName)) ∈ lwg := lwg_of (pt_6 _ (List.mem_of_getElem? (i := 47) rfl)) rfl
theorem k_1248 : (Cond.instanceMethod ({ cls := "LevelTablesModel", name := "<init>", desc := "()V" } : MethodName)) ∈ lwg := lwg_of (pt_6 _ (List.mem_of_getElem? (i := 48) rfl)) rfl
theorem k_1249 : (Cond.code ({ cls := "LevelTablesModel", name := "<init>", desc := "()V" } : MethodName) prog_13_method_1_code (1 : Nat) (Option.none : Option Jvm.ClassFile.FieldType)) ∈ lwg := lwg_of (pt_6 _ (List.mem_of_getElem? (i := 49) rfl)) rfl
theorem k_1250 : (Cond.methodLink "LevelTablesModel" (1 : Nat) ({ cls := "java/lang/Object", name := "<init>", desc := "()V" } : MethodName)) ∈ lwg := lwg_of (pt_6 _ (List.mem_of_getElem? (i := 50) rfl)) rfl
theorem k_1251 : (Cond.fieldLink "LevelTablesModel" (37 : Nat) "LevelTablesModel" "failed" "I") ∈ lwg := lwg_of (pt_6 _ (List.mem_of_getElem? (i := 51) rfl)) rfl
theorem k_1252 : (Cond.fieldLink "LevelTablesModel" (7 : Nat) "LevelTablesModel" "tape" "[B") ∈ lwg := lwg_of (pt_6 _ (List.mem_of_getElem? (i := 52) rfl)) rfl
theorem k_1253 : (Cond.fieldLink "LevelTablesModel" (40 : Nat) "LevelTablesModel" "taped" "I") ∈ lwg := lwg_of (pt_6 _ (List.mem_of_getElem? (i := 53) rfl)) rfl
theorem k_1254 : (Cond.fieldLink "LevelTablesModel" (13 : Nat) "LevelTablesModel" "keys" "[B") ∈ lwg := lwg_of (pt_6 _ (List.mem_of_getElem? (i := 54) rfl)) rfl
theorem k_1255 : (Cond.fieldLink "LevelTablesModel" (16 : Nat) "LevelTablesModel" "lengths" "[I") ∈ lwg := lwg_of (pt_6 _ (List.mem_of_getElem? (i := 55) rfl)) rfl
theorem k_1256 : (Cond.fieldLink "LevelTablesModel" (20 : Nat) "LevelTablesModel" "places" "[I") ∈ lwg := lwg_of (pt_6 _ (List.mem_of_getElem? (i := 56) rfl)) rfl
theorem k_1257 : (Cond.fieldLink "LevelTablesModel" (23 : Nat) "LevelTablesModel" "sizes" "[I") ∈ lwg := lwg_of (pt_6 _ (List.mem_of_getElem? (i := 57) rfl)) rfl
theorem k_1258 : (Cond.fieldLink "LevelTablesModel" (47 : Nat) "LevelTablesModel" "made" "I") ∈ lwg := lwg_of (pt_6 _ (List.mem_of_getElem? (i := 58) rfl)) rfl
theorem k_1259 : (Cond.fieldLink "LevelTablesModel" (54 : Nat) "LevelTablesModel" "standing" "I") ∈ lwg := lwg_of (pt_6 _ (List.mem_of_getElem? (i := 59) rfl)) rfl
theorem k_1260 : (Cond.fieldLink "LevelTablesModel" (26 : Nat) "LevelTablesModel" "open" "[Z") ∈ lwg := lwg_of (pt_6 _ (List.mem_of_getElem? (i := 60) rfl)) rfl
theorem k_1261 : (Cond.fieldLink "LevelTablesModel" (30 : Nat) "LevelTablesModel" "sees" "[I") ∈ lwg := lwg_of (pt_6 _ (List.mem_of_getElem? (i := 61) rfl)) rfl
theorem k_1262 : (Cond.fieldLink "LevelTablesModel" (33 : Nat) "LevelTablesModel" "at" "I") ∈ lwg := lwg_of (pt_6 _ (List.mem_of_getElem? (i := 62) rfl)) rfl
theorem k_1263 : (Cond.lays "LevelTablesModel" "LevelTablesModel" "failed" "I") ∈ lwg := lwg_of (pt_6 _ (List.mem_of_getElem? (i := 63) rfl)) rfl
theorem k_1265 : (Cond.laysFinal "LevelTablesModel" "LevelTablesModel" "tape" "[B") ∈ lwg := lwg_of (pt_6 _ (List.mem_of_getElem? (i := 65) rfl)) rfl
theorem k_1267 : (Cond.lays "LevelTablesModel" "LevelTablesModel" "taped" "I") ∈ lwg := lwg_of (pt_6 _ (List.mem_of_getElem? (i := 67) rfl)) rfl
theorem k_1269 : (Cond.laysFinal "LevelTablesModel" "LevelTablesModel" "keys" "[B") ∈ lwg := lwg_of (pt_6 _ (List.mem_of_getElem? (i := 69) rfl)) rfl
theorem k_1271 : (Cond.laysFinal "LevelTablesModel" "LevelTablesModel" "lengths" "[I") ∈ lwg := lwg_of (pt_6 _ (List.mem_of_getElem? (i := 71) rfl)) rfl
theorem k_1273 : (Cond.laysFinal "LevelTablesModel" "LevelTablesModel" "places" "[I") ∈ lwg := lwg_of (pt_6 _ (List.mem_of_getElem? (i := 73) rfl)) rfl
theorem k_1275 : (Cond.laysFinal "LevelTablesModel" "LevelTablesModel" "sizes" "[I") ∈ lwg := lwg_of (pt_6 _ (List.mem_of_getElem? (i := 75) rfl)) rfl
theorem k_1277 : (Cond.lays "LevelTablesModel" "LevelTablesModel" "made" "I") ∈ lwg := lwg_of (pt_6 _ (List.mem_of_getElem? (i := 77) rfl)) rfl
theorem k_1279 : (Cond.lays "LevelTablesModel" "LevelTablesModel" "standing" "I") ∈ lwg := lwg_of (pt_6 _ (List.mem_of_getElem? (i := 79) rfl)) rfl
theorem k_1281 : (Cond.laysFinal "LevelTablesModel" "LevelTablesModel" "open" "[Z") ∈ lwg := lwg_of (pt_6 _ (List.mem_of_getElem? (i := 81) rfl)) rfl
theorem k_1283 : (Cond.laysFinal "LevelTablesModel" "LevelTablesModel" "sees" "[I") ∈ lwg := lwg_of (pt_6 _ (List.mem_of_getElem? (i := 83) rfl)) rfl
theorem k_1285 : (Cond.lays "LevelTablesModel" "LevelTablesModel" "at" "I") ∈ lwg := lwg_of (pt_6 _ (List.mem_of_getElem? (i := 85) rfl)) rfl
theorem k_1288 : (Cond.arrayClass FieldType.boolean) ∈ lwg := lwg_of (pt_6 _ (List.mem_of_getElem? (i := 88) rfl)) rfl
theorem k_1289 : (Cond.methodLink "LevelTablesLaw" (63 : Nat) ({ cls := "LevelTablesModel", name := "thrown", desc := "()I" } : MethodName)) ∈ lwg := lwg_of (pt_6 _ (List.mem_of_getElem? (i := 89) rfl)) rfl
theorem k_1290 : (Cond.instanceMethod ({ cls := "LevelTablesModel", name := "thrown", desc := "()I" } : MethodName)) ∈ lwg := lwg_of (pt_6 _ (List.mem_of_getElem? (i := 90) rfl)) rfl
theorem k_1291 : (Cond.selects "LevelTablesModel" ({ cls := "LevelTablesModel", name := "thrown", desc := "()I" } : MethodName) ({ cls := "LevelTablesModel", name := "thrown", desc := "()I" } : MethodName)) ∈ lwg := lwg_of (pt_6 _ (List.mem_of_getElem? (i := 91) rfl)) rfl
theorem k_1292 : (Cond.code ({ cls := "LevelTablesModel", name := "thrown", desc := "()I" } : MethodName) prog_13_method_2_code (1 : Nat) (Option.some FieldType.int)) ∈ lwg := lwg_of (pt_6 _ (List.mem_of_getElem? (i := 92) rfl)) rfl
theorem k_1293 : (Cond.methodLink "LevelTablesLaw" (62 : Nat) ({ cls := "LevelTablesModel", name := "feed", desc := "(IIIII)I" } : MethodName)) ∈ lwg := lwg_of (pt_6 _ (List.mem_of_getElem? (i := 93) rfl)) rfl
theorem k_1294 : (Cond.instanceMethod ({ cls := "LevelTablesModel", name := "feed", desc := "(IIIII)I" } : MethodName)) ∈ lwg := lwg_of (pt_6 _ (List.mem_of_getElem? (i := 94) rfl)) rfl
theorem k_1295 : (Cond.selects "LevelTablesModel" ({ cls := "LevelTablesModel", name := "feed", desc := "(IIIII)I" } : MethodName) ({ cls := "LevelTablesModel", name := "feed", desc := "(IIIII)I" } : MethodName)) ∈ lwg := lwg_of (pt_6 _ (List.mem_of_getElem? (i := 95) rfl)) rfl
theorem k_1296 : (Cond.code ({ cls := "LevelTablesModel", name := "feed", desc := "(IIIII)I" } : MethodName) prog_13_method_4_code (8 : Nat) (Option.some FieldType.int)) ∈ lwg := lwg_of (pt_6 _ (List.mem_of_getElem? (i := 96) rfl)) rfl
theorem k_1297 : (Cond.methodLink "LevelTablesModel" (43 : Nat) ({ cls := "LevelTablesModel", name := "fail", desc := "(I)I" } : MethodName)) ∈ lwg := lwg_of (pt_6 _ (List.mem_of_getElem? (i := 97) rfl)) rfl
theorem k_1299 : (Cond.instanceMethod ({ cls := "LevelTablesModel", name := "fail", desc := "(I)I" } : MethodName)) ∈ lwg := lwg_of (pt_6 _ (List.mem_of_getElem? (i := 99) rfl)) rfl
theorem k_1300 : (Cond.code ({ cls := "LevelTablesModel", name := "fail", desc := "(I)I" } : MethodName) prog_13_method_3_code (2 : Nat) (Option.some FieldType.int)) ∈ lwg := lwg_of (pt_6 _ (List.mem_of_getElem? (i := 100) rfl)) rfl
theorem k_1301 : (Cond.methodLink "LevelTablesLaw" (69 : Nat) ({ cls := "LevelTablesModel", name := "end", desc := "(I)I" } : MethodName)) ∈ lwg := lwg_of (pt_6 _ (List.mem_of_getElem? (i := 101) rfl)) rfl
theorem k_1302 : (Cond.instanceMethod ({ cls := "LevelTablesModel", name := "end", desc := "(I)I" } : MethodName)) ∈ lwg := lwg_of (pt_6 _ (List.mem_of_getElem? (i := 102) rfl)) rfl
theorem k_1303 : (Cond.selects "LevelTablesModel" ({ cls := "LevelTablesModel", name := "end", desc := "(I)I" } : MethodName) ({ cls := "LevelTablesModel", name := "end", desc := "(I)I" } : MethodName)) ∈ lwg := lwg_of (pt_6 _ (List.mem_of_getElem? (i := 103) rfl)) rfl
theorem k_1304 : (Cond.code ({ cls := "LevelTablesModel", name := "end", desc := "(I)I" } : MethodName) prog_13_method_5_code (2 : Nat) (Option.some FieldType.int)) ∈ lwg := lwg_of (pt_6 _ (List.mem_of_getElem? (i := 104) rfl)) rfl
theorem k_1305 : (Cond.methodLink "LevelTablesLaw" (73 : Nat) ({ cls := "LevelTablesModel", name := "put", desc := "(II)I" } : MethodName)) ∈ lwg := lwg_of (pt_6 _ (List.mem_of_getElem? (i := 105) rfl)) rfl
theorem k_1306 : (Cond.instanceMethod ({ cls := "LevelTablesModel", name := "put", desc := "(II)I" } : MethodName)) ∈ lwg := lwg_of (pt_6 _ (List.mem_of_getElem? (i := 106) rfl)) rfl
theorem k_1307 : (Cond.selects "LevelTablesModel" ({ cls := "LevelTablesModel", name := "put", desc := "(II)I" } : MethodName) ({ cls := "LevelTablesModel", name := "put", desc := "(II)I" } : MethodName)) ∈ lwg := lwg_of (pt_6 _ (List.mem_of_getElem? (i := 107) rfl)) rfl
theorem k_1308 : (Cond.code ({ cls := "LevelTablesModel", name := "put", desc := "(II)I" } : MethodName) prog_13_method_8_code (3 : Nat) (Option.some FieldType.int)) ∈ lwg := lwg_of (pt_6 _ (List.mem_of_getElem? (i := 108) rfl)) rfl
theorem k_1309 : (Cond.methodLink "LevelTablesModel" (57 : Nat) ({ cls := "LevelTablesModel", name := "keyed", desc := "()Z" } : MethodName)) ∈ lwg := lwg_of (pt_6 _ (List.mem_of_getElem? (i := 109) rfl)) rfl
theorem k_1311 : (Cond.instanceMethod ({ cls := "LevelTablesModel", name := "keyed", desc := "()Z" } : MethodName)) ∈ lwg := lwg_of (pt_6 _ (List.mem_of_getElem? (i := 111) rfl)) rfl
theorem k_1312 : (Cond.code ({ cls := "LevelTablesModel", name := "keyed", desc := "()Z" } : MethodName) prog_13_method_6_code (1 : Nat) (Option.some FieldType.boolean)) ∈ lwg := lwg_of (pt_6 _ (List.mem_of_getElem? (i := 112) rfl)) rfl
theorem k_1313 : (Cond.methodLink "LevelTablesModel" (61 : Nat) ({ cls := "LevelTablesModel", name := "enter", desc := "(II)I" } : MethodName)) ∈ lwg := lwg_of (pt_6 _ (List.mem_of_getElem? (i := 113) rfl)) rfl
theorem k_1315 : (Cond.instanceMethod ({ cls := "LevelTablesModel", name := "enter", desc := "(II)I" } : MethodName)) ∈ lwg := lwg_of (pt_6 _ (List.mem_of_getElem? (i := 115) rfl)) rfl
theorem k_1316 : (Cond.code ({ cls := "LevelTablesModel", name := "enter", desc := "(II)I" } : MethodName) prog_13_method_7_code (6 : Nat) (Option.some FieldType.int)) ∈ lwg := lwg_of (pt_6 _ (List.mem_of_getElem? (i := 116) rfl)) rfl
theorem k_1317 : (Cond.methodLink "LevelTablesModel" (50 : Nat) ({ cls := "LevelTablesModel", name := "compareTape", desc := "(II)I" } : MethodName)) ∈ lwg := lwg_of (pt_6 _ (List.mem_of_getElem? (i := 117) rfl)) rfl
theorem k_1319 : (Cond.instanceMethod ({ cls := "LevelTablesModel", name := "compareTape", desc := "(II)I" } : MethodName)) ∈ lwg := lwg_of (pt_6 _ (List.mem_of_getElem? (i := 119) rfl)) rfl
theorem k_1320 : (Cond.code ({ cls := "LevelTablesModel", name := "compareTape", desc := "(II)I" } : MethodName) prog_13_method_13_code (5 : Nat) (Option.some FieldType.int)) ∈ lwg := lwg_of (pt_6 _ (List.mem_of_getElem? (i := 120) rfl)) rfl
theorem k_1321 : (Cond.methodLink "LevelTablesLaw" (77 : Nat) ({ cls := "LevelTablesModel", name := "out", desc := "()I" } : MethodName)) ∈ lwg := lwg_of (pt_6 _ (List.mem_of_getElem? (i := 121) rfl)) rfl
theorem k_1322 : (Cond.instanceMethod ({ cls := "LevelTablesModel", name := "out", desc := "()I" } : MethodName)) ∈ lwg := lwg_of (pt_6 _ (List.mem_of_getElem? (i := 122) rfl)) rfl
theorem k_1323 : (Cond.selects "LevelTablesModel" ({ cls := "LevelTablesModel", name := "out", desc := "()I" } : MethodName) ({ cls := "LevelTablesModel", name := "out", desc := "()I" } : MethodName)) ∈ lwg := lwg_of (pt_6 _ (List.mem_of_getElem? (i := 123) rfl)) rfl
theorem k_1324 : (Cond.code ({ cls := "LevelTablesModel", name := "out", desc := "()I" } : MethodName) prog_13_method_9_code (1 : Nat) (Option.some FieldType.int)) ∈ lwg := lwg_of (pt_6 _ (List.mem_of_getElem? (i := 124) rfl)) rfl
theorem k_1325 : (Cond.methodLink "LevelTablesLaw" (80 : Nat) ({ cls := "LevelTablesModel", name := "open", desc := "(I)I" } : MethodName)) ∈ lwg := lwg_of (pt_6 _ (List.mem_of_getElem? (i := 125) rfl)) rfl
theorem k_1326 : (Cond.instanceMethod ({ cls := "LevelTablesModel", name := "open", desc := "(I)I" } : MethodName)) ∈ lwg := lwg_of (pt_6 _ (List.mem_of_getElem? (i := 126) rfl)) rfl
theorem k_1327 : (Cond.selects "LevelTablesModel" ({ cls := "LevelTablesModel", name := "open", desc := "(I)I" } : MethodName) ({ cls := "LevelTablesModel", name := "open", desc := "(I)I" } : MethodName)) ∈ lwg := lwg_of (pt_6 _ (List.mem_of_getElem? (i := 127) rfl)) rfl
theorem k_1328 : (Cond.code ({ cls := "LevelTablesModel", name := "open", desc := "(I)I" } : MethodName) prog_13_method_10_code (2 : Nat) (Option.some FieldType.int)) ∈ lwg := lwg_of (pt_6 _ (List.mem_of_getElem? (i := 128) rfl)) rfl
theorem k_1329 : (Cond.methodLink "LevelTablesLaw" (83 : Nat) ({ cls := "LevelTablesModel", name := "close", desc := "(I)I" } : MethodName)) ∈ lwg := lwg_of (pt_6 _ (List.mem_of_getElem? (i := 129) rfl)) rfl
theorem k_1330 : (Cond.instanceMethod ({ cls := "LevelTablesModel", name := "close", desc := "(I)I" } : MethodName)) ∈ lwg := lwg_of (pt_6 _ (List.mem_of_getElem? (i := 130) rfl)) rfl
theorem k_1331 : (Cond.selects "LevelTablesModel" ({ cls := "LevelTablesModel", name := "close", desc := "(I)I" } : MethodName) ({ cls := "LevelTablesModel", name := "close", desc := "(I)I" } : MethodName)) ∈ lwg := lwg_of (pt_6 _ (List.mem_of_getElem? (i := 131) rfl)) rfl
theorem k_1332 : (Cond.code ({ cls := "LevelTablesModel", name := "close", desc := "(I)I" } : MethodName) prog_13_method_11_code (2 : Nat) (Option.some FieldType.int)) ∈ lwg := lwg_of (pt_6 _ (List.mem_of_getElem? (i := 132) rfl)) rfl
theorem k_1333 : (Cond.methodLink "LevelTablesLaw" (86 : Nat) ({ cls := "LevelTablesModel", name := "find", desc := "(I)I" } : MethodName)) ∈ lwg := lwg_of (pt_6 _ (List.mem_of_getElem? (i := 133) rfl)) rfl
theorem k_1334 : (Cond.instanceMethod ({ cls := "LevelTablesModel", name := "find", desc := "(I)I" } : MethodName)) ∈ lwg := lwg_of (pt_6 _ (List.mem_of_getElem? (i := 134) rfl)) rfl
theorem k_1335 : (Cond.selects "LevelTablesModel" ({ cls := "LevelTablesModel", name := "find", desc := "(I)I" } : MethodName) ({ cls := "LevelTablesModel", name := "find", desc := "(I)I" } : MethodName)) ∈ lwg := lwg_of (pt_6 _ (List.mem_of_getElem? (i := 135) rfl)) rfl
theorem k_1336 : (Cond.code ({ cls := "LevelTablesModel", name := "find", desc := "(I)I" } : MethodName) prog_13_method_15_code (5 : Nat) (Option.some FieldType.int)) ∈ lwg := lwg_of (pt_6 _ (List.mem_of_getElem? (i := 136) rfl)) rfl
theorem k_1337 : (Cond.methodLink "LevelTablesLaw" (90 : Nat) ({ cls := "LevelTablesModel", name := "seek", desc := "(IZ)I" } : MethodName)) ∈ lwg := lwg_of (pt_6 _ (List.mem_of_getElem? (i := 137) rfl)) rfl
theorem k_1338 : (Cond.instanceMethod ({ cls := "LevelTablesModel", name := "seek", desc := "(IZ)I" } : MethodName)) ∈ lwg := lwg_of (pt_6 _ (List.mem_of_getElem? (i := 138) rfl)) rfl
theorem k_1339 : (Cond.selects "LevelTablesModel" ({ cls := "LevelTablesModel", name := "seek", desc := "(IZ)I" } : MethodName) ({ cls := "LevelTablesModel", name := "seek", desc := "(IZ)I" } : MethodName)) ∈ lwg := lwg_of (pt_6 _ (List.mem_of_getElem? (i := 139) rfl)) rfl
theorem k_1340 : (Cond.code ({ cls := "LevelTablesModel", name := "seek", desc := "(IZ)I" } : MethodName) prog_13_method_16_code (7 : Nat) (Option.some FieldType.int)) ∈ lwg := lwg_of (pt_6 _ (List.mem_of_getElem? (i := 140) rfl)) rfl
theorem k_1341 : (Cond.methodLink "LevelTablesModel" (64 : Nat) ({ cls := "LevelTablesModel", name := "compare", desc := "(II)I" } : MethodName)) ∈ lwg := lwg_of (pt_6 _ (List.mem_of_getElem? (i := 141) rfl)) rfl
theorem k_1343 : (Cond.instanceMethod ({ cls := "LevelTablesModel", name := "compare", desc := "(II)I" } : MethodName)) ∈ lwg := lwg_of (pt_6 _ (List.mem_of_getElem? (i := 143) rfl)) rfl
theorem k_1344 : (Cond.code ({ cls := "LevelTablesModel", name := "compare", desc := "(II)I" } : MethodName) prog_13_method_12_code (5 : Nat) (Option.some FieldType.int)) ∈ lwg := lwg_of (pt_6 _ (List.mem_of_getElem? (i := 144) rfl)) rfl
theorem k_1345 : (Cond.methodLink "LevelTablesModel" (67 : Nat) ({ cls := "LevelTablesModel", name := "stands", desc := "(II)Z" } : MethodName)) ∈ lwg := lwg_of (pt_6 _ (List.mem_of_getElem? (i := 145) rfl)) rfl
theorem k_1347 : (Cond.instanceMethod ({ cls := "LevelTablesModel", name := "stands", desc := "(II)Z" } : MethodName)) ∈ lwg := lwg_of (pt_6 _ (List.mem_of_getElem? (i := 147) rfl)) rfl
theorem k_1348 : (Cond.code ({ cls := "LevelTablesModel", name := "stands", desc := "(II)Z" } : MethodName) prog_13_method_14_code (4 : Nat) (Option.some FieldType.boolean)) ∈ lwg := lwg_of (pt_6 _ (List.mem_of_getElem? (i := 148) rfl)) rfl
theorem k_1349 : (Cond.methodLink "LevelTablesLaw" (93 : Nat) ({ cls := "LevelTablesModel", name := "current", desc := "(I)I" } : MethodName)) ∈ lwg := lwg_of (pt_6 _ (List.mem_of_getElem? (i := 149) rfl)) rfl
theorem k_1350 : (Cond.instanceMethod ({ cls := "LevelTablesModel", name := "current", desc := "(I)I" } : MethodName)) ∈ lwg := lwg_of (pt_6 _ (List.mem_of_getElem? (i := 150) rfl)) rfl
theorem k_1351 : (Cond.selects "LevelTablesModel" ({ cls := "LevelTablesModel", name := "current", desc := "(I)I" } : MethodName) ({ cls := "LevelTablesModel", name := "current", desc := "(I)I" } : MethodName)) ∈ lwg := lwg_of (pt_6 _ (List.mem_of_getElem? (i := 151) rfl)) rfl
theorem k_1352 : (Cond.code ({ cls := "LevelTablesModel", name := "current", desc := "(I)I" } : MethodName) prog_13_method_17_code (2 : Nat) (Option.some FieldType.int)) ∈ lwg := lwg_of (pt_6 _ (List.mem_of_getElem? (i := 152) rfl)) rfl
theorem k_1353 : (Cond.methodLink "LevelTablesLaw" (96 : Nat) ({ cls := "LevelTablesModel", name := "word", desc := "(I)J" } : MethodName)) ∈ lwg := lwg_of (pt_6 _ (List.mem_of_getElem? (i := 153) rfl)) rfl
theorem k_1354 : (Cond.instanceMethod ({ cls := "LevelTablesModel", name := "word", desc := "(I)J" } : MethodName)) ∈ lwg := lwg_of (pt_6 _ (List.mem_of_getElem? (i := 154) rfl)) rfl
theorem k_1355 : (Cond.selects "LevelTablesModel" ({ cls := "LevelTablesModel", name := "word", desc := "(I)J" } : MethodName) ({ cls := "LevelTablesModel", name := "word", desc := "(I)J" } : MethodName)) ∈ lwg := lwg_of (pt_6 _ (List.mem_of_getElem? (i := 155) rfl)) rfl
theorem k_1356 : (Cond.code ({ cls := "LevelTablesModel", name := "word", desc := "(I)J" } : MethodName) prog_13_method_18_code (5 : Nat) (Option.some FieldType.long)) ∈ lwg := lwg_of (pt_6 _ (List.mem_of_getElem? (i := 156) rfl)) rfl
theorem k_1357 : (Cond.constantLong "LevelTablesModel" (71 : Nat) (256 : Int64)) ∈ lwg := lwg_of (pt_6 _ (List.mem_of_getElem? (i := 157) rfl)) rfl
theorem k_1358 : (Cond.methodLink "LevelTablesLaw" (100 : Nat) ({ cls := "LevelTablesModel", name := "flush", desc := "()I" } : MethodName)) ∈ lwg := lwg_of (pt_6 _ (List.mem_of_getElem? (i := 158) rfl)) rfl
theorem k_1359 : (Cond.instanceMethod ({ cls := "LevelTablesModel", name := "flush", desc := "()I" } : MethodName)) ∈ lwg := lwg_of (pt_6 _ (List.mem_of_getElem? (i := 159) rfl)) rfl
theorem k_1360 : (Cond.selects "LevelTablesModel" ({ cls := "LevelTablesModel", name := "flush", desc := "()I" } : MethodName) ({ cls := "LevelTablesModel", name := "flush", desc := "()I" } : MethodName)) ∈ lwg := lwg_of (pt_6 _ (List.mem_of_getElem? (i := 160) rfl)) rfl
theorem k_1361 : (Cond.code ({ cls := "LevelTablesModel", name := "flush", desc := "()I" } : MethodName) prog_13_method_20_code (1 : Nat) (Option.some FieldType.int)) ∈ lwg := lwg_of (pt_6 _ (List.mem_of_getElem? (i := 161) rfl)) rfl
theorem k_1362 : (Cond.methodLink "LevelTablesModel" (73 : Nat) ({ cls := "LevelTablesModel", name := "present", desc := "()I" } : MethodName)) ∈ lwg := lwg_of (pt_6 _ (List.mem_of_getElem? (i := 162) rfl)) rfl
theorem k_1364 : (Cond.instanceMethod ({ cls := "LevelTablesModel", name := "present", desc := "()I" } : MethodName)) ∈ lwg := lwg_of (pt_6 _ (List.mem_of_getElem? (i := 164) rfl)) rfl
theorem k_1365 : (Cond.code ({ cls := "LevelTablesModel", name := "present", desc := "()I" } : MethodName) prog_13_method_19_code (1 : Nat) (Option.some FieldType.int)) ∈ lwg := lwg_of (pt_6 _ (List.mem_of_getElem? (i := 165) rfl)) rfl
theorem k_1366 : (Cond.methodLink "LevelTablesLaw" (105 : Nat) ({ cls := "LevelTablesModel", name := "merge", desc := "(Z)I" } : MethodName)) ∈ lwg := lwg_of (pt_6 _ (List.mem_of_getElem? (i := 166) rfl)) rfl
theorem k_1367 : (Cond.instanceMethod ({ cls := "LevelTablesModel", name := "merge", desc := "(Z)I" } : MethodName)) ∈ lwg := lwg_of (pt_6 _ (List.mem_of_getElem? (i := 167) rfl)) rfl
theorem k_1368 : (Cond.selects "LevelTablesModel" ({ cls := "LevelTablesModel", name := "merge", desc := "(Z)I" } : MethodName) ({ cls := "LevelTablesModel", name := "merge", desc := "(Z)I" } : MethodName)) ∈ lwg := lwg_of (pt_6 _ (List.mem_of_getElem? (i := 168) rfl)) rfl
theorem k_1369 : (Cond.code ({ cls := "LevelTablesModel", name := "merge", desc := "(Z)I" } : MethodName) prog_13_method_21_code (2 : Nat) (Option.some FieldType.int)) ∈ lwg := lwg_of (pt_6 _ (List.mem_of_getElem? (i := 169) rfl)) rfl
theorem k_1370 : (Cond.methodLink "LevelTablesLaw" (109 : Nat) ({ cls := "LevelTablesModel", name := "check", desc := "()I" } : MethodName)) ∈ lwg := lwg_of (pt_6 _ (List.mem_of_getElem? (i := 170) rfl)) rfl
theorem k_1371 : (Cond.instanceMethod ({ cls := "LevelTablesModel", name := "check", desc := "()I" } : MethodName)) ∈ lwg := lwg_of (pt_6 _ (List.mem_of_getElem? (i := 171) rfl)) rfl
theorem k_1372 : (Cond.selects "LevelTablesModel" ({ cls := "LevelTablesModel", name := "check", desc := "()I" } : MethodName) ({ cls := "LevelTablesModel", name := "check", desc := "()I" } : MethodName)) ∈ lwg := lwg_of (pt_6 _ (List.mem_of_getElem? (i := 172) rfl)) rfl
theorem k_1373 : (Cond.code ({ cls := "LevelTablesModel", name := "check", desc := "()I" } : MethodName) prog_13_method_22_code (1 : Nat) (Option.some FieldType.int)) ∈ lwg := lwg_of (pt_6 _ (List.mem_of_getElem? (i := 173) rfl)) rfl
theorem k_1375 : (Cond.selects "LevelTables$Level" ({ cls := "LevelTables$Run", name := "firstNotBefore", desc := "(LLevelTables$Version;)I" } : MethodName) ({ cls := "LevelTables$Run", name := "firstNotBefore", desc := "(LLevelTables$Version;)I" } : MethodName)) ∈ lwg := lwg_of (pt_6 _ (List.mem_of_getElem? (i := 175) rfl)) rfl
theorem k_1376 : (Cond.selects "LevelTables$Memory" ({ cls := "LevelTables$Run", name := "firstNotBefore", desc := "(LLevelTables$Version;)I" } : MethodName) ({ cls := "LevelTables$Run", name := "firstNotBefore", desc := "(LLevelTables$Version;)I" } : MethodName)) ∈ lwg := lwg_of (pt_6 _ (List.mem_of_getElem? (i := 176) rfl)) rfl
theorem k_1386 : (Cond.selects "LevelTables$Level" ({ cls := "LevelTables$Level", name := "load", desc := "(ILLevelTables$Version;)V" } : MethodName) ({ cls := "LevelTables$Level", name := "load", desc := "(ILLevelTables$Version;)V" } : MethodName)) ∈ lwg := lwg_of (pt_6 _ (List.mem_of_getElem? (i := 186) rfl)) rfl
theorem k_1387 : (Cond.selects "LevelTables$Level" ({ cls := "LevelTables$Level", name := "count", desc := "()I" } : MethodName) ({ cls := "LevelTables$Level", name := "count", desc := "()I" } : MethodName)) ∈ lwg := lwg_of (pt_6 _ (List.mem_of_getElem? (i := 187) rfl)) rfl
theorem k_1390 : (Cond.selects "[Ljava/lang/Object;" ({ cls := "java/lang/Object", name := "getClass", desc := "()Ljava/lang/Class;" } : MethodName) ({ cls := "java/lang/Object", name := "getClass", desc := "()Ljava/lang/Class;" } : MethodName)) ∈ lwg := lwg_of (pt_6 _ (List.mem_of_getElem? (i := 190) rfl)) rfl
theorem k_c4 : Cond.castable "LevelTables$Memory" "LevelTables$Run" ∈ lwn := k_1405
theorem k_c5 : Cond.castable "LevelTables$Level" "LevelTables$Run" ∈ lwn := k_1404
theorem k_c9 : Cond.castable "LevelTables$Table" "java/lang/Object" ∈ lwn := k_1402
theorem k_n0 : Cond.instantiable R_LT 16 ∈ lwg := k_36
theorem k_n1 : Cond.instantiable R_Tp 2 ∈ lwg := k_44
theorem k_n2 : Cond.instantiable R_Vi 2 ∈ lwg := k_58
theorem k_n3 : Cond.instantiable R_Ch 5 ∈ lwg := k_75
theorem k_n4 : Cond.instantiable R_Me 3 ∈ lwg := k_99
theorem k_n5 : Cond.instantiable R_Lv 4 ∈ lwg := k_134
theorem k_n6 : Cond.instantiable R_Wk 8 ∈ lwg := k_177
theorem k_n7 : Cond.instantiable R_Wr 5 ∈ lwg := k_211
theorem k_n8 : Cond.instantiable R_Ve 1 ∈ lwg := k_108
theorem k_n9 : Cond.instantiable R_Tb 4 ∈ lwg := k_486
theorem k_n10 : Cond.instantiable R_AL 3 ∈ lwg := k_140
theorem k_n11 : Cond.instantiable R_Mo 12 ∈ lwg := k_1246
theorem k_acI : Cond.arrayClass .int ∈ lwg := k_73
theorem k_acJ : Cond.arrayClass .long ∈ lwg := k_117
theorem k_acB : Cond.arrayClass .byte ∈ lwg := k_56
theorem k_acZ : Cond.arrayClass .boolean ∈ lwg := k_1288
theorem k_aoV : Cond.arrayOver (.object "LevelTables$Version") ∈ lwn := k_183
theorem k_aoR : Cond.arrayOver (.object "LevelTables$Run") ∈ lwn := k_131
theorem k_aoL : Cond.arrayOver (.object "LevelTables$Level") ∈ lwn := k_129
theorem k_aoO : Cond.arrayOver (.object "java/lang/Object") ∈ lwn := k_573
theorem k_aoJ : Cond.arrayOver (.array .long) ∈ lwn := k_81
theorem k_inAL : Cond.initialized "java/util/ArrayList" ∈ lwg := k_12
theorem k_inLT : Cond.initialized "LevelTables" ∈ lwg := k_1
theorem k_inTh : Cond.initialized "java/lang/Throwable" ∈ lwg := k_16
theorem z_lsE : (Cond.laysStatic "java/util/ArrayList" "DEFAULTCAPACITY_EMPTY_ELEMENTDATA" "[Ljava/lang/Object;") ∈ lw_tbl := List.mem_append_right _ (pt_1 _ (List.mem_of_getElem? (i := 152) rfl))
theorem z_lsU : (Cond.laysStatic "java/lang/Throwable" "UNASSIGNED_STACK" "[Ljava/lang/StackTraceElement;") ∈ lw_tbl := List.mem_append_right _ (pt_3 _ (List.mem_of_getElem? (i := 196) rfl))
theorem z_lsS : (Cond.laysStatic "java/lang/Throwable" "SUPPRESSED_SENTINEL" "Ljava/util/List;") ∈ lw_tbl := List.mem_append_right _ (pt_3 _ (List.mem_of_getElem? (i := 198) rfl))
theorem z_lsA : (Cond.laysStatic "LevelTables" "ALLOWED" "[I") ∈ lw_tbl := List.mem_append_right _ (pt_5 _ (List.mem_of_getElem? (i := 11) rfl))
theorem k_xi0 : Cond.initialized (x_nm 0) ∈ lwg := k_20
theorem k_xn0 : Cond.instantiable (x_nm 0) 6 ∈ lwg := k_893
theorem k_xc0 : Cond.castable (x_nm 0) (x_nm 0) ∈ lwn := k_894
theorem k_xi1 : Cond.initialized (x_nm 1) ∈ lwg := k_21
theorem k_xn1 : Cond.instantiable (x_nm 1) 6 ∈ lwg := k_1112
theorem k_xc1 : Cond.castable (x_nm 1) (x_nm 1) ∈ lwn := k_1113
theorem k_xi2 : Cond.initialized (x_nm 2) ∈ lwg := k_19
theorem k_xn2 : Cond.instantiable (x_nm 2) 6 ∈ lwg := k_650
theorem k_xc2 : Cond.castable (x_nm 2) (x_nm 2) ∈ lwn := k_651
theorem k_xi3 : Cond.initialized (x_nm 3) ∈ lwg := k_25
theorem k_xn3 : Cond.instantiable (x_nm 3) 6 ∈ lwg := k_1188
theorem k_xc3 : Cond.castable (x_nm 3) (x_nm 3) ∈ lwn := k_1189
theorem k_oi : Cond.instanceMethod Lib.objectInit ∈ lwg := k_41
theorem k_oc : Cond.code Lib.objectInit ⟨#[0xb1]⟩ 1 none ∈ lwg := k_42
theorem w_LT : ∀ w ∈ u_ws R_LT F_LT 16, w ∈ lwg := j_all_mem ⟨k_278, k_280, k_250, k_252, k_254, k_256, k_258, k_260, k_262, k_264, k_266, k_268, k_270, k_272, k_274, k_276, trivial⟩
theorem w_Tp : ∀ w ∈ u_ws R_Tp F_Tp 2, w ∈ lwg := j_all_mem ⟨k_53, k_51, trivial⟩
theorem w_Vi : ∀ w ∈ u_ws R_Vi F_Vi 2, w ∈ lwg := j_all_mem ⟨k_70, k_68, trivial⟩
theorem w_Ch : ∀ w ∈ u_ws R_Ch F_Ch 5, w ∈ lwg := j_all_mem ⟨k_95, k_87, k_89, k_91, k_93, trivial⟩
theorem w_Me : ∀ w ∈ u_ws R_Me F_Me 3, w ∈ lwg := j_all_mem ⟨k_125, k_123, k_121, trivial⟩
theorem w_Lv : ∀ w ∈ u_ws R_Lv F_Lv 4, w ∈ lwg := j_all_mem ⟨k_174, k_172, k_168, k_170, trivial⟩
theorem w_Wk : ∀ w ∈ u_ws R_Wk F_Wk 8, w ∈ lwg := j_all_mem ⟨k_205, k_207, k_193, k_195, k_197, k_199, k_201, k_203, trivial⟩
theorem w_Wr : ∀ w ∈ u_ws R_Wr F_Wr 5, w ∈ lwg := j_all_mem ⟨k_229, k_231, k_223, k_225, k_227, trivial⟩
theorem w_Ve : ∀ w ∈ u_ws R_Ve F_Ve 1, w ∈ lwg := j_all_mem ⟨k_114, trivial⟩
theorem w_Tb : ∀ w ∈ u_ws R_Tb F_Tb 4, w ∈ lwg := j_all_mem ⟨k_515, k_509, k_511, k_513, trivial⟩
theorem w_AL : ∀ w ∈ u_ws R_AL F_AL 3, w ∈ lwg := j_all_mem ⟨k_162, k_158, k_160, trivial⟩
theorem w_Mo : ∀ w ∈ u_ws R_Mo F_Mo 12, w ∈ lwg := j_all_mem ⟨k_1263, k_1267, k_1277, k_1279, k_1285, k_1265, k_1269, k_1271, k_1273, k_1275, k_1281, k_1283, trivial⟩
theorem kp_LT_writeOut : Cond.selects R_LT y_LT_writeOut y_LT_writeOut ∈ lwg := lwg_sel (q := (⟨"LevelTables", "writeOut", "()V"⟩, 16)) (by decide +kernel) rfl
theorem kp_Lv_tableWith : Cond.selects R_Lv y_Lv_tableWith y_Lv_tableWith ∈ lwg := lwg_sel (q := (⟨"LevelTables$Level", "tableWith", "(I)I"⟩, 4)) (by decide +kernel) rfl
theorem kp_Ch_hasRow : Cond.selects R_Ch y_Ch_hasRow y_Ch_hasRow ∈ lwg := lwg_sel (q := (⟨"LevelTables$Chip", "hasRow", "(II)Z"⟩, 5)) (by decide +kernel) rfl
theorem kp_LT_writeNeeded : Cond.selects R_LT y_LT_writeNeeded y_LT_writeNeeded ∈ lwg := lwg_sel (q := (⟨"LevelTables", "writeNeeded", "(I)V"⟩, 16)) (by decide +kernel) rfl
theorem kp_Wk_takeNext : Cond.selects R_Wk y_Wk_takeNext y_Wk_takeNext ∈ lwg := lwg_sel (q := (⟨"LevelTables$Walk", "takeNext", "()Z"⟩, 8)) (by decide +kernel) rfl
theorem kp_LT_nextMoment : Cond.selects R_LT y_LT_nextMoment y_LT_nextMoment ∈ lwg := lwg_sel (q := (⟨"LevelTables", "nextMoment", "(LLevelTables$Version;I)I"⟩, 16)) (by decide +kernel) rfl
theorem kp_LT_hasSomething : Cond.selects R_LT y_LT_hasSomething y_LT_hasSomething ∈ lwg := lwg_sel (q := (⟨"LevelTables", "hasSomething", "(LLevelTables$Version;II)Z"⟩, 16)) (by decide +kernel) rfl
theorem kp_AL_add_3 : Cond.selects R_AL y_AL_add_3 y_AL_add_3 ∈ lwg := lwg_sel (q := (⟨"java/util/ArrayList", "add", "(Ljava/lang/Object;[Ljava/lang/Object;I)V"⟩, 3)) (by decide +kernel) rfl
theorem kp_AL_grow_0 : Cond.selects R_AL y_AL_grow_0 y_AL_grow_0 ∈ lwg := lwg_sel (q := (⟨"java/util/ArrayList", "grow", "()[Ljava/lang/Object;"⟩, 3)) (by decide +kernel) rfl
theorem kp_AL_grow_1 : Cond.selects R_AL y_AL_grow_1 y_AL_grow_1 ∈ lwg := lwg_sel (q := (⟨"java/util/ArrayList", "grow", "(I)[Ljava/lang/Object;"⟩, 3)) (by decide +kernel) rfl
theorem kp_Ch_erase : Cond.selects R_Ch y_Ch_erase y_Ch_erase ∈ lwg := lwg_sel (q := (⟨"LevelTables$Chip", "erase", "(I)V"⟩, 5)) (by decide +kernel) rfl
theorem kp_AL_fastRemove : Cond.selects R_AL y_AL_fastRemove y_AL_fastRemove ∈ lwg := lwg_sel (q := (⟨"java/util/ArrayList", "fastRemove", "([Ljava/lang/Object;I)V"⟩, 3)) (by decide +kernel) rfl
theorem kp_Lv_renumber : Cond.selects R_Lv y_Lv_renumber y_Lv_renumber ∈ lwg := lwg_sel (q := (⟨"LevelTables$Level", "renumber", "()V"⟩, 4)) (by decide +kernel) rfl
theorem kp_AL_rangeCheckForAdd : Cond.selects R_AL y_AL_rangeCheckForAdd y_AL_rangeCheckForAdd ∈ lwg := lwg_sel (q := (⟨"java/util/ArrayList", "rangeCheckForAdd", "(I)V"⟩, 3)) (by decide +kernel) rfl
theorem kp_LT_pushDown : Cond.selects R_LT y_LT_pushDown y_LT_pushDown ∈ lwg := lwg_sel (q := (⟨"LevelTables", "pushDown", "(I)V"⟩, 16)) (by decide +kernel) rfl
theorem kp_LT_mergeAll : Cond.selects R_LT y_LT_mergeAll y_LT_mergeAll ∈ lwg := lwg_sel (q := (⟨"LevelTables", "mergeAll", "()V"⟩, 16)) (by decide +kernel) rfl
theorem kp_LT_isSound : Cond.selects R_LT y_LT_isSound y_LT_isSound ∈ lwg := lwg_sel (q := (⟨"LevelTables", "isSound", "()Z"⟩, 16)) (by decide +kernel) rfl
theorem kp_Lv_isWhole : Cond.selects R_Lv y_Lv_isWhole y_Lv_isWhole ∈ lwg := lwg_sel (q := (⟨"LevelTables$Level", "isWhole", "(LLevelTables$Table;LLevelTables$Version;LLevelTables$Version;)Z"⟩, 4)) (by decide +kernel) rfl
theorem kp_LT_countLiving : Cond.selects R_LT y_LT_countLiving y_LT_countLiving ∈ lwg := lwg_sel (q := (⟨"LevelTables", "countLiving", "()I"⟩, 16)) (by decide +kernel) rfl
theorem kp_LT_addVersion : Cond.selects R_LT y_LT_addVersion y_LT_addVersion ∈ lwg := lwg_sel (q := (⟨"LevelTables", "addVersion", "(ZII)I"⟩, 16)) (by decide +kernel) rfl
theorem kp_LT_readTapeFor : Cond.selects R_LT y_LT_readTapeFor y_LT_readTapeFor ∈ lwg := lwg_sel (q := (⟨"LevelTables", "readTapeFor", "(I)I"⟩, 16)) (by decide +kernel) rfl
theorem kp_LT_show : Cond.selects R_LT y_LT_show y_LT_show ∈ lwg := lwg_sel (q := (⟨"LevelTables", "show", "(Z)I"⟩, 16)) (by decide +kernel) rfl
theorem kp_LT_reachSomething : Cond.selects R_LT y_LT_reachSomething y_LT_reachSomething ∈ lwg := lwg_sel (q := (⟨"LevelTables", "reachSomething", "(I)Z"⟩, 16)) (by decide +kernel) rfl
theorem kp_Ve_byteAt : Cond.selects R_Ve y_Ve_byteAt y_Ve_byteAt ∈ lwg := lwg_sel (q := (⟨"LevelTables$Version", "byteAt", "(I)J"⟩, 1)) (by decide +kernel) rfl
theorem kp_Mo_fail : Cond.selects R_Mo y_Mo_fail y_Mo_fail ∈ lwg := lwg_sel (q := (⟨"LevelTablesModel", "fail", "(I)I"⟩, 12)) (by decide +kernel) rfl
theorem kp_Mo_keyed : Cond.selects R_Mo y_Mo_keyed y_Mo_keyed ∈ lwg := lwg_sel (q := (⟨"LevelTablesModel", "keyed", "()Z"⟩, 12)) (by decide +kernel) rfl
theorem kp_Mo_enter : Cond.selects R_Mo y_Mo_enter y_Mo_enter ∈ lwg := lwg_sel (q := (⟨"LevelTablesModel", "enter", "(II)I"⟩, 12)) (by decide +kernel) rfl
theorem kp_Mo_compareTape : Cond.selects R_Mo y_Mo_compareTape y_Mo_compareTape ∈ lwg := lwg_sel (q := (⟨"LevelTablesModel", "compareTape", "(II)I"⟩, 12)) (by decide +kernel) rfl
theorem kp_Mo_compare : Cond.selects R_Mo y_Mo_compare y_Mo_compare ∈ lwg := lwg_sel (q := (⟨"LevelTablesModel", "compare", "(II)I"⟩, 12)) (by decide +kernel) rfl
theorem kp_Mo_stands : Cond.selects R_Mo y_Mo_stands y_Mo_stands ∈ lwg := lwg_sel (q := (⟨"LevelTablesModel", "stands", "(II)Z"⟩, 12)) (by decide +kernel) rfl
theorem kp_Mo_present : Cond.selects R_Mo y_Mo_present y_Mo_present ∈ lwg := lwg_sel (q := (⟨"LevelTablesModel", "present", "()I"⟩, 12)) (by decide +kernel) rfl
end
