/-! the words of the methods, the table of their names (written by wip/whole/gen.py) -/
def c_AL_add_1 : Cond := Cond.code ({ cls := "java/util/ArrayList", name := "add", desc := "(Ljava/lang/Object;)Z" } : MethodName) prog_33_method_25_code (2 : Nat) (Option.some FieldType.boolean)
theorem cw_AL_add_1 : j_cwd y_AL_add_1 c_AL_add_1 := ⟨k_521, k_12, _, _, _, by decide, Or.inl rfl⟩
def c_AL_add_2 : Cond := Cond.code ({ cls := "java/util/ArrayList", name := "add", desc := "(ILjava/lang/Object;)V" } : MethodName) prog_33_method_26_code (5 : Nat) (Option.none : Option Jvm.ClassFile.FieldType)
theorem cw_AL_add_2 : j_cwd y_AL_add_2 c_AL_add_2 := ⟨k_644, k_12, _, _, _, by decide, Or.inl rfl⟩
def c_AL_add_3 : Cond := Cond.code ({ cls := "java/util/ArrayList", name := "add", desc := "(Ljava/lang/Object;[Ljava/lang/Object;I)V" } : MethodName) prog_33_method_24_code (4 : Nat) (Option.none : Option Jvm.ClassFile.FieldType)
theorem cw_AL_add_3 : j_cwd y_AL_add_3 c_AL_add_3 := ⟨k_525, k_12, _, _, _, by decide, Or.inl rfl⟩
def c_AL_clear : Cond := Cond.code ({ cls := "java/util/ArrayList", name := "clear", desc := "()V" } : MethodName) prog_33_method_40_code (4 : Nat) (Option.none : Option Jvm.ClassFile.FieldType)
theorem cw_AL_clear : j_cwd y_AL_clear c_AL_clear := ⟨k_425, k_12, _, _, _, by decide, Or.inl rfl⟩
def c_AL_elementData : Cond := Cond.code ({ cls := "java/util/ArrayList", name := "elementData", desc := "(I)Ljava/lang/Object;" } : MethodName) prog_33_method_18_code (2 : Nat) (Option.some (FieldType.object "java/lang/Object"))
theorem cw_AL_elementData : j_cwd y_AL_elementData c_AL_elementData := ⟨k_362, k_12, _, _, _, by decide, Or.inl rfl⟩
def c_AL_fastRemove : Cond := Cond.code ({ cls := "java/util/ArrayList", name := "fastRemove", desc := "([Ljava/lang/Object;I)V" } : MethodName) prog_33_method_39_code (4 : Nat) (Option.none : Option Jvm.ClassFile.FieldType)
theorem cw_AL_fastRemove : j_cwd y_AL_fastRemove c_AL_fastRemove := ⟨k_619, k_12, _, _, _, by decide, Or.inl rfl⟩
def c_AL_get : Cond := Cond.code ({ cls := "java/util/ArrayList", name := "get", desc := "(I)Ljava/lang/Object;" } : MethodName) prog_33_method_20_code (2 : Nat) (Option.some (FieldType.object "java/lang/Object"))
theorem cw_AL_get : j_cwd y_AL_get c_AL_get := ⟨k_352, k_12, _, _, _, by decide, Or.inl rfl⟩
def c_AL_grow_0 : Cond := Cond.code ({ cls := "java/util/ArrayList", name := "grow", desc := "()[Ljava/lang/Object;" } : MethodName) prog_33_method_7_code (1 : Nat) (Option.some (FieldType.array (FieldType.object "java/lang/Object")))
theorem cw_AL_grow_0 : j_cwd y_AL_grow_0 c_AL_grow_0 := ⟨k_529, k_12, _, _, _, by decide, Or.inl rfl⟩
def c_AL_grow_1 : Cond := Cond.code ({ cls := "java/util/ArrayList", name := "grow", desc := "(I)[Ljava/lang/Object;" } : MethodName) prog_33_method_6_code (4 : Nat) (Option.some (FieldType.array (FieldType.object "java/lang/Object")))
theorem cw_AL_grow_1 : j_cwd y_AL_grow_1 c_AL_grow_1 := ⟨k_533, k_12, _, _, _, by decide, Or.inl rfl⟩
def c_AL_init : Cond := Cond.code ({ cls := "java/util/ArrayList", name := "<init>", desc := "()V" } : MethodName) prog_33_method_2_code (1 : Nat) (Option.none : Option Jvm.ClassFile.FieldType)
theorem cw_AL_init : j_cwd y_AL_init c_AL_init := ⟨k_143, k_12, _, _, _, by decide, Or.inl rfl⟩
def c_AL_rangeCheckForAdd : Cond := Cond.code ({ cls := "java/util/ArrayList", name := "rangeCheckForAdd", desc := "(I)V" } : MethodName) prog_33_method_45_code (2 : Nat) (Option.none : Option Jvm.ClassFile.FieldType)
theorem cw_AL_rangeCheckForAdd : j_cwd y_AL_rangeCheckForAdd c_AL_rangeCheckForAdd := ⟨k_648, k_12, _, _, _, by decide, Or.inl rfl⟩
def c_AL_remove : Cond := Cond.code ({ cls := "java/util/ArrayList", name := "remove", desc := "(I)Ljava/lang/Object;" } : MethodName) prog_33_method_29_code (4 : Nat) (Option.some (FieldType.object "java/lang/Object"))
theorem cw_AL_remove : j_cwd y_AL_remove c_AL_remove := ⟨k_615, k_12, _, _, _, by decide, Or.inl rfl⟩
def c_AL_size : Cond := Cond.code ({ cls := "java/util/ArrayList", name := "size", desc := "()I" } : MethodName) prog_33_method_8_code (1 : Nat) (Option.some FieldType.int)
theorem cw_AL_size : j_cwd y_AL_size c_AL_size := ⟨k_348, k_12, _, _, _, by decide, Or.inl rfl⟩
def c_Ac_init : Cond := Cond.code ({ cls := "java/util/AbstractCollection", name := "<init>", desc := "()V" } : MethodName) prog_31_method_1_code (1 : Nat) (Option.none : Option Jvm.ClassFile.FieldType)
theorem cw_Ac_init : j_cwd y_Ac_init c_Ac_init := ⟨k_149, k_10, _, _, _, by decide, Or.inl rfl⟩
def c_Al_init : Cond := Cond.code ({ cls := "java/util/AbstractList", name := "<init>", desc := "()V" } : MethodName) prog_32_method_1_code (1 : Nat) (Option.none : Option Jvm.ClassFile.FieldType)
theorem cw_Al_init : j_cwd y_Al_init c_Al_init := ⟨k_146, k_11, _, _, _, by decide, Or.inl rfl⟩
def c_Ar_copyOf_2aB : Cond := Cond.code ({ cls := "java/util/Arrays", name := "copyOf", desc := "([BI)[B" } : MethodName) prog_34_method_121_code (3 : Nat) (Option.some (FieldType.array FieldType.byte))
theorem cw_Ar_copyOf_2aB : j_cwd y_Ar_copyOf_2aB c_Ar_copyOf_2aB := ⟨k_750, k_4, _, _, _, by decide, Or.inl rfl⟩
def c_Ar_copyOf_2aI : Cond := Cond.code ({ cls := "java/util/Arrays", name := "copyOf", desc := "([II)[I" } : MethodName) prog_34_method_123_code (3 : Nat) (Option.some (FieldType.array FieldType.int))
theorem cw_Ar_copyOf_2aI : j_cwd y_Ar_copyOf_2aI c_Ar_copyOf_2aI := ⟨k_489, k_4, _, _, _, by decide, Or.inl rfl⟩
def c_Ar_copyOf_2aLj : Cond := Cond.code ({ cls := "java/util/Arrays", name := "copyOf", desc := "([Ljava/lang/Object;I)[Ljava/lang/Object;" } : MethodName) prog_34_method_119_code (2 : Nat) (Option.some (FieldType.array (FieldType.object "java/lang/Object")))
theorem cw_Ar_copyOf_2aLj : j_cwd y_Ar_copyOf_2aLj c_Ar_copyOf_2aLj := ⟨k_546, k_4, _, _, _, by decide, Or.inl rfl⟩
def c_Ar_copyOf_3 : Cond := Cond.code ({ cls := "java/util/Arrays", name := "copyOf", desc := "([Ljava/lang/Object;ILjava/lang/Class;)[Ljava/lang/Object;" } : MethodName) prog_34_method_120_code (4 : Nat) (Option.some (FieldType.array (FieldType.object "java/lang/Object")))
theorem cw_Ar_copyOf_3 : j_cwd y_Ar_copyOf_3 c_Ar_copyOf_3 := ⟨k_571, k_4, _, _, _, by decide, Or.inl rfl⟩
def c_Ar_fill_2aI : Cond := Cond.code ({ cls := "java/util/Arrays", name := "fill", desc := "([II)V" } : MethodName) prog_34_method_103_code (4 : Nat) (Option.none : Option Jvm.ClassFile.FieldType)
theorem cw_Ar_fill_2aI : j_cwd y_Ar_fill_2aI c_Ar_fill_2aI := ⟨k_65, k_4, _, _, _, by decide, Or.inl rfl⟩
def c_Ar_fill_2aJ : Cond := Cond.code ({ cls := "java/util/Arrays", name := "fill", desc := "([JJ)V" } : MethodName) prog_34_method_101_code (5 : Nat) (Option.none : Option Jvm.ClassFile.FieldType)
theorem cw_Ar_fill_2aJ : j_cwd y_Ar_fill_2aJ c_Ar_fill_2aJ := ⟨k_588, k_4, _, _, _, by decide, Or.inl rfl⟩
def c_As_hugeLength : Cond := Cond.code ({ cls := "jdk/internal/util/ArraysSupport", name := "hugeLength", desc := "(II)I" } : MethodName) prog_41_method_28_code (3 : Nat) (Option.some FieldType.int)
theorem cw_As_hugeLength : j_cwd y_As_hugeLength c_As_hugeLength := ⟨k_543, k_28, _, _, _, by decide, Or.inl rfl⟩
def c_As_newLength : Cond := Cond.code ({ cls := "jdk/internal/util/ArraysSupport", name := "newLength", desc := "(III)I" } : MethodName) prog_41_method_27_code (4 : Nat) (Option.some FieldType.int)
theorem cw_As_newLength : j_cwd y_As_newLength c_As_newLength := ⟨k_536, k_28, _, _, _, by decide, Or.inl rfl⟩
def c_Ch_erase : Cond := Cond.code ({ cls := "LevelTables$Chip", name := "erase", desc := "(I)V" } : MethodName) prog_2_method_4_code (2 : Nat) (Option.none : Option Jvm.ClassFile.FieldType)
theorem cw_Ch_erase : j_cwd y_Ch_erase c_Ch_erase := ⟨k_584, k_5, _, _, _, by decide, Or.inl rfl⟩
def c_Ch_forgetUses : Cond := Cond.code ({ cls := "LevelTables$Chip", name := "forgetUses", desc := "()V" } : MethodName) prog_2_method_9_code (1 : Nat) (Option.none : Option Jvm.ClassFile.FieldType)
theorem cw_Ch_forgetUses : j_cwd y_Ch_forgetUses c_Ch_forgetUses := ⟨k_997, k_5, _, _, _, by decide, Or.inl rfl⟩
def c_Ch_hasRow : Cond := Cond.code ({ cls := "LevelTables$Chip", name := "hasRow", desc := "(II)Z" } : MethodName) prog_2_method_8_code (3 : Nat) (Option.some FieldType.boolean)
theorem cw_Ch_hasRow : j_cwd y_Ch_hasRow c_Ch_hasRow := ⟨k_379, k_5, _, _, _, by decide, Or.inl rfl⟩
def c_Ch_init : Cond := Cond.code ({ cls := "LevelTables$Chip", name := "<init>", desc := "()V" } : MethodName) prog_2_method_1_code (1 : Nat) (Option.none : Option Jvm.ClassFile.FieldType)
theorem cw_Ch_init : j_cwd y_Ch_init c_Ch_init := ⟨k_78, k_5, _, _, _, by decide, Or.inl rfl⟩
def c_Ch_isMisused : Cond := Cond.code ({ cls := "LevelTables$Chip", name := "isMisused", desc := "()Z" } : MethodName) prog_2_method_2_code (1 : Nat) (Option.some FieldType.boolean)
theorem cw_Ch_isMisused : j_cwd y_Ch_isMisused c_Ch_isMisused := ⟨k_1027, k_5, _, _, _, by decide, Or.inl rfl⟩
def c_Ch_read : Cond := Cond.code ({ cls := "LevelTables$Chip", name := "read", desc := "(IILLevelTables$Version;)V" } : MethodName) prog_2_method_7_code (4 : Nat) (Option.none : Option Jvm.ClassFile.FieldType)
theorem cw_Ch_read : j_cwd y_Ch_read c_Ch_read := ⟨k_375, k_5, _, _, _, by decide, Or.inl rfl⟩
def c_Ch_release : Cond := Cond.code ({ cls := "LevelTables$Chip", name := "release", desc := "(I)V" } : MethodName) prog_2_method_5_code (2 : Nat) (Option.none : Option Jvm.ClassFile.FieldType)
theorem cw_Ch_release : j_cwd y_Ch_release c_Ch_release := ⟨k_611, k_5, _, _, _, by decide, Or.inl rfl⟩
def c_Ch_take : Cond := Cond.code ({ cls := "LevelTables$Chip", name := "take", desc := "()I" } : MethodName) prog_2_method_3_code (2 : Nat) (Option.some FieldType.int)
theorem cw_Ch_take : j_cwd y_Ch_take c_Ch_take := ⟨k_580, k_5, _, _, _, by decide, Or.inl rfl⟩
def c_Ch_use : Cond := Cond.code ({ cls := "LevelTables$Chip", name := "use", desc := "(I)Z" } : MethodName) prog_2_method_10_code (2 : Nat) (Option.some FieldType.boolean)
theorem cw_Ch_use : j_cwd y_Ch_use c_Ch_use := ⟨k_1010, k_5, _, _, _, by decide, Or.inl rfl⟩
def c_Ch_write : Cond := Cond.code ({ cls := "LevelTables$Chip", name := "write", desc := "(IILLevelTables$Version;)V" } : MethodName) prog_2_method_6_code (4 : Nat) (Option.none : Option Jvm.ClassFile.FieldType)
theorem cw_Ch_write : j_cwd y_Ch_write c_Ch_write := ⟨k_592, k_5, _, _, _, by decide, Or.inl rfl⟩
def c_LT_addVersion : Cond := Cond.code ({ cls := "LevelTables", name := "addVersion", desc := "(ZII)I" } : MethodName) prog_1_method_16_code (5 : Nat) (Option.some FieldType.int)
theorem cw_LT_addVersion : j_cwd y_LT_addVersion c_LT_addVersion := ⟨k_1100, k_1, _, _, _, by decide, Or.inl rfl⟩
def c_LT_check : Cond := Cond.code ({ cls := "LevelTables", name := "check", desc := "()I" } : MethodName) prog_1_method_14_code (1 : Nat) (Option.some FieldType.int)
theorem cw_LT_check : j_cwd y_LT_check c_LT_check := ⟨k_989, k_1, _, _, _, by decide, Or.inl rfl⟩
def c_LT_close : Cond := Cond.code ({ cls := "LevelTables", name := "close", desc := "(I)I" } : MethodName) prog_1_method_7_code (3 : Nat) (Option.some FieldType.int)
theorem cw_LT_close : j_cwd y_LT_close c_LT_close := ⟨k_1166, k_1, _, _, _, by decide, Or.inl rfl⟩
def c_LT_countLiving : Cond := Cond.code ({ cls := "LevelTables", name := "countLiving", desc := "()I" } : MethodName) prog_1_method_26_code (3 : Nat) (Option.some FieldType.int)
theorem cw_LT_countLiving : j_cwd y_LT_countLiving c_LT_countLiving := ⟨k_1031, k_1, _, _, _, by decide, Or.inl rfl⟩
def c_LT_current : Cond := Cond.code ({ cls := "LevelTables", name := "current", desc := "(I)I" } : MethodName) prog_1_method_10_code (2 : Nat) (Option.some FieldType.int)
theorem cw_LT_current : j_cwd y_LT_current c_LT_current := ⟨k_1224, k_1, _, _, _, by decide, Or.inl rfl⟩
def c_LT_end : Cond := Cond.code ({ cls := "LevelTables", name := "end", desc := "(I)I" } : MethodName) prog_1_method_3_code (2 : Nat) (Option.some FieldType.int)
theorem cw_LT_end : j_cwd y_LT_end c_LT_end := ⟨k_1075, k_1, _, _, _, by decide, Or.inl rfl⟩
def c_LT_feed : Cond := Cond.code ({ cls := "LevelTables", name := "feed", desc := "(IIIII)I" } : MethodName) prog_1_method_2_code (6 : Nat) (Option.some FieldType.int)
theorem cw_LT_feed : j_cwd y_LT_feed c_LT_feed := ⟨k_1048, k_1, _, _, _, by decide, Or.inl rfl⟩
def c_LT_find : Cond := Cond.code ({ cls := "LevelTables", name := "find", desc := "(I)I" } : MethodName) prog_1_method_8_code (3 : Nat) (Option.some FieldType.int)
theorem cw_LT_find : j_cwd y_LT_find c_LT_find := ⟨k_1178, k_1, _, _, _, by decide, Or.inl rfl⟩
def c_LT_flush : Cond := Cond.code ({ cls := "LevelTables", name := "flush", desc := "()I" } : MethodName) prog_1_method_12_code (3 : Nat) (Option.some FieldType.int)
theorem cw_LT_flush : j_cwd y_LT_flush c_LT_flush := ⟨k_286, k_1, _, _, _, by decide, Or.inl rfl⟩
def c_LT_hasSomething : Cond := Cond.code ({ cls := "LevelTables", name := "hasSomething", desc := "(LLevelTables$Version;II)Z" } : MethodName) prog_1_method_17_code (6 : Nat) (Option.some FieldType.boolean)
theorem cw_LT_hasSomething : j_cwd y_LT_hasSomething c_LT_hasSomething := ⟨k_472, k_1, _, _, _, by decide, Or.inl rfl⟩
def c_LT_init : Cond := Cond.code ({ cls := "LevelTables", name := "<init>", desc := "()V" } : MethodName) prog_1_method_1_code (2 : Nat) (Option.none : Option Jvm.ClassFile.FieldType)
theorem cw_LT_init : j_cwd y_LT_init c_LT_init := ⟨k_39, k_1, _, _, _, by decide, Or.inl rfl⟩
def c_LT_isSound : Cond := Cond.code ({ cls := "LevelTables", name := "isSound", desc := "()Z" } : MethodName) prog_1_method_25_code (2 : Nat) (Option.some FieldType.boolean)
theorem cw_LT_isSound : j_cwd y_LT_isSound c_LT_isSound := ⟨k_993, k_1, _, _, _, by decide, Or.inl rfl⟩
def c_LT_merge : Cond := Cond.code ({ cls := "LevelTables", name := "merge", desc := "(Z)I" } : MethodName) prog_1_method_13_code (3 : Nat) (Option.some FieldType.int)
theorem cw_LT_merge : j_cwd y_LT_merge c_LT_merge := ⟨k_980, k_1, _, _, _, by decide, Or.inl rfl⟩
def c_LT_mergeAll : Cond := Cond.code ({ cls := "LevelTables", name := "mergeAll", desc := "()V" } : MethodName) prog_1_method_22_code (2 : Nat) (Option.none : Option Jvm.ClassFile.FieldType)
theorem cw_LT_mergeAll : j_cwd y_LT_mergeAll c_LT_mergeAll := ⟨k_984, k_1, _, _, _, by decide, Or.inl rfl⟩
def c_LT_nextMoment : Cond := Cond.code ({ cls := "LevelTables", name := "nextMoment", desc := "(LLevelTables$Version;I)I" } : MethodName) prog_1_method_24_code (5 : Nat) (Option.some FieldType.int)
theorem cw_LT_nextMoment : j_cwd y_LT_nextMoment c_LT_nextMoment := ⟨k_457, k_1, _, _, _, by decide, Or.inl rfl⟩
def c_LT_open : Cond := Cond.code ({ cls := "LevelTables", name := "open", desc := "(I)I" } : MethodName) prog_1_method_6_code (2 : Nat) (Option.some FieldType.int)
theorem cw_LT_open : j_cwd y_LT_open c_LT_open := ⟨k_1151, k_1, _, _, _, by decide, Or.inl rfl⟩
def c_LT_out : Cond := Cond.code ({ cls := "LevelTables", name := "out", desc := "()I" } : MethodName) prog_1_method_5_code (1 : Nat) (Option.some FieldType.int)
theorem cw_LT_out : j_cwd y_LT_out c_LT_out := ⟨k_1144, k_1, _, _, _, by decide, Or.inl rfl⟩
def c_LT_pushDown : Cond := Cond.code ({ cls := "LevelTables", name := "pushDown", desc := "(I)V" } : MethodName) prog_1_method_21_code (7 : Nat) (Option.none : Option Jvm.ClassFile.FieldType)
theorem cw_LT_pushDown : j_cwd y_LT_pushDown c_LT_pushDown := ⟨k_975, k_1, _, _, _, by decide, Or.inl rfl⟩
def c_LT_put : Cond := Cond.code ({ cls := "LevelTables", name := "put", desc := "(II)I" } : MethodName) prog_1_method_4_code (3 : Nat) (Option.some FieldType.int)
theorem cw_LT_put : j_cwd y_LT_put c_LT_put := ⟨k_1092, k_1, _, _, _, by decide, Or.inl rfl⟩
def c_LT_reachSomething : Cond := Cond.code ({ cls := "LevelTables", name := "reachSomething", desc := "(I)Z" } : MethodName) prog_1_method_18_code (3 : Nat) (Option.some FieldType.boolean)
theorem cw_LT_reachSomething : j_cwd y_LT_reachSomething c_LT_reachSomething := ⟨k_1217, k_1, _, _, _, by decide, Or.inl rfl⟩
def c_LT_readTapeFor : Cond := Cond.code ({ cls := "LevelTables", name := "readTapeFor", desc := "(I)I" } : MethodName) prog_1_method_15_code (3 : Nat) (Option.some FieldType.int)
theorem cw_LT_readTapeFor : j_cwd y_LT_readTapeFor c_LT_readTapeFor := ⟨k_1182, k_1, _, _, _, by decide, Or.inl rfl⟩
def c_LT_seek : Cond := Cond.code ({ cls := "LevelTables", name := "seek", desc := "(IZ)I" } : MethodName) prog_1_method_9_code (4 : Nat) (Option.some FieldType.int)
theorem cw_LT_seek : j_cwd y_LT_seek c_LT_seek := ⟨k_1213, k_1, _, _, _, by decide, Or.inl rfl⟩
def c_LT_show : Cond := Cond.code ({ cls := "LevelTables", name := "show", desc := "(Z)I" } : MethodName) prog_1_method_19_code (2 : Nat) (Option.some FieldType.int)
theorem cw_LT_show : j_cwd y_LT_show c_LT_show := ⟨k_1186, k_1, _, _, _, by decide, Or.inl rfl⟩
def c_LT_word : Cond := Cond.code ({ cls := "LevelTables", name := "word", desc := "(I)J" } : MethodName) prog_1_method_11_code (2 : Nat) (Option.some FieldType.long)
theorem cw_LT_word : j_cwd y_LT_word c_LT_word := ⟨k_1236, k_1, _, _, _, by decide, Or.inl rfl⟩
def c_LT_writeNeeded : Cond := Cond.code ({ cls := "LevelTables", name := "writeNeeded", desc := "(I)V" } : MethodName) prog_1_method_23_code (8 : Nat) (Option.none : Option Jvm.ClassFile.FieldType)
theorem cw_LT_writeNeeded : j_cwd y_LT_writeNeeded c_LT_writeNeeded := ⟨k_417, k_1, _, _, _, by decide, Or.inl rfl⟩
def c_LT_writeOut : Cond := Cond.code ({ cls := "LevelTables", name := "writeOut", desc := "()V" } : MethodName) prog_1_method_20_code (4 : Nat) (Option.none : Option Jvm.ClassFile.FieldType)
theorem cw_LT_writeOut : j_cwd y_LT_writeOut c_LT_writeOut := ⟨k_294, k_1, _, _, _, by decide, Or.inl rfl⟩
def c_La_close : Cond := Cond.codeWith ({ cls := "LevelTablesLaw", name := "close", desc := "(LLevelTables;I[J)I" } : MethodName) method_8_code (4 : Nat) (Option.some FieldType.int) [((0 : Nat), (9 : Nat), (12 : Nat), (19 : Nat)), ((0 : Nat), (9 : Nat), (15 : Nat), (25 : Nat))]
theorem cw_La_close : j_cwd y_La_close c_La_close := ⟨k_1162, k_0, _, _, _, by decide, Or.inr ⟨_, rfl⟩⟩
def c_La_current : Cond := Cond.codeWith ({ cls := "LevelTablesLaw", name := "current", desc := "(LLevelTables;I[J)I" } : MethodName) method_11_code (4 : Nat) (Option.some FieldType.int) [((0 : Nat), (9 : Nat), (12 : Nat), (19 : Nat)), ((0 : Nat), (9 : Nat), (15 : Nat), (40 : Nat))]
theorem cw_La_current : j_cwd y_La_current c_La_current := ⟨k_1220, k_0, _, _, _, by decide, Or.inr ⟨_, rfl⟩⟩
def c_La_end : Cond := Cond.codeWith ({ cls := "LevelTablesLaw", name := "end", desc := "(LLevelTables;I[J)I" } : MethodName) method_4_code (4 : Nat) (Option.some FieldType.int) [((0 : Nat), (9 : Nat), (12 : Nat), (19 : Nat))]
theorem cw_La_end : j_cwd y_La_end c_La_end := ⟨k_1070, k_0, _, _, _, by decide, Or.inr ⟨_, rfl⟩⟩
def c_La_feed : Cond := Cond.codeWith ({ cls := "LevelTablesLaw", name := "feed", desc := "(LLevelTables;IIIII[J)I" } : MethodName) method_3_code (8 : Nat) (Option.some FieldType.int) [((0 : Nat), (16 : Nat), (19 : Nat), (13 : Nat))]
theorem cw_La_feed : j_cwd y_La_feed c_La_feed := ⟨k_1043, k_0, _, _, _, by decide, Or.inr ⟨_, rfl⟩⟩
def c_La_find : Cond := Cond.codeWith ({ cls := "LevelTablesLaw", name := "find", desc := "(LLevelTables;I[J)I" } : MethodName) method_9_code (4 : Nat) (Option.some FieldType.int) [((0 : Nat), (9 : Nat), (12 : Nat), (19 : Nat)), ((0 : Nat), (9 : Nat), (15 : Nat), (25 : Nat)), ((0 : Nat), (9 : Nat), (18 : Nat), (40 : Nat))]
theorem cw_La_find : j_cwd y_La_find c_La_find := ⟨k_1173, k_0, _, _, _, by decide, Or.inr ⟨_, rfl⟩⟩
def c_La_open : Cond := Cond.codeWith ({ cls := "LevelTablesLaw", name := "open", desc := "(LLevelTables;I[J)I" } : MethodName) method_7_code (4 : Nat) (Option.some FieldType.int) [((0 : Nat), (9 : Nat), (12 : Nat), (19 : Nat)), ((0 : Nat), (9 : Nat), (15 : Nat), (25 : Nat))]
theorem cw_La_open : j_cwd y_La_open c_La_open := ⟨k_1147, k_0, _, _, _, by decide, Or.inr ⟨_, rfl⟩⟩
def c_La_out : Cond := Cond.codeWith ({ cls := "LevelTablesLaw", name := "out", desc := "(LLevelTables;[J)I" } : MethodName) method_6_code (3 : Nat) (Option.some FieldType.int) [((0 : Nat), (8 : Nat), (11 : Nat), (19 : Nat)), ((0 : Nat), (8 : Nat), (14 : Nat), (25 : Nat))]
theorem cw_La_out : j_cwd y_La_out c_La_out := ⟨k_1140, k_0, _, _, _, by decide, Or.inr ⟨_, rfl⟩⟩
def c_La_put : Cond := Cond.codeWith ({ cls := "LevelTablesLaw", name := "put", desc := "(LLevelTables;II[J)I" } : MethodName) method_5_code (5 : Nat) (Option.some FieldType.int) [((0 : Nat), (10 : Nat), (13 : Nat), (19 : Nat)), ((0 : Nat), (10 : Nat), (17 : Nat), (25 : Nat))]
theorem cw_La_put : j_cwd y_La_put c_La_put := ⟨k_1087, k_0, _, _, _, by decide, Or.inr ⟨_, rfl⟩⟩
def c_La_seek : Cond := Cond.codeWith ({ cls := "LevelTablesLaw", name := "seek", desc := "(LLevelTables;IZ[J)I" } : MethodName) method_10_code (5 : Nat) (Option.some FieldType.int) [((0 : Nat), (10 : Nat), (13 : Nat), (19 : Nat)), ((0 : Nat), (10 : Nat), (17 : Nat), (25 : Nat)), ((0 : Nat), (10 : Nat), (21 : Nat), (40 : Nat))]
theorem cw_La_seek : j_cwd y_La_seek c_La_seek := ⟨k_1209, k_0, _, _, _, by decide, Or.inr ⟨_, rfl⟩⟩
def c_La_word : Cond := Cond.codeWith ({ cls := "LevelTablesLaw", name := "word", desc := "(LLevelTables;I[J)I" } : MethodName) method_12_code (4 : Nat) (Option.some FieldType.int) [((0 : Nat), (8 : Nat), (11 : Nat), (40 : Nat)), ((0 : Nat), (8 : Nat), (14 : Nat), (13 : Nat))]
theorem cw_La_word : j_cwd y_La_word c_La_word := ⟨k_1232, k_0, _, _, _, by decide, Or.inr ⟨_, rfl⟩⟩
def c_Lv_count : Cond := Cond.code ({ cls := "LevelTables$Level", name := "count", desc := "()I" } : MethodName) prog_3_method_2_code (1 : Nat) (Option.some FieldType.int)
theorem cw_Lv_count : j_cwd y_Lv_count c_Lv_count := ⟨k_333, k_9, _, _, _, by decide, Or.inl rfl⟩
def c_Lv_firstTableBeyond : Cond := Cond.code ({ cls := "LevelTables$Level", name := "firstTableBeyond", desc := "(LLevelTables$Version;)I" } : MethodName) prog_3_method_8_code (3 : Nat) (Option.some FieldType.int)
theorem cw_Lv_firstTableBeyond : j_cwd y_Lv_firstTableBeyond c_Lv_firstTableBeyond := ⟨k_399, k_9, _, _, _, by decide, Or.inl rfl⟩
def c_Lv_firstTableReaching : Cond := Cond.code ({ cls := "LevelTables$Level", name := "firstTableReaching", desc := "(LLevelTables$Version;)I" } : MethodName) prog_3_method_7_code (2 : Nat) (Option.some FieldType.int)
theorem cw_Lv_firstTableReaching : j_cwd y_Lv_firstTableReaching c_Lv_firstTableReaching := ⟨k_309, k_9, _, _, _, by decide, Or.inl rfl⟩
def c_Lv_init : Cond := Cond.code ({ cls := "LevelTables$Level", name := "<init>", desc := "(LLevelTables$Chip;)V" } : MethodName) prog_3_method_1_code (2 : Nat) (Option.none : Option Jvm.ClassFile.FieldType)
theorem cw_Lv_init : j_cwd y_Lv_init c_Lv_init := ⟨k_137, k_9, _, _, _, by decide, Or.inl rfl⟩
def c_Lv_insert : Cond := Cond.code ({ cls := "LevelTables$Level", name := "insert", desc := "(ILjava/util/ArrayList;)V" } : MethodName) prog_3_method_10_code (4 : Nat) (Option.none : Option Jvm.ClassFile.FieldType)
theorem cw_Lv_insert : j_cwd y_Lv_insert c_Lv_insert := ⟨k_640, k_9, _, _, _, by decide, Or.inl rfl⟩
def c_Lv_isSound : Cond := Cond.code ({ cls := "LevelTables$Level", name := "isSound", desc := "(LLevelTables$Version;LLevelTables$Version;)Z" } : MethodName) prog_3_method_12_code (5 : Nat) (Option.some FieldType.boolean)
theorem cw_Lv_isSound : j_cwd y_Lv_isSound c_Lv_isSound := ⟨k_1002, k_9, _, _, _, by decide, Or.inl rfl⟩
def c_Lv_isWhole : Cond := Cond.code ({ cls := "LevelTables$Level", name := "isWhole", desc := "(LLevelTables$Table;LLevelTables$Version;LLevelTables$Version;)Z" } : MethodName) prog_3_method_13_code (7 : Nat) (Option.some FieldType.boolean)
theorem cw_Lv_isWhole : j_cwd y_Lv_isWhole c_Lv_isWhole := ⟨k_1016, k_9, _, _, _, by decide, Or.inl rfl⟩
def c_Lv_load : Cond := Cond.code ({ cls := "LevelTables$Level", name := "load", desc := "(ILLevelTables$Version;)V" } : MethodName) prog_3_method_3_code (6 : Nat) (Option.none : Option Jvm.ClassFile.FieldType)
theorem cw_Lv_load : j_cwd y_Lv_load c_Lv_load := ⟨k_340, k_9, _, _, _, by decide, Or.inl rfl⟩
def c_Lv_remove : Cond := Cond.code ({ cls := "LevelTables$Level", name := "remove", desc := "(II)V" } : MethodName) prog_3_method_9_code (4 : Nat) (Option.none : Option Jvm.ClassFile.FieldType)
theorem cw_Lv_remove : j_cwd y_Lv_remove c_Lv_remove := ⟨k_602, k_9, _, _, _, by decide, Or.inl rfl⟩
def c_Lv_renumber : Cond := Cond.code ({ cls := "LevelTables$Level", name := "renumber", desc := "()V" } : MethodName) prog_3_method_11_code (2 : Nat) (Option.none : Option Jvm.ClassFile.FieldType)
theorem cw_Lv_renumber : j_cwd y_Lv_renumber c_Lv_renumber := ⟨k_624, k_9, _, _, _, by decide, Or.inl rfl⟩
def c_Lv_startOf : Cond := Cond.code ({ cls := "LevelTables$Level", name := "startOf", desc := "(I)I" } : MethodName) prog_3_method_5_code (2 : Nat) (Option.some FieldType.int)
theorem cw_Lv_startOf : j_cwd y_Lv_startOf c_Lv_startOf := ⟨k_413, k_9, _, _, _, by decide, Or.inl rfl⟩
def c_Lv_tableCount : Cond := Cond.code ({ cls := "LevelTables$Level", name := "tableCount", desc := "()I" } : MethodName) prog_3_method_4_code (1 : Nat) (Option.some FieldType.int)
theorem cw_Lv_tableCount : j_cwd y_Lv_tableCount c_Lv_tableCount := ⟨k_969, k_9, _, _, _, by decide, Or.inl rfl⟩
def c_Lv_tableWith : Cond := Cond.code ({ cls := "LevelTables$Level", name := "tableWith", desc := "(I)I" } : MethodName) prog_3_method_6_code (5 : Nat) (Option.some FieldType.int)
theorem cw_Lv_tableWith : j_cwd y_Lv_tableWith c_Lv_tableWith := ⟨k_344, k_9, _, _, _, by decide, Or.inl rfl⟩
def c_Me_clear : Cond := Cond.code ({ cls := "LevelTables$Memory", name := "clear", desc := "()V" } : MethodName) prog_4_method_5_code (1 : Nat) (Option.none : Option Jvm.ClassFile.FieldType)
theorem cw_Me_clear : j_cwd y_Me_clear c_Me_clear := ⟨k_965, k_7, _, _, _, by decide, Or.inl rfl⟩
def c_Me_count : Cond := Cond.code ({ cls := "LevelTables$Memory", name := "count", desc := "()I" } : MethodName) prog_4_method_2_code (1 : Nat) (Option.some FieldType.int)
theorem cw_Me_count : j_cwd y_Me_count c_Me_count := ⟨k_290, k_7, _, _, _, by decide, Or.inl rfl⟩
def c_Me_init : Cond := Cond.code ({ cls := "LevelTables$Memory", name := "<init>", desc := "()V" } : MethodName) prog_4_method_1_code (1 : Nat) (Option.none : Option Jvm.ClassFile.FieldType)
theorem cw_Me_init : j_cwd y_Me_init c_Me_init := ⟨k_102, k_7, _, _, _, by decide, Or.inl rfl⟩
def c_Me_insert : Cond := Cond.code ({ cls := "LevelTables$Memory", name := "insert", desc := "(LLevelTables$Version;)V" } : MethodName) prog_4_method_4_code (3 : Nat) (Option.none : Option Jvm.ClassFile.FieldType)
theorem cw_Me_insert : j_cwd y_Me_insert c_Me_insert := ⟨k_1134, k_7, _, _, _, by decide, Or.inl rfl⟩
def c_Me_load : Cond := Cond.code ({ cls := "LevelTables$Memory", name := "load", desc := "(ILLevelTables$Version;)V" } : MethodName) prog_4_method_3_code (3 : Nat) (Option.none : Option Jvm.ClassFile.FieldType)
theorem cw_Me_load : j_cwd y_Me_load c_Me_load := ⟨k_298, k_7, _, _, _, by decide, Or.inl rfl⟩
def c_Mo_check : Cond := Cond.code ({ cls := "LevelTablesModel", name := "check", desc := "()I" } : MethodName) prog_13_method_22_code (1 : Nat) (Option.some FieldType.int)
theorem cw_Mo_check : j_cwd y_Mo_check c_Mo_check := ⟨k_1373, k_15, _, _, _, by decide, Or.inl rfl⟩
def c_Mo_close : Cond := Cond.code ({ cls := "LevelTablesModel", name := "close", desc := "(I)I" } : MethodName) prog_13_method_11_code (2 : Nat) (Option.some FieldType.int)
theorem cw_Mo_close : j_cwd y_Mo_close c_Mo_close := ⟨k_1332, k_15, _, _, _, by decide, Or.inl rfl⟩
def c_Mo_compare : Cond := Cond.code ({ cls := "LevelTablesModel", name := "compare", desc := "(II)I" } : MethodName) prog_13_method_12_code (5 : Nat) (Option.some FieldType.int)
theorem cw_Mo_compare : j_cwd y_Mo_compare c_Mo_compare := ⟨k_1344, k_15, _, _, _, by decide, Or.inl rfl⟩
def c_Mo_compareTape : Cond := Cond.code ({ cls := "LevelTablesModel", name := "compareTape", desc := "(II)I" } : MethodName) prog_13_method_13_code (5 : Nat) (Option.some FieldType.int)
theorem cw_Mo_compareTape : j_cwd y_Mo_compareTape c_Mo_compareTape := ⟨k_1320, k_15, _, _, _, by decide, Or.inl rfl⟩
def c_Mo_current : Cond := Cond.code ({ cls := "LevelTablesModel", name := "current", desc := "(I)I" } : MethodName) prog_13_method_17_code (2 : Nat) (Option.some FieldType.int)
theorem cw_Mo_current : j_cwd y_Mo_current c_Mo_current := ⟨k_1352, k_15, _, _, _, by decide, Or.inl rfl⟩
def c_Mo_end : Cond := Cond.code ({ cls := "LevelTablesModel", name := "end", desc := "(I)I" } : MethodName) prog_13_method_5_code (2 : Nat) (Option.some FieldType.int)
theorem cw_Mo_end : j_cwd y_Mo_end c_Mo_end := ⟨k_1304, k_15, _, _, _, by decide, Or.inl rfl⟩
def c_Mo_enter : Cond := Cond.code ({ cls := "LevelTablesModel", name := "enter", desc := "(II)I" } : MethodName) prog_13_method_7_code (6 : Nat) (Option.some FieldType.int)
theorem cw_Mo_enter : j_cwd y_Mo_enter c_Mo_enter := ⟨k_1316, k_15, _, _, _, by decide, Or.inl rfl⟩
def c_Mo_fail : Cond := Cond.code ({ cls := "LevelTablesModel", name := "fail", desc := "(I)I" } : MethodName) prog_13_method_3_code (2 : Nat) (Option.some FieldType.int)
theorem cw_Mo_fail : j_cwd y_Mo_fail c_Mo_fail := ⟨k_1300, k_15, _, _, _, by decide, Or.inl rfl⟩
def c_Mo_feed : Cond := Cond.code ({ cls := "LevelTablesModel", name := "feed", desc := "(IIIII)I" } : MethodName) prog_13_method_4_code (8 : Nat) (Option.some FieldType.int)
theorem cw_Mo_feed : j_cwd y_Mo_feed c_Mo_feed := ⟨k_1296, k_15, _, _, _, by decide, Or.inl rfl⟩
def c_Mo_find : Cond := Cond.code ({ cls := "LevelTablesModel", name := "find", desc := "(I)I" } : MethodName) prog_13_method_15_code (5 : Nat) (Option.some FieldType.int)
theorem cw_Mo_find : j_cwd y_Mo_find c_Mo_find := ⟨k_1336, k_15, _, _, _, by decide, Or.inl rfl⟩
def c_Mo_flush : Cond := Cond.code ({ cls := "LevelTablesModel", name := "flush", desc := "()I" } : MethodName) prog_13_method_20_code (1 : Nat) (Option.some FieldType.int)
theorem cw_Mo_flush : j_cwd y_Mo_flush c_Mo_flush := ⟨k_1361, k_15, _, _, _, by decide, Or.inl rfl⟩
def c_Mo_init : Cond := Cond.code ({ cls := "LevelTablesModel", name := "<init>", desc := "()V" } : MethodName) prog_13_method_1_code (1 : Nat) (Option.none : Option Jvm.ClassFile.FieldType)
theorem cw_Mo_init : j_cwd y_Mo_init c_Mo_init := ⟨k_1249, k_15, _, _, _, by decide, Or.inl rfl⟩
def c_Mo_keyed : Cond := Cond.code ({ cls := "LevelTablesModel", name := "keyed", desc := "()Z" } : MethodName) prog_13_method_6_code (1 : Nat) (Option.some FieldType.boolean)
theorem cw_Mo_keyed : j_cwd y_Mo_keyed c_Mo_keyed := ⟨k_1312, k_15, _, _, _, by decide, Or.inl rfl⟩
def c_Mo_merge : Cond := Cond.code ({ cls := "LevelTablesModel", name := "merge", desc := "(Z)I" } : MethodName) prog_13_method_21_code (2 : Nat) (Option.some FieldType.int)
theorem cw_Mo_merge : j_cwd y_Mo_merge c_Mo_merge := ⟨k_1369, k_15, _, _, _, by decide, Or.inl rfl⟩
def c_Mo_open : Cond := Cond.code ({ cls := "LevelTablesModel", name := "open", desc := "(I)I" } : MethodName) prog_13_method_10_code (2 : Nat) (Option.some FieldType.int)
theorem cw_Mo_open : j_cwd y_Mo_open c_Mo_open := ⟨k_1328, k_15, _, _, _, by decide, Or.inl rfl⟩
def c_Mo_out : Cond := Cond.code ({ cls := "LevelTablesModel", name := "out", desc := "()I" } : MethodName) prog_13_method_9_code (1 : Nat) (Option.some FieldType.int)
theorem cw_Mo_out : j_cwd y_Mo_out c_Mo_out := ⟨k_1324, k_15, _, _, _, by decide, Or.inl rfl⟩
def c_Mo_present : Cond := Cond.code ({ cls := "LevelTablesModel", name := "present", desc := "()I" } : MethodName) prog_13_method_19_code (1 : Nat) (Option.some FieldType.int)
theorem cw_Mo_present : j_cwd y_Mo_present c_Mo_present := ⟨k_1365, k_15, _, _, _, by decide, Or.inl rfl⟩
def c_Mo_put : Cond := Cond.code ({ cls := "LevelTablesModel", name := "put", desc := "(II)I" } : MethodName) prog_13_method_8_code (3 : Nat) (Option.some FieldType.int)
theorem cw_Mo_put : j_cwd y_Mo_put c_Mo_put := ⟨k_1308, k_15, _, _, _, by decide, Or.inl rfl⟩
def c_Mo_seek : Cond := Cond.code ({ cls := "LevelTablesModel", name := "seek", desc := "(IZ)I" } : MethodName) prog_13_method_16_code (7 : Nat) (Option.some FieldType.int)
theorem cw_Mo_seek : j_cwd y_Mo_seek c_Mo_seek := ⟨k_1340, k_15, _, _, _, by decide, Or.inl rfl⟩
def c_Mo_stands : Cond := Cond.code ({ cls := "LevelTablesModel", name := "stands", desc := "(II)Z" } : MethodName) prog_13_method_14_code (4 : Nat) (Option.some FieldType.boolean)
theorem cw_Mo_stands : j_cwd y_Mo_stands c_Mo_stands := ⟨k_1348, k_15, _, _, _, by decide, Or.inl rfl⟩
def c_Mo_thrown : Cond := Cond.code ({ cls := "LevelTablesModel", name := "thrown", desc := "()I" } : MethodName) prog_13_method_2_code (1 : Nat) (Option.some FieldType.int)
theorem cw_Mo_thrown : j_cwd y_Mo_thrown c_Mo_thrown := ⟨k_1292, k_15, _, _, _, by decide, Or.inl rfl⟩
def c_Mo_word : Cond := Cond.code ({ cls := "LevelTablesModel", name := "word", desc := "(I)J" } : MethodName) prog_13_method_18_code (5 : Nat) (Option.some FieldType.long)
theorem cw_Mo_word : j_cwd y_Mo_word c_Mo_word := ⟨k_1356, k_15, _, _, _, by decide, Or.inl rfl⟩
def c_Ob_checkIndex : Cond := Cond.code ({ cls := "java/util/Objects", name := "checkIndex", desc := "(II)I" } : MethodName) prog_38_method_17_code (2 : Nat) (Option.some FieldType.int)
theorem cw_Ob_checkIndex : j_cwd y_Ob_checkIndex c_Ob_checkIndex := ⟨k_355, k_23, _, _, _, by decide, Or.inl rfl⟩
def c_Pr_checkIndex : Cond := Cond.code ({ cls := "jdk/internal/util/Preconditions", name := "checkIndex", desc := "(IILjava/util/function/BiFunction;)I" } : MethodName) prog_42_method_11_code (3 : Nat) (Option.some FieldType.int)
theorem cw_Pr_checkIndex : j_cwd y_Pr_checkIndex c_Pr_checkIndex := ⟨k_358, k_24, _, _, _, by decide, Or.inl rfl⟩
def c_Ru_firstNotBefore : Cond := Cond.code ({ cls := "LevelTables$Run", name := "firstNotBefore", desc := "(LLevelTables$Version;)I" } : MethodName) prog_5_method_4_code (5 : Nat) (Option.some FieldType.int)
theorem cw_Ru_firstNotBefore : j_cwd y_Ru_firstNotBefore c_Ru_firstNotBefore := ⟨k_327, k_6, _, _, _, by decide, Or.inl rfl⟩
def c_Ru_init : Cond := Cond.code ({ cls := "LevelTables$Run", name := "<init>", desc := "()V" } : MethodName) prog_5_method_1_code (1 : Nat) (Option.none : Option Jvm.ClassFile.FieldType)
theorem cw_Ru_init : j_cwd y_Ru_init c_Ru_init := ⟨k_105, k_6, _, _, _, by decide, Or.inl rfl⟩
def c_Tb_blockOf : Cond := Cond.code ({ cls := "LevelTables$Table", name := "blockOf", desc := "(I)I" } : MethodName) prog_6_method_6_code (3 : Nat) (Option.some FieldType.int)
theorem cw_Tb_blockOf : j_cwd y_Tb_blockOf c_Tb_blockOf := ⟨k_371, k_26, _, _, _, by decide, Or.inl rfl⟩
def c_Tb_count : Cond := Cond.code ({ cls := "LevelTables$Table", name := "count", desc := "()I" } : MethodName) prog_6_method_2_code (1 : Nat) (Option.some FieldType.int)
theorem cw_Tb_count : j_cwd y_Tb_count c_Tb_count := ⟨k_632, k_26, _, _, _, by decide, Or.inl rfl⟩
def c_Tb_init : Cond := Cond.code ({ cls := "LevelTables$Table", name := "<init>", desc := "([IIJ)V" } : MethodName) prog_6_method_1_code (5 : Nat) (Option.none : Option Jvm.ClassFile.FieldType)
theorem cw_Tb_init : j_cwd y_Tb_init c_Tb_init := ⟨k_503, k_26, _, _, _, by decide, Or.inl rfl⟩
def c_Tb_release : Cond := Cond.code ({ cls := "LevelTables$Table", name := "release", desc := "(LLevelTables$Chip;)V" } : MethodName) prog_6_method_7_code (6 : Nat) (Option.none : Option Jvm.ClassFile.FieldType)
theorem cw_Tb_release : j_cwd y_Tb_release c_Tb_release := ⟨k_607, k_26, _, _, _, by decide, Or.inl rfl⟩
def c_Tb_setStart : Cond := Cond.code ({ cls := "LevelTables$Table", name := "setStart", desc := "(I)V" } : MethodName) prog_6_method_5_code (2 : Nat) (Option.none : Option Jvm.ClassFile.FieldType)
theorem cw_Tb_setStart : j_cwd y_Tb_setStart c_Tb_setStart := ⟨k_628, k_26, _, _, _, by decide, Or.inl rfl⟩
def c_Tb_start : Cond := Cond.code ({ cls := "LevelTables$Table", name := "start", desc := "()I" } : MethodName) prog_6_method_4_code (1 : Nat) (Option.some FieldType.int)
theorem cw_Tb_start : j_cwd y_Tb_start c_Tb_start := ⟨k_367, k_26, _, _, _, by decide, Or.inl rfl⟩
def c_Tb_sum : Cond := Cond.code ({ cls := "LevelTables$Table", name := "sum", desc := "()J" } : MethodName) prog_6_method_3_code (1 : Nat) (Option.some FieldType.long)
theorem cw_Tb_sum : j_cwd y_Tb_sum c_Tb_sum := ⟨k_1023, k_26, _, _, _, by decide, Or.inl rfl⟩
def c_Tb_usesItsBlocks : Cond := Cond.code ({ cls := "LevelTables$Table", name := "usesItsBlocks", desc := "(LLevelTables$Chip;)Z" } : MethodName) prog_6_method_8_code (6 : Nat) (Option.some FieldType.boolean)
theorem cw_Tb_usesItsBlocks : j_cwd y_Tb_usesItsBlocks c_Tb_usesItsBlocks := ⟨k_1006, k_26, _, _, _, by decide, Or.inl rfl⟩
def c_Tp_append : Cond := Cond.code ({ cls := "LevelTables$Tape", name := "append", desc := "(I)V" } : MethodName) prog_7_method_5_code (3 : Nat) (Option.none : Option Jvm.ClassFile.FieldType)
theorem cw_Tp_append : j_cwd y_Tp_append c_Tp_append := ⟨k_1067, k_2, _, _, _, by decide, Or.inl rfl⟩
def c_Tp_cut : Cond := Cond.code ({ cls := "LevelTables$Tape", name := "cut", desc := "(I)V" } : MethodName) prog_7_method_4_code (2 : Nat) (Option.none : Option Jvm.ClassFile.FieldType)
theorem cw_Tp_cut : j_cwd y_Tp_cut c_Tp_cut := ⟨k_1084, k_2, _, _, _, by decide, Or.inl rfl⟩
def c_Tp_hasKey : Cond := Cond.code ({ cls := "LevelTables$Tape", name := "hasKey", desc := "()Z" } : MethodName) prog_7_method_3_code (1 : Nat) (Option.some FieldType.boolean)
theorem cw_Tp_hasKey : j_cwd y_Tp_hasKey c_Tp_hasKey := ⟨k_1096, k_2, _, _, _, by decide, Or.inl rfl⟩
def c_Tp_init : Cond := Cond.code ({ cls := "LevelTables$Tape", name := "<init>", desc := "()V" } : MethodName) prog_7_method_1_code (1 : Nat) (Option.none : Option Jvm.ClassFile.FieldType)
theorem cw_Tp_init : j_cwd y_Tp_init c_Tp_init := ⟨k_47, k_2, _, _, _, by decide, Or.inl rfl⟩
def c_Tp_length : Cond := Cond.code ({ cls := "LevelTables$Tape", name := "length", desc := "()I" } : MethodName) prog_7_method_2_code (1 : Nat) (Option.some FieldType.int)
theorem cw_Tp_length : j_cwd y_Tp_length c_Tp_length := ⟨k_1052, k_2, _, _, _, by decide, Or.inl rfl⟩
def c_Tp_moveTo : Cond := Cond.code ({ cls := "LevelTables$Tape", name := "moveTo", desc := "(LLevelTables$Version;)V" } : MethodName) prog_7_method_6_code (2 : Nat) (Option.none : Option Jvm.ClassFile.FieldType)
theorem cw_Tp_moveTo : j_cwd y_Tp_moveTo c_Tp_moveTo := ⟨k_1104, k_2, _, _, _, by decide, Or.inl rfl⟩
def c_Ve_addTo : Cond := Cond.code ({ cls := "LevelTables$Version", name := "addTo", desc := "(J)J" } : MethodName) prog_8_method_16_code (6 : Nat) (Option.some FieldType.long)
theorem cw_Ve_addTo : j_cwd y_Ve_addTo c_Ve_addTo := ⟨k_596, k_8, _, _, _, by decide, Or.inl rfl⟩
def c_Ve_byteAt : Cond := Cond.code ({ cls := "LevelTables$Version", name := "byteAt", desc := "(I)J" } : MethodName) prog_8_method_15_code (2 : Nat) (Option.some FieldType.long)
theorem cw_Ve_byteAt : j_cwd y_Ve_byteAt c_Ve_byteAt := ⟨k_1244, k_8, _, _, _, by decide, Or.inl rfl⟩
def c_Ve_compareKey : Cond := Cond.code ({ cls := "LevelTables$Version", name := "compareKey", desc := "(LLevelTables$Version;)I" } : MethodName) prog_8_method_12_code (7 : Nat) (Option.some FieldType.int)
theorem cw_Ve_compareKey : j_cwd y_Ve_compareKey c_Ve_compareKey := ⟨k_390, k_8, _, _, _, by decide, Or.inl rfl⟩
def c_Ve_copy : Cond := Cond.code ({ cls := "LevelTables$Version", name := "copy", desc := "(LLevelTables$Version;)V" } : MethodName) prog_8_method_8_code (2 : Nat) (Option.none : Option Jvm.ClassFile.FieldType)
theorem cw_Ve_copy : j_cwd y_Ve_copy c_Ve_copy := ⟨k_438, k_8, _, _, _, by decide, Or.inl rfl⟩
def c_Ve_describe : Cond := Cond.code ({ cls := "LevelTables$Version", name := "describe", desc := "(IZII)V" } : MethodName) prog_8_method_11_code (5 : Nat) (Option.none : Option Jvm.ClassFile.FieldType)
theorem cw_Ve_describe : j_cwd y_Ve_describe c_Ve_describe := ⟨k_317, k_8, _, _, _, by decide, Or.inl rfl⟩
def c_Ve_eightBytes : Cond := Cond.code ({ cls := "LevelTables$Version", name := "eightBytes", desc := "(I)J" } : MethodName) prog_8_method_14_code (5 : Nat) (Option.some FieldType.long)
theorem cw_Ve_eightBytes : j_cwd y_Ve_eightBytes c_Ve_eightBytes := ⟨k_1240, k_8, _, _, _, by decide, Or.inl rfl⟩
def c_Ve_init : Cond := Cond.code ({ cls := "LevelTables$Version", name := "<init>", desc := "()V" } : MethodName) prog_8_method_1_code (1 : Nat) (Option.none : Option Jvm.ClassFile.FieldType)
theorem cw_Ve_init : j_cwd y_Ve_init c_Ve_init := ⟨k_111, k_8, _, _, _, by decide, Or.inl rfl⟩
def c_Ve_isBefore : Cond := Cond.code ({ cls := "LevelTables$Version", name := "isBefore", desc := "(LLevelTables$Version;)Z" } : MethodName) prog_8_method_13_code (3 : Nat) (Option.some FieldType.boolean)
theorem cw_Ve_isBefore : j_cwd y_Ve_isBefore c_Ve_isBefore := ⟨k_386, k_8, _, _, _, by decide, Or.inl rfl⟩
def c_Ve_isThere : Cond := Cond.code ({ cls := "LevelTables$Version", name := "isThere", desc := "()Z" } : MethodName) prog_8_method_5_code (1 : Nat) (Option.some FieldType.boolean)
theorem cw_Ve_isThere : j_cwd y_Ve_isThere c_Ve_isThere := ⟨k_468, k_8, _, _, _, by decide, Or.inl rfl⟩
def c_Ve_length : Cond := Cond.code ({ cls := "LevelTables$Version", name := "length", desc := "()I" } : MethodName) prog_8_method_3_code (1 : Nat) (Option.some FieldType.int)
theorem cw_Ve_length : j_cwd y_Ve_length c_Ve_length := ⟨k_321, k_8, _, _, _, by decide, Or.inl rfl⟩
def c_Ve_moment : Cond := Cond.code ({ cls := "LevelTables$Version", name := "moment", desc := "()I" } : MethodName) prog_8_method_4_code (1 : Nat) (Option.some FieldType.int)
theorem cw_Ve_moment : j_cwd y_Ve_moment c_Ve_moment := ⟨k_395, k_8, _, _, _, by decide, Or.inl rfl⟩
def c_Ve_place : Cond := Cond.code ({ cls := "LevelTables$Version", name := "place", desc := "()I" } : MethodName) prog_8_method_7_code (1 : Nat) (Option.some FieldType.int)
theorem cw_Ve_place : j_cwd y_Ve_place c_Ve_place := ⟨k_1205, k_8, _, _, _, by decide, Or.inl rfl⟩
def c_Ve_setKey : Cond := Cond.code ({ cls := "LevelTables$Version", name := "setKey", desc := "([BI)V" } : MethodName) prog_8_method_9_code (4 : Nat) (Option.none : Option Jvm.ClassFile.FieldType)
theorem cw_Ve_setKey : j_cwd y_Ve_setKey c_Ve_setKey := ⟨k_1108, k_8, _, _, _, by decide, Or.inl rfl⟩
def c_Ve_setMoment : Cond := Cond.code ({ cls := "LevelTables$Version", name := "setMoment", desc := "(I)V" } : MethodName) prog_8_method_10_code (2 : Nat) (Option.none : Option Jvm.ClassFile.FieldType)
theorem cw_Ve_setMoment : j_cwd y_Ve_setMoment c_Ve_setMoment := ⟨k_313, k_8, _, _, _, by decide, Or.inl rfl⟩
def c_Ve_size : Cond := Cond.code ({ cls := "LevelTables$Version", name := "size", desc := "()I" } : MethodName) prog_8_method_6_code (1 : Nat) (Option.some FieldType.int)
theorem cw_Ve_size : j_cwd y_Ve_size c_Ve_size := ⟨k_1228, k_8, _, _, _, by decide, Or.inl rfl⟩
def c_Ve_words : Cond := Cond.code ({ cls := "LevelTables$Version", name := "words", desc := "()[J" } : MethodName) prog_8_method_2_code (1 : Nat) (Option.some (FieldType.array FieldType.long))
theorem cw_Ve_words : j_cwd y_Ve_words c_Ve_words := ⟨k_302, k_8, _, _, _, by decide, Or.inl rfl⟩
def c_Vi_begin : Cond := Cond.code ({ cls := "LevelTables$Views", name := "begin", desc := "(I)V" } : MethodName) prog_9_method_5_code (2 : Nat) (Option.none : Option Jvm.ClassFile.FieldType)
theorem cw_Vi_begin : j_cwd y_Vi_begin c_Vi_begin := ⟨k_1159, k_3, _, _, _, by decide, Or.inl rfl⟩
def c_Vi_finish : Cond := Cond.code ({ cls := "LevelTables$Views", name := "finish", desc := "(I)V" } : MethodName) prog_9_method_6_code (2 : Nat) (Option.none : Option Jvm.ClassFile.FieldType)
theorem cw_Vi_finish : j_cwd y_Vi_finish c_Vi_finish := ⟨k_1170, k_3, _, _, _, by decide, Or.inl rfl⟩
def c_Vi_init : Cond := Cond.code ({ cls := "LevelTables$Views", name := "<init>", desc := "()V" } : MethodName) prog_9_method_1_code (1 : Nat) (Option.none : Option Jvm.ClassFile.FieldType)
theorem cw_Vi_init : j_cwd y_Vi_init c_Vi_init := ⟨k_61, k_3, _, _, _, by decide, Or.inl rfl⟩
def c_Vi_momentOf : Cond := Cond.code ({ cls := "LevelTables$Views", name := "momentOf", desc := "(I)I" } : MethodName) prog_9_method_4_code (2 : Nat) (Option.some FieldType.int)
theorem cw_Vi_momentOf : j_cwd y_Vi_momentOf c_Vi_momentOf := ⟨k_1155, k_3, _, _, _, by decide, Or.inl rfl⟩
def c_Vi_need : Cond := Cond.code ({ cls := "LevelTables$Views", name := "need", desc := "(II)Z" } : MethodName) prog_9_method_7_code (4 : Nat) (Option.some FieldType.boolean)
theorem cw_Vi_need : j_cwd y_Vi_need c_Vi_need := ⟨k_476, k_3, _, _, _, by decide, Or.inl rfl⟩
def c_Vi_present : Cond := Cond.code ({ cls := "LevelTables$Views", name := "present", desc := "()I" } : MethodName) prog_9_method_2_code (1 : Nat) (Option.some FieldType.int)
theorem cw_Vi_present : j_cwd y_Vi_present c_Vi_present := ⟨k_1035, k_3, _, _, _, by decide, Or.inl rfl⟩
def c_Vi_step : Cond := Cond.code ({ cls := "LevelTables$Views", name := "step", desc := "()V" } : MethodName) prog_9_method_3_code (1 : Nat) (Option.none : Option Jvm.ClassFile.FieldType)
theorem cw_Vi_step : j_cwd y_Vi_step c_Vi_step := ⟨k_1129, k_3, _, _, _, by decide, Or.inl rfl⟩
def c_Wk_advance : Cond := Cond.code ({ cls := "LevelTables$Walk", name := "advance", desc := "()Z" } : MethodName) prog_10_method_5_code (1 : Nat) (Option.some FieldType.boolean)
theorem cw_Wk_advance : j_cwd y_Wk_advance c_Wk_advance := ⟨k_443, k_13, _, _, _, by decide, Or.inl rfl⟩
def c_Wk_begin : Cond := Cond.code ({ cls := "LevelTables$Walk", name := "begin", desc := "()V" } : MethodName) prog_10_method_4_code (1 : Nat) (Option.none : Option Jvm.ClassFile.FieldType)
theorem cw_Wk_begin : j_cwd y_Wk_begin c_Wk_begin := ⟨k_429, k_13, _, _, _, by decide, Or.inl rfl⟩
def c_Wk_clear : Cond := Cond.code ({ cls := "LevelTables$Walk", name := "clear", desc := "()V" } : MethodName) prog_10_method_2_code (1 : Nat) (Option.none : Option Jvm.ClassFile.FieldType)
theorem cw_Wk_clear : j_cwd y_Wk_clear c_Wk_clear := ⟨k_403, k_13, _, _, _, by decide, Or.inl rfl⟩
def c_Wk_cover : Cond := Cond.code ({ cls := "LevelTables$Walk", name := "cover", desc := "(III)V" } : MethodName) prog_10_method_3_code (4 : Nat) (Option.none : Option Jvm.ClassFile.FieldType)
theorem cw_Wk_cover : j_cwd y_Wk_cover c_Wk_cover := ⟨k_408, k_13, _, _, _, by decide, Or.inl rfl⟩
def c_Wk_init : Cond := Cond.code ({ cls := "LevelTables$Walk", name := "<init>", desc := "([LLevelTables$Run;)V" } : MethodName) prog_10_method_1_code (3 : Nat) (Option.none : Option Jvm.ClassFile.FieldType)
theorem cw_Wk_init : j_cwd y_Wk_init c_Wk_init := ⟨k_180, k_13, _, _, _, by decide, Or.inl rfl⟩
def c_Wk_isSomethingAt : Cond := Cond.code ({ cls := "LevelTables$Walk", name := "isSomethingAt", desc := "(I)Z" } : MethodName) prog_10_method_9_code (2 : Nat) (Option.some FieldType.boolean)
theorem cw_Wk_isSomethingAt : j_cwd y_Wk_isSomethingAt c_Wk_isSomethingAt := ⟨k_1039, k_13, _, _, _, by decide, Or.inl rfl⟩
def c_Wk_takeNext : Cond := Cond.code ({ cls := "LevelTables$Walk", name := "takeNext", desc := "()Z" } : MethodName) prog_10_method_6_code (3 : Nat) (Option.some FieldType.boolean)
theorem cw_Wk_takeNext : j_cwd y_Wk_takeNext c_Wk_takeNext := ⟨k_433, k_13, _, _, _, by decide, Or.inl rfl⟩
def c_Wk_until : Cond := Cond.code ({ cls := "LevelTables$Walk", name := "until", desc := "()I" } : MethodName) prog_10_method_8_code (1 : Nat) (Option.some FieldType.int)
theorem cw_Wk_until : j_cwd y_Wk_until c_Wk_until := ⟨k_453, k_13, _, _, _, by decide, Or.inl rfl⟩
def c_Wk_version : Cond := Cond.code ({ cls := "LevelTables$Walk", name := "version", desc := "()LLevelTables$Version;" } : MethodName) prog_10_method_7_code (1 : Nat) (Option.some (FieldType.object "LevelTables$Version"))
theorem cw_Wk_version : j_cwd y_Wk_version c_Wk_version := ⟨k_449, k_13, _, _, _, by decide, Or.inl rfl⟩
def c_Wr_add : Cond := Cond.code ({ cls := "LevelTables$Writer", name := "add", desc := "(LLevelTables$Version;Z)V" } : MethodName) prog_11_method_4_code (5 : Nat) (Option.none : Option Jvm.ClassFile.FieldType)
theorem cw_Wr_add : j_cwd y_Wr_add c_Wr_add := ⟨k_480, k_14, _, _, _, by decide, Or.inl rfl⟩
def c_Wr_begin : Cond := Cond.code ({ cls := "LevelTables$Writer", name := "begin", desc := "()V" } : MethodName) prog_11_method_3_code (1 : Nat) (Option.none : Option Jvm.ClassFile.FieldType)
theorem cw_Wr_begin : j_cwd y_Wr_begin c_Wr_begin := ⟨k_421, k_14, _, _, _, by decide, Or.inl rfl⟩
def c_Wr_init : Cond := Cond.code ({ cls := "LevelTables$Writer", name := "<init>", desc := "(LLevelTables$Chip;)V" } : MethodName) prog_11_method_1_code (2 : Nat) (Option.none : Option Jvm.ClassFile.FieldType)
theorem cw_Wr_init : j_cwd y_Wr_init c_Wr_init := ⟨k_214, k_14, _, _, _, by decide, Or.inl rfl⟩
def c_Wr_seal : Cond := Cond.code ({ cls := "LevelTables$Writer", name := "seal", desc := "()V" } : MethodName) prog_11_method_5_code (2 : Nat) (Option.none : Option Jvm.ClassFile.FieldType)
theorem cw_Wr_seal : j_cwd y_Wr_seal c_Wr_seal := ⟨k_484, k_14, _, _, _, by decide, Or.inl rfl⟩
def c_Wr_tables : Cond := Cond.code ({ cls := "LevelTables$Writer", name := "tables", desc := "()Ljava/util/ArrayList;" } : MethodName) prog_11_method_2_code (1 : Nat) (Option.some (FieldType.object "java/util/ArrayList"))
theorem cw_Wr_tables : j_cwd y_Wr_tables c_Wr_tables := ⟨k_636, k_14, _, _, _, by decide, Or.inl rfl⟩
def tmL : List (MethodName × Cond) := [(y_AL_add_1, c_AL_add_1), (y_AL_add_2, c_AL_add_2), (y_AL_add_3, c_AL_add_3), (y_AL_clear, c_AL_clear), (y_AL_elementData, c_AL_elementData), (y_AL_fastRemove, c_AL_fastRemove), (y_AL_get, c_AL_get), (y_AL_grow_0, c_AL_grow_0), (y_AL_grow_1, c_AL_grow_1), (y_AL_init, c_AL_init), (y_AL_rangeCheckForAdd, c_AL_rangeCheckForAdd), (y_AL_remove, c_AL_remove), (y_AL_size, c_AL_size), (y_Ac_init, c_Ac_init), (y_Al_init, c_Al_init), (y_Ar_copyOf_2aB, c_Ar_copyOf_2aB), (y_Ar_copyOf_2aI, c_Ar_copyOf_2aI), (y_Ar_copyOf_2aLj, c_Ar_copyOf_2aLj), (y_Ar_copyOf_3, c_Ar_copyOf_3), (y_Ar_fill_2aI, c_Ar_fill_2aI), (y_Ar_fill_2aJ, c_Ar_fill_2aJ), (y_As_hugeLength, c_As_hugeLength), (y_As_newLength, c_As_newLength), (y_Ch_erase, c_Ch_erase), (y_Ch_forgetUses, c_Ch_forgetUses), (y_Ch_hasRow, c_Ch_hasRow), (y_Ch_init, c_Ch_init), (y_Ch_isMisused, c_Ch_isMisused), (y_Ch_read, c_Ch_read), (y_Ch_release, c_Ch_release), (y_Ch_take, c_Ch_take), (y_Ch_use, c_Ch_use), (y_Ch_write, c_Ch_write), (y_LT_addVersion, c_LT_addVersion), (y_LT_check, c_LT_check), (y_LT_close, c_LT_close), (y_LT_countLiving, c_LT_countLiving), (y_LT_current, c_LT_current), (y_LT_end, c_LT_end), (y_LT_feed, c_LT_feed), (y_LT_find, c_LT_find), (y_LT_flush, c_LT_flush), (y_LT_hasSomething, c_LT_hasSomething), (y_LT_init, c_LT_init), (y_LT_isSound, c_LT_isSound), (y_LT_merge, c_LT_merge), (y_LT_mergeAll, c_LT_mergeAll), (y_LT_nextMoment, c_LT_nextMoment), (y_LT_open, c_LT_open), (y_LT_out, c_LT_out), (y_LT_pushDown, c_LT_pushDown), (y_LT_put, c_LT_put), (y_LT_reachSomething, c_LT_reachSomething), (y_LT_readTapeFor, c_LT_readTapeFor), (y_LT_seek, c_LT_seek), (y_LT_show, c_LT_show), (y_LT_word, c_LT_word), (y_LT_writeNeeded, c_LT_writeNeeded), (y_LT_writeOut, c_LT_writeOut), (y_La_close, c_La_close), (y_La_current, c_La_current), (y_La_end, c_La_end), (y_La_feed, c_La_feed), (y_La_find, c_La_find), (y_La_open, c_La_open), (y_La_out, c_La_out), (y_La_put, c_La_put), (y_La_seek, c_La_seek), (y_La_word, c_La_word), (y_Lv_count, c_Lv_count), (y_Lv_firstTableBeyond, c_Lv_firstTableBeyond), (y_Lv_firstTableReaching, c_Lv_firstTableReaching), (y_Lv_init, c_Lv_init), (y_Lv_insert, c_Lv_insert), (y_Lv_isSound, c_Lv_isSound), (y_Lv_isWhole, c_Lv_isWhole), (y_Lv_load, c_Lv_load), (y_Lv_remove, c_Lv_remove), (y_Lv_renumber, c_Lv_renumber), (y_Lv_startOf, c_Lv_startOf), (y_Lv_tableCount, c_Lv_tableCount), (y_Lv_tableWith, c_Lv_tableWith), (y_Me_clear, c_Me_clear), (y_Me_count, c_Me_count), (y_Me_init, c_Me_init), (y_Me_insert, c_Me_insert), (y_Me_load, c_Me_load), (y_Mo_check, c_Mo_check), (y_Mo_close, c_Mo_close), (y_Mo_compare, c_Mo_compare), (y_Mo_compareTape, c_Mo_compareTape), (y_Mo_current, c_Mo_current), (y_Mo_end, c_Mo_end), (y_Mo_enter, c_Mo_enter), (y_Mo_fail, c_Mo_fail), (y_Mo_feed, c_Mo_feed), (y_Mo_find, c_Mo_find), (y_Mo_flush, c_Mo_flush), (y_Mo_init, c_Mo_init), (y_Mo_keyed, c_Mo_keyed), (y_Mo_merge, c_Mo_merge), (y_Mo_open, c_Mo_open), (y_Mo_out, c_Mo_out), (y_Mo_present, c_Mo_present), (y_Mo_put, c_Mo_put), (y_Mo_seek, c_Mo_seek), (y_Mo_stands, c_Mo_stands), (y_Mo_thrown, c_Mo_thrown), (y_Mo_word, c_Mo_word), (y_Ob_checkIndex, c_Ob_checkIndex), (y_Pr_checkIndex, c_Pr_checkIndex), (y_Ru_firstNotBefore, c_Ru_firstNotBefore), (y_Ru_init, c_Ru_init), (y_Tb_blockOf, c_Tb_blockOf), (y_Tb_count, c_Tb_count), (y_Tb_init, c_Tb_init), (y_Tb_release, c_Tb_release), (y_Tb_setStart, c_Tb_setStart), (y_Tb_start, c_Tb_start), (y_Tb_sum, c_Tb_sum), (y_Tb_usesItsBlocks, c_Tb_usesItsBlocks), (y_Tp_append, c_Tp_append), (y_Tp_cut, c_Tp_cut), (y_Tp_hasKey, c_Tp_hasKey), (y_Tp_init, c_Tp_init), (y_Tp_length, c_Tp_length), (y_Tp_moveTo, c_Tp_moveTo), (y_Ve_addTo, c_Ve_addTo), (y_Ve_byteAt, c_Ve_byteAt), (y_Ve_compareKey, c_Ve_compareKey), (y_Ve_copy, c_Ve_copy), (y_Ve_describe, c_Ve_describe), (y_Ve_eightBytes, c_Ve_eightBytes), (y_Ve_init, c_Ve_init), (y_Ve_isBefore, c_Ve_isBefore), (y_Ve_isThere, c_Ve_isThere), (y_Ve_length, c_Ve_length), (y_Ve_moment, c_Ve_moment), (y_Ve_place, c_Ve_place), (y_Ve_setKey, c_Ve_setKey), (y_Ve_setMoment, c_Ve_setMoment), (y_Ve_size, c_Ve_size), (y_Ve_words, c_Ve_words), (y_Vi_begin, c_Vi_begin), (y_Vi_finish, c_Vi_finish), (y_Vi_init, c_Vi_init), (y_Vi_momentOf, c_Vi_momentOf), (y_Vi_need, c_Vi_need), (y_Vi_present, c_Vi_present), (y_Vi_step, c_Vi_step), (y_Wk_advance, c_Wk_advance), (y_Wk_begin, c_Wk_begin), (y_Wk_clear, c_Wk_clear), (y_Wk_cover, c_Wk_cover), (y_Wk_init, c_Wk_init), (y_Wk_isSomethingAt, c_Wk_isSomethingAt), (y_Wk_takeNext, c_Wk_takeNext), (y_Wk_until, c_Wk_until), (y_Wk_version, c_Wk_version), (y_Wr_add, c_Wr_add), (y_Wr_begin, c_Wr_begin), (y_Wr_init, c_Wr_init), (y_Wr_seal, c_Wr_seal), (y_Wr_tables, c_Wr_tables)]
def tm (k : Nat) : MethodName × Cond := tmL.getD k (y_AL_add_1, c_AL_add_1)
def j_tab (l : List (Nat × j_S)) (pc : Nat) : j_S := match l.lookup pc with
  | some X => X
  | none => j_no
theorem j_lookup_mem {α : Type} {l : List (Nat × α)} {c : Nat} {a : α} (h : l.lookup c = some a) : (c, a) ∈ l := by
  induction l with
  | nil => cases h
  | cons q r ih =>
    obtain ⟨b, v⟩ := q
    rw [List.lookup_cons] at h
    cases hq : c == b with
    | true => rw [hq] at h; cases h; rw [beq_iff_eq.mp hq]; exact List.mem_cons_self
    | false => rw [hq] at h; exact List.mem_cons_of_mem _ (ih h)
theorem j_tab_ok {G : j_G} {tm : Nat → MethodName × Cond} {i : j_I} {l : List (Nat × j_S)} (h : ∀ q ∈ l, j_ok G tm i q.1 q.2) (pc : Nat) : j_ok G tm i pc (j_tab l pc) := by
  unfold j_tab
  split
  next X hX => exact h _ (j_lookup_mem hX)
  next => exact r_no
theorem xok0 : j_xok "java/lang/IllegalArgumentException" := by unfold j_xok; decide +kernel
theorem r_throw0 {G : j_G} {tm : Nat → MethodName × Cond} {i : j_I} {pc ix ic : Nat} (hl : Cond.classLink i.1 ix "java/lang/IllegalArgumentException" ∈ lwg) (hm : Cond.methodLink i.1 ic (Jvm.Bundle.init0 "java/lang/IllegalArgumentException") ∈ lwg) (hno : i.2.2.2.2.2 = []) (d0 : decode i.2.1 pc = .ok (.new ix, 3)) (d1 : decode i.2.1 (pc + 3) = .ok (.dup, 1)) (d2 : decode i.2.1 (pc + 4) = .ok (.invokespecial ic, 3)) (d3 : decode i.2.1 (pc + 7) = .ok (.athrow, 1)) : j_ok G tm i pc (j_th 0) := r_throw rfl (by decide +kernel) xok0 k_xi0 k_xn0 hl hm hno d0 d1 d2 d3
theorem xok1 : j_xok "java/lang/IllegalStateException" := by unfold j_xok; decide +kernel
theorem r_throw1 {G : j_G} {tm : Nat → MethodName × Cond} {i : j_I} {pc ix ic : Nat} (hl : Cond.classLink i.1 ix "java/lang/IllegalStateException" ∈ lwg) (hm : Cond.methodLink i.1 ic (Jvm.Bundle.init0 "java/lang/IllegalStateException") ∈ lwg) (hno : i.2.2.2.2.2 = []) (d0 : decode i.2.1 pc = .ok (.new ix, 3)) (d1 : decode i.2.1 (pc + 3) = .ok (.dup, 1)) (d2 : decode i.2.1 (pc + 4) = .ok (.invokespecial ic, 3)) (d3 : decode i.2.1 (pc + 7) = .ok (.athrow, 1)) : j_ok G tm i pc (j_th 1) := r_throw rfl (by decide +kernel) xok1 k_xi1 k_xn1 hl hm hno d0 d1 d2 d3
theorem xok2 : j_xok "java/lang/IndexOutOfBoundsException" := by unfold j_xok; decide +kernel
theorem r_throw2 {G : j_G} {tm : Nat → MethodName × Cond} {i : j_I} {pc ix ic : Nat} (hl : Cond.classLink i.1 ix "java/lang/IndexOutOfBoundsException" ∈ lwg) (hm : Cond.methodLink i.1 ic (Jvm.Bundle.init0 "java/lang/IndexOutOfBoundsException") ∈ lwg) (hno : i.2.2.2.2.2 = []) (d0 : decode i.2.1 pc = .ok (.new ix, 3)) (d1 : decode i.2.1 (pc + 3) = .ok (.dup, 1)) (d2 : decode i.2.1 (pc + 4) = .ok (.invokespecial ic, 3)) (d3 : decode i.2.1 (pc + 7) = .ok (.athrow, 1)) : j_ok G tm i pc (j_th 2) := r_throw rfl (by decide +kernel) xok2 k_xi2 k_xn2 hl hm hno d0 d1 d2 d3
theorem xok3 : j_xok "java/util/NoSuchElementException" := by unfold j_xok; decide +kernel
theorem r_throw3 {G : j_G} {tm : Nat → MethodName × Cond} {i : j_I} {pc ix ic : Nat} (hl : Cond.classLink i.1 ix "java/util/NoSuchElementException" ∈ lwg) (hm : Cond.methodLink i.1 ic (Jvm.Bundle.init0 "java/util/NoSuchElementException") ∈ lwg) (hno : i.2.2.2.2.2 = []) (d0 : decode i.2.1 pc = .ok (.new ix, 3)) (d1 : decode i.2.1 (pc + 3) = .ok (.dup, 1)) (d2 : decode i.2.1 (pc + 4) = .ok (.invokespecial ic, 3)) (d3 : decode i.2.1 (pc + 7) = .ok (.athrow, 1)) : j_ok G tm i pc (j_th 3) := r_throw rfl (by decide +kernel) xok3 k_xi3 k_xn3 hl hm hno d0 d1 d2 d3
